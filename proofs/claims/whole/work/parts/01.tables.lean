-- ===== PART A: goes FIRST, ahead of the names: the tables' words, and 'selects' of the private methods out of them =====
/-- a private method of a class that the tables say can be made, by its rows of tables_1 -/
def lw_okq (q : MethodName × Nat) : Prop := (q.1.cls ≠ "java/lang/invoke/MethodHandle" ∧ q.1.cls ≠ "java/lang/invoke/VarHandle") ∧ Cond.instantiable q.1.cls q.2 ∈ tables_1 ∧ Cond.privateMethod q.1 ∈ tables_1 ∧ Cond.instanceMethod q.1 ∈ tables_1
theorem lw_p0 : lw_okq (⟨"CurvePoints$Reader", "byteAt", "(I)I"⟩, 9) := ⟨⟨by decide +kernel, by decide +kernel⟩, List.mem_of_getElem? (i := 33) (by decide +kernel), List.mem_of_getElem? (i := 409) (by decide +kernel), List.mem_of_getElem? (i := 410) (by decide +kernel)⟩
theorem lw_p1 : lw_okq (⟨"CurvePoints$Reader", "takeNumber", "(III)Z"⟩, 9) := ⟨⟨by decide +kernel, by decide +kernel⟩, List.mem_of_getElem? (i := 33) (by decide +kernel), List.mem_of_getElem? (i := 484) (by decide +kernel), List.mem_of_getElem? (i := 485) (by decide +kernel)⟩
theorem lw_p2 : lw_okq (⟨"CurvePoints$Reader", "isFlat", "()Z"⟩, 9) := ⟨⟨by decide +kernel, by decide +kernel⟩, List.mem_of_getElem? (i := 33) (by decide +kernel), List.mem_of_getElem? (i := 499) (by decide +kernel), List.mem_of_getElem? (i := 500) (by decide +kernel)⟩
theorem lw_p3 : lw_okq (⟨"CurvePoints$Reader", "takeBounds", "()Z"⟩, 9) := ⟨⟨by decide +kernel, by decide +kernel⟩, List.mem_of_getElem? (i := 33) (by decide +kernel), List.mem_of_getElem? (i := 507) (by decide +kernel), List.mem_of_getElem? (i := 508) (by decide +kernel)⟩
theorem lw_p4 : lw_okq (⟨"CurvePoints$Reader", "takeEnd", "()Z"⟩, 9) := ⟨⟨by decide +kernel, by decide +kernel⟩, List.mem_of_getElem? (i := 33) (by decide +kernel), List.mem_of_getElem? (i := 512) (by decide +kernel), List.mem_of_getElem? (i := 513) (by decide +kernel)⟩
theorem lw_p5 : lw_okq (⟨"CurvePoints", "become", "(IIII)I"⟩, 16) := ⟨⟨by decide +kernel, by decide +kernel⟩, List.mem_of_getElem? (i := 25) (by decide +kernel), List.mem_of_getElem? (i := 521) (by decide +kernel), List.mem_of_getElem? (i := 522) (by decide +kernel)⟩
theorem lw_p6 : lw_okq (⟨"CurvePoints$Sieve", "mark", "(II)V"⟩, 3) := ⟨⟨by decide +kernel, by decide +kernel⟩, List.mem_of_getElem? (i := 94) (by decide +kernel), List.mem_of_getElem? (i := 557) (by decide +kernel), List.mem_of_getElem? (i := 558) (by decide +kernel)⟩
theorem lw_p7 : lw_okq (⟨"CurvePoints$PointList", "addSpot", "(II)V"⟩, 10) := ⟨⟨by decide +kernel, by decide +kernel⟩, List.mem_of_getElem? (i := 110) (by decide +kernel), List.mem_of_getElem? (i := 570) (by decide +kernel), List.mem_of_getElem? (i := 571) (by decide +kernel)⟩
theorem lw_p8 : lw_okq (⟨"CurvePoints$PointList", "append", "(III)V"⟩, 10) := ⟨⟨by decide +kernel, by decide +kernel⟩, List.mem_of_getElem? (i := 110) (by decide +kernel), List.mem_of_getElem? (i := 592) (by decide +kernel), List.mem_of_getElem? (i := 593) (by decide +kernel)⟩
theorem lw_p9 : lw_okq (⟨"CurvePoints", "readFormula", "()I"⟩, 16) := ⟨⟨by decide +kernel, by decide +kernel⟩, List.mem_of_getElem? (i := 25) (by decide +kernel), List.mem_of_getElem? (i := 649) (by decide +kernel), List.mem_of_getElem? (i := 650) (by decide +kernel)⟩
theorem lw_p10 : lw_okq (⟨"CurvePoints", "readTerm", "(Z)I"⟩, 16) := ⟨⟨by decide +kernel, by decide +kernel⟩, List.mem_of_getElem? (i := 25) (by decide +kernel), List.mem_of_getElem? (i := 655) (by decide +kernel), List.mem_of_getElem? (i := 656) (by decide +kernel)⟩
theorem lw_p11 : lw_okq (⟨"CurvePoints$Adder", "followTangent", "(JJ)V"⟩, 8) := ⟨⟨by decide +kernel, by decide +kernel⟩, List.mem_of_getElem? (i := 154) (by decide +kernel), List.mem_of_getElem? (i := 703) (by decide +kernel), List.mem_of_getElem? (i := 704) (by decide +kernel)⟩
theorem lw_p12 : lw_okq (⟨"CurvePoints$Adder", "followChord", "(JJJJ)V"⟩, 8) := ⟨⟨by decide +kernel, by decide +kernel⟩, List.mem_of_getElem? (i := 154) (by decide +kernel), List.mem_of_getElem? (i := 710) (by decide +kernel), List.mem_of_getElem? (i := 711) (by decide +kernel)⟩
theorem lw_p13 : lw_okq (⟨"CurvePoints", "isPoint", "(I)Z"⟩, 16) := ⟨⟨by decide +kernel, by decide +kernel⟩, List.mem_of_getElem? (i := 25) (by decide +kernel), List.mem_of_getElem? (i := 756) (by decide +kernel), List.mem_of_getElem? (i := 757) (by decide +kernel)⟩
theorem lw_p14 : lw_okq (⟨"CurvePoints", "isListed", "(I)Z"⟩, 16) := ⟨⟨by decide +kernel, by decide +kernel⟩, List.mem_of_getElem? (i := 25) (by decide +kernel), List.mem_of_getElem? (i := 760) (by decide +kernel), List.mem_of_getElem? (i := 761) (by decide +kernel)⟩
theorem lw_p15 : lw_okq (⟨"CurvePoints", "tellFraction", "(II)V"⟩, 16) := ⟨⟨by decide +kernel, by decide +kernel⟩, List.mem_of_getElem? (i := 25) (by decide +kernel), List.mem_of_getElem? (i := 783) (by decide +kernel), List.mem_of_getElem? (i := 784) (by decide +kernel)⟩
def lw_privs_1 : List (MethodName × Nat) := [(⟨"CurvePoints$Reader", "byteAt", "(I)I"⟩, 9), (⟨"CurvePoints$Reader", "takeNumber", "(III)Z"⟩, 9), (⟨"CurvePoints$Reader", "isFlat", "()Z"⟩, 9), (⟨"CurvePoints$Reader", "takeBounds", "()Z"⟩, 9), (⟨"CurvePoints$Reader", "takeEnd", "()Z"⟩, 9), (⟨"CurvePoints", "become", "(IIII)I"⟩, 16), (⟨"CurvePoints$Sieve", "mark", "(II)V"⟩, 3), (⟨"CurvePoints$PointList", "addSpot", "(II)V"⟩, 10), (⟨"CurvePoints$PointList", "append", "(III)V"⟩, 10), (⟨"CurvePoints", "readFormula", "()I"⟩, 16), (⟨"CurvePoints", "readTerm", "(Z)I"⟩, 16), (⟨"CurvePoints$Adder", "followTangent", "(JJ)V"⟩, 8), (⟨"CurvePoints$Adder", "followChord", "(JJJJ)V"⟩, 8), (⟨"CurvePoints", "isPoint", "(I)Z"⟩, 16), (⟨"CurvePoints", "isListed", "(I)Z"⟩, 16), (⟨"CurvePoints", "tellFraction", "(II)V"⟩, 16)]
theorem lw_r1 : ∀ q ∈ lw_privs_1, lw_okq q := List.forall_mem_cons.mpr ⟨lw_p0, List.forall_mem_cons.mpr ⟨lw_p1, List.forall_mem_cons.mpr ⟨lw_p2, List.forall_mem_cons.mpr ⟨lw_p3, List.forall_mem_cons.mpr ⟨lw_p4, List.forall_mem_cons.mpr ⟨lw_p5, List.forall_mem_cons.mpr ⟨lw_p6, List.forall_mem_cons.mpr ⟨lw_p7, List.forall_mem_cons.mpr ⟨lw_p8, List.forall_mem_cons.mpr ⟨lw_p9, List.forall_mem_cons.mpr ⟨lw_p10, List.forall_mem_cons.mpr ⟨lw_p11, List.forall_mem_cons.mpr ⟨lw_p12, List.forall_mem_cons.mpr ⟨lw_p13, List.forall_mem_cons.mpr ⟨lw_p14, List.forall_mem_cons.mpr ⟨lw_p15, fun _ h => absurd h List.not_mem_nil⟩⟩⟩⟩⟩⟩⟩⟩⟩⟩⟩⟩⟩⟩⟩⟩
theorem lw_p16 : lw_okq (⟨"CurvePoints", "tellPart", "(ILjava/lang/String;)V"⟩, 16) := ⟨⟨by decide +kernel, by decide +kernel⟩, List.mem_of_getElem? (i := 25) (by decide +kernel), List.mem_of_getElem? (i := 801) (by decide +kernel), List.mem_of_getElem? (i := 802) (by decide +kernel)⟩
theorem lw_p17 : lw_okq (⟨"CurvePoints", "besideB", "()I"⟩, 16) := ⟨⟨by decide +kernel, by decide +kernel⟩, List.mem_of_getElem? (i := 25) (by decide +kernel), List.mem_of_getElem? (i := 820) (by decide +kernel), List.mem_of_getElem? (i := 821) (by decide +kernel)⟩
theorem lw_p18 : lw_okq (⟨"CurvePoints", "change", "(IIII)I"⟩, 16) := ⟨⟨by decide +kernel, by decide +kernel⟩, List.mem_of_getElem? (i := 25) (by decide +kernel), List.mem_of_getElem? (i := 827) (by decide +kernel), List.mem_of_getElem? (i := 828) (by decide +kernel)⟩
theorem lw_p19 : lw_okq (⟨"CurvePoints$Sums", "fillTimes", "(II)V"⟩, 8) := ⟨⟨by decide +kernel, by decide +kernel⟩, List.mem_of_getElem? (i := 148) (by decide +kernel), List.mem_of_getElem? (i := 1034) (by decide +kernel), List.mem_of_getElem? (i := 1035) (by decide +kernel)⟩
theorem lw_p20 : lw_okq (⟨"CurvePoints$Sums", "reaches", "(III)Z"⟩, 8) := ⟨⟨by decide +kernel, by decide +kernel⟩, List.mem_of_getElem? (i := 148) (by decide +kernel), List.mem_of_getElem? (i := 1039) (by decide +kernel), List.mem_of_getElem? (i := 1040) (by decide +kernel)⟩
theorem lw_p21 : lw_okq (⟨"CurvePoints$Closure", "take", "(I)V"⟩, 7) := ⟨⟨by decide +kernel, by decide +kernel⟩, List.mem_of_getElem? (i := 210) (by decide +kernel), List.mem_of_getElem? (i := 1060) (by decide +kernel), List.mem_of_getElem? (i := 1061) (by decide +kernel)⟩
theorem lw_p22 : lw_okq (⟨"CurvePoints", "isByPrime", "(I)Z"⟩, 16) := ⟨⟨by decide +kernel, by decide +kernel⟩, List.mem_of_getElem? (i := 25) (by decide +kernel), List.mem_of_getElem? (i := 1097) (by decide +kernel), List.mem_of_getElem? (i := 1098) (by decide +kernel)⟩
theorem lw_p23 : lw_okq (⟨"CurvePoints$PrimeGroup", "residue", "(J)I"⟩, 13) := ⟨⟨by decide +kernel, by decide +kernel⟩, List.mem_of_getElem? (i := 238) (by decide +kernel), List.mem_of_getElem? (i := 1118) (by decide +kernel), List.mem_of_getElem? (i := 1119) (by decide +kernel)⟩
theorem lw_p24 : lw_okq (⟨"CurvePoints$PrimeGroup", "rootAt", "(I)I"⟩, 13) := ⟨⟨by decide +kernel, by decide +kernel⟩, List.mem_of_getElem? (i := 238) (by decide +kernel), List.mem_of_getElem? (i := 1124) (by decide +kernel), List.mem_of_getElem? (i := 1125) (by decide +kernel)⟩
theorem lw_p25 : lw_okq (⟨"CurvePoints", "codeBy", "(I)I"⟩, 16) := ⟨⟨by decide +kernel, by decide +kernel⟩, List.mem_of_getElem? (i := 25) (by decide +kernel), List.mem_of_getElem? (i := 1146) (by decide +kernel), List.mem_of_getElem? (i := 1147) (by decide +kernel)⟩
theorem lw_p26 : lw_okq (⟨"CurvePoints$PrimeGroup", "add", "(II)I"⟩, 13) := ⟨⟨by decide +kernel, by decide +kernel⟩, List.mem_of_getElem? (i := 238) (by decide +kernel), List.mem_of_getElem? (i := 1158) (by decide +kernel), List.mem_of_getElem? (i := 1159) (by decide +kernel)⟩
theorem lw_p27 : lw_okq (⟨"CurvePoints$PrimeGroup", "findBest", "()V"⟩, 13) := ⟨⟨by decide +kernel, by decide +kernel⟩, List.mem_of_getElem? (i := 238) (by decide +kernel), List.mem_of_getElem? (i := 1172) (by decide +kernel), List.mem_of_getElem? (i := 1173) (by decide +kernel)⟩
theorem lw_p28 : lw_okq (⟨"CurvePoints$PrimeGroup", "weigh", "(I)V"⟩, 13) := ⟨⟨by decide +kernel, by decide +kernel⟩, List.mem_of_getElem? (i := 238) (by decide +kernel), List.mem_of_getElem? (i := 1176) (by decide +kernel), List.mem_of_getElem? (i := 1177) (by decide +kernel)⟩
theorem lw_p29 : lw_okq (⟨"CurvePoints$PrimeGroup", "slotOf", "(I)I"⟩, 13) := ⟨⟨by decide +kernel, by decide +kernel⟩, List.mem_of_getElem? (i := 238) (by decide +kernel), List.mem_of_getElem? (i := 1180) (by decide +kernel), List.mem_of_getElem? (i := 1181) (by decide +kernel)⟩
theorem lw_p30 : lw_okq (⟨"CurvePoints$PrimeGroup", "fillOrders", "(I)V"⟩, 13) := ⟨⟨by decide +kernel, by decide +kernel⟩, List.mem_of_getElem? (i := 238) (by decide +kernel), List.mem_of_getElem? (i := 1184) (by decide +kernel), List.mem_of_getElem? (i := 1185) (by decide +kernel)⟩
theorem lw_p31 : lw_okq (⟨"CurvePoints", "isAlikeBy", "(III)Z"⟩, 16) := ⟨⟨by decide +kernel, by decide +kernel⟩, List.mem_of_getElem? (i := 25) (by decide +kernel), List.mem_of_getElem? (i := 1223) (by decide +kernel), List.mem_of_getElem? (i := 1224) (by decide +kernel)⟩
def lw_privs_2 : List (MethodName × Nat) := [(⟨"CurvePoints", "tellPart", "(ILjava/lang/String;)V"⟩, 16), (⟨"CurvePoints", "besideB", "()I"⟩, 16), (⟨"CurvePoints", "change", "(IIII)I"⟩, 16), (⟨"CurvePoints$Sums", "fillTimes", "(II)V"⟩, 8), (⟨"CurvePoints$Sums", "reaches", "(III)Z"⟩, 8), (⟨"CurvePoints$Closure", "take", "(I)V"⟩, 7), (⟨"CurvePoints", "isByPrime", "(I)Z"⟩, 16), (⟨"CurvePoints$PrimeGroup", "residue", "(J)I"⟩, 13), (⟨"CurvePoints$PrimeGroup", "rootAt", "(I)I"⟩, 13), (⟨"CurvePoints", "codeBy", "(I)I"⟩, 16), (⟨"CurvePoints$PrimeGroup", "add", "(II)I"⟩, 13), (⟨"CurvePoints$PrimeGroup", "findBest", "()V"⟩, 13), (⟨"CurvePoints$PrimeGroup", "weigh", "(I)V"⟩, 13), (⟨"CurvePoints$PrimeGroup", "slotOf", "(I)I"⟩, 13), (⟨"CurvePoints$PrimeGroup", "fillOrders", "(I)V"⟩, 13), (⟨"CurvePoints", "isAlikeBy", "(III)Z"⟩, 16)]
theorem lw_r2 : ∀ q ∈ lw_privs_2, lw_okq q := List.forall_mem_cons.mpr ⟨lw_p16, List.forall_mem_cons.mpr ⟨lw_p17, List.forall_mem_cons.mpr ⟨lw_p18, List.forall_mem_cons.mpr ⟨lw_p19, List.forall_mem_cons.mpr ⟨lw_p20, List.forall_mem_cons.mpr ⟨lw_p21, List.forall_mem_cons.mpr ⟨lw_p22, List.forall_mem_cons.mpr ⟨lw_p23, List.forall_mem_cons.mpr ⟨lw_p24, List.forall_mem_cons.mpr ⟨lw_p25, List.forall_mem_cons.mpr ⟨lw_p26, List.forall_mem_cons.mpr ⟨lw_p27, List.forall_mem_cons.mpr ⟨lw_p28, List.forall_mem_cons.mpr ⟨lw_p29, List.forall_mem_cons.mpr ⟨lw_p30, List.forall_mem_cons.mpr ⟨lw_p31, fun _ h => absurd h List.not_mem_nil⟩⟩⟩⟩⟩⟩⟩⟩⟩⟩⟩⟩⟩⟩⟩⟩
theorem lw_p32 : lw_okq (⟨"CurvePoints", "side", "(I)LCurvePoints$ClassTable;"⟩, 16) := ⟨⟨by decide +kernel, by decide +kernel⟩, List.mem_of_getElem? (i := 25) (by decide +kernel), List.mem_of_getElem? (i := 1247) (by decide +kernel), List.mem_of_getElem? (i := 1248) (by decide +kernel)⟩
theorem lw_p33 : lw_okq (⟨"CurvePoints$ClassTable", "gatherDivisors", "()V"⟩, 10) := ⟨⟨by decide +kernel, by decide +kernel⟩, List.mem_of_getElem? (i := 284) (by decide +kernel), List.mem_of_getElem? (i := 1255) (by decide +kernel), List.mem_of_getElem? (i := 1256) (by decide +kernel)⟩
theorem lw_p34 : lw_okq (⟨"CurvePoints$ClassTable", "addPrime", "(II)V"⟩, 10) := ⟨⟨by decide +kernel, by decide +kernel⟩, List.mem_of_getElem? (i := 284) (by decide +kernel), List.mem_of_getElem? (i := 1261) (by decide +kernel), List.mem_of_getElem? (i := 1262) (by decide +kernel)⟩
theorem lw_p35 : lw_okq (⟨"CurvePoints$ClassTable", "sortDivisors", "()V"⟩, 10) := ⟨⟨by decide +kernel, by decide +kernel⟩, List.mem_of_getElem? (i := 284) (by decide +kernel), List.mem_of_getElem? (i := 1266) (by decide +kernel), List.mem_of_getElem? (i := 1267) (by decide +kernel)⟩
theorem lw_p36 : lw_okq (⟨"CurvePoints$ClassTable", "judge", "(I)V"⟩, 10) := ⟨⟨by decide +kernel, by decide +kernel⟩, List.mem_of_getElem? (i := 284) (by decide +kernel), List.mem_of_getElem? (i := 1275) (by decide +kernel), List.mem_of_getElem? (i := 1276) (by decide +kernel)⟩
theorem lw_p37 : lw_okq (⟨"CurvePoints$ClassTable", "mayBe", "(I)Z"⟩, 10) := ⟨⟨by decide +kernel, by decide +kernel⟩, List.mem_of_getElem? (i := 284) (by decide +kernel), List.mem_of_getElem? (i := 1283) (by decide +kernel), List.mem_of_getElem? (i := 1284) (by decide +kernel)⟩
theorem lw_p38 : lw_okq (⟨"CurvePoints$ClassTable", "mayBeBy", "(III)Z"⟩, 10) := ⟨⟨by decide +kernel, by decide +kernel⟩, List.mem_of_getElem? (i := 284) (by decide +kernel), List.mem_of_getElem? (i := 1290) (by decide +kernel), List.mem_of_getElem? (i := 1291) (by decide +kernel)⟩
theorem lw_p39 : lw_okq (⟨"CurvePoints$ClassTable", "valueAt", "(JJJJ)J"⟩, 10) := ⟨⟨by decide +kernel, by decide +kernel⟩, List.mem_of_getElem? (i := 284) (by decide +kernel), List.mem_of_getElem? (i := 1298) (by decide +kernel), List.mem_of_getElem? (i := 1299) (by decide +kernel)⟩
theorem lw_p40 : lw_okq (⟨"CurvePoints$ClassTable", "search", "(II)V"⟩, 10) := ⟨⟨by decide +kernel, by decide +kernel⟩, List.mem_of_getElem? (i := 284) (by decide +kernel), List.mem_of_getElem? (i := 1307) (by decide +kernel), List.mem_of_getElem? (i := 1308) (by decide +kernel)⟩
theorem lw_p41 : lw_okq (⟨"CurvePoints$ClassTable", "mask", "(I)I"⟩, 10) := ⟨⟨by decide +kernel, by decide +kernel⟩, List.mem_of_getElem? (i := 284) (by decide +kernel), List.mem_of_getElem? (i := 1317) (by decide +kernel), List.mem_of_getElem? (i := 1318) (by decide +kernel)⟩
theorem lw_p42 : lw_okq (⟨"CurvePoints$ClassTable", "makeProducts", "(I)V"⟩, 10) := ⟨⟨by decide +kernel, by decide +kernel⟩, List.mem_of_getElem? (i := 284) (by decide +kernel), List.mem_of_getElem? (i := 1321) (by decide +kernel), List.mem_of_getElem? (i := 1322) (by decide +kernel)⟩
theorem lw_p43 : lw_okq (⟨"CurvePoints", "fillTurnRanks", "()V"⟩, 16) := ⟨⟨by decide +kernel, by decide +kernel⟩, List.mem_of_getElem? (i := 25) (by decide +kernel), List.mem_of_getElem? (i := 1379) (by decide +kernel), List.mem_of_getElem? (i := 1380) (by decide +kernel)⟩
theorem lw_p44 : lw_okq (⟨"CurvePoints", "readyBeside", "()V"⟩, 16) := ⟨⟨by decide +kernel, by decide +kernel⟩, List.mem_of_getElem? (i := 25) (by decide +kernel), List.mem_of_getElem? (i := 1391) (by decide +kernel), List.mem_of_getElem? (i := 1392) (by decide +kernel)⟩
theorem lw_p45 : lw_okq (⟨"CurvePointsModel", "begins", "()V"⟩, 58) := ⟨⟨by decide +kernel, by decide +kernel⟩, List.mem_of_getElem? (i := 1410) (by decide +kernel), List.mem_of_getElem? (i := 1606) (by decide +kernel), List.mem_of_getElem? (i := 1607) (by decide +kernel)⟩
theorem lw_p46 : lw_okq (⟨"CurvePointsModel", "advance", "()V"⟩, 58) := ⟨⟨by decide +kernel, by decide +kernel⟩, List.mem_of_getElem? (i := 1410) (by decide +kernel), List.mem_of_getElem? (i := 1610) (by decide +kernel), List.mem_of_getElem? (i := 1611) (by decide +kernel)⟩
theorem lw_p47 : lw_okq (⟨"CurvePointsModel", "see", "(I)I"⟩, 58) := ⟨⟨by decide +kernel, by decide +kernel⟩, List.mem_of_getElem? (i := 1410) (by decide +kernel), List.mem_of_getElem? (i := 1614) (by decide +kernel), List.mem_of_getElem? (i := 1615) (by decide +kernel)⟩
def lw_privs_3 : List (MethodName × Nat) := [(⟨"CurvePoints", "side", "(I)LCurvePoints$ClassTable;"⟩, 16), (⟨"CurvePoints$ClassTable", "gatherDivisors", "()V"⟩, 10), (⟨"CurvePoints$ClassTable", "addPrime", "(II)V"⟩, 10), (⟨"CurvePoints$ClassTable", "sortDivisors", "()V"⟩, 10), (⟨"CurvePoints$ClassTable", "judge", "(I)V"⟩, 10), (⟨"CurvePoints$ClassTable", "mayBe", "(I)Z"⟩, 10), (⟨"CurvePoints$ClassTable", "mayBeBy", "(III)Z"⟩, 10), (⟨"CurvePoints$ClassTable", "valueAt", "(JJJJ)J"⟩, 10), (⟨"CurvePoints$ClassTable", "search", "(II)V"⟩, 10), (⟨"CurvePoints$ClassTable", "mask", "(I)I"⟩, 10), (⟨"CurvePoints$ClassTable", "makeProducts", "(I)V"⟩, 10), (⟨"CurvePoints", "fillTurnRanks", "()V"⟩, 16), (⟨"CurvePoints", "readyBeside", "()V"⟩, 16), (⟨"CurvePointsModel", "begins", "()V"⟩, 58), (⟨"CurvePointsModel", "advance", "()V"⟩, 58), (⟨"CurvePointsModel", "see", "(I)I"⟩, 58)]
theorem lw_r3 : ∀ q ∈ lw_privs_3, lw_okq q := List.forall_mem_cons.mpr ⟨lw_p32, List.forall_mem_cons.mpr ⟨lw_p33, List.forall_mem_cons.mpr ⟨lw_p34, List.forall_mem_cons.mpr ⟨lw_p35, List.forall_mem_cons.mpr ⟨lw_p36, List.forall_mem_cons.mpr ⟨lw_p37, List.forall_mem_cons.mpr ⟨lw_p38, List.forall_mem_cons.mpr ⟨lw_p39, List.forall_mem_cons.mpr ⟨lw_p40, List.forall_mem_cons.mpr ⟨lw_p41, List.forall_mem_cons.mpr ⟨lw_p42, List.forall_mem_cons.mpr ⟨lw_p43, List.forall_mem_cons.mpr ⟨lw_p44, List.forall_mem_cons.mpr ⟨lw_p45, List.forall_mem_cons.mpr ⟨lw_p46, List.forall_mem_cons.mpr ⟨lw_p47, fun _ h => absurd h List.not_mem_nil⟩⟩⟩⟩⟩⟩⟩⟩⟩⟩⟩⟩⟩⟩⟩⟩
theorem lw_p48 : lw_okq (⟨"CurvePointsModel", "isWord", "(Ljava/lang/String;)Z"⟩, 58) := ⟨⟨by decide +kernel, by decide +kernel⟩, List.mem_of_getElem? (i := 1410) (by decide +kernel), List.mem_of_getElem? (i := 1625) (by decide +kernel), List.mem_of_getElem? (i := 1626) (by decide +kernel)⟩
theorem lw_p49 : lw_okq (⟨"CurvePointsModel", "good", "()Z"⟩, 58) := ⟨⟨by decide +kernel, by decide +kernel⟩, List.mem_of_getElem? (i := 1410) (by decide +kernel), List.mem_of_getElem? (i := 1629) (by decide +kernel), List.mem_of_getElem? (i := 1630) (by decide +kernel)⟩
theorem lw_p50 : lw_okq (⟨"CurvePointsModel", "errs", "(II)V"⟩, 58) := ⟨⟨by decide +kernel, by decide +kernel⟩, List.mem_of_getElem? (i := 1410) (by decide +kernel), List.mem_of_getElem? (i := 1635) (by decide +kernel), List.mem_of_getElem? (i := 1636) (by decide +kernel)⟩
theorem lw_p51 : lw_okq (⟨"CurvePointsModel", "signed", "(I)I"⟩, 58) := ⟨⟨by decide +kernel, by decide +kernel⟩, List.mem_of_getElem? (i := 1410) (by decide +kernel), List.mem_of_getElem? (i := 1639) (by decide +kernel), List.mem_of_getElem? (i := 1640) (by decide +kernel)⟩
theorem lw_p52 : lw_okq (⟨"CurvePointsModel", "isSign", "(I)Z"⟩, 58) := ⟨⟨by decide +kernel, by decide +kernel⟩, List.mem_of_getElem? (i := 1410) (by decide +kernel), List.mem_of_getElem? (i := 1643) (by decide +kernel), List.mem_of_getElem? (i := 1644) (by decide +kernel)⟩
theorem lw_p53 : lw_okq (⟨"CurvePointsModel", "number", "(II)I"⟩, 58) := ⟨⟨by decide +kernel, by decide +kernel⟩, List.mem_of_getElem? (i := 1410) (by decide +kernel), List.mem_of_getElem? (i := 1647) (by decide +kernel), List.mem_of_getElem? (i := 1648) (by decide +kernel)⟩
theorem lw_p54 : lw_okq (⟨"CurvePointsModel", "becomes", "(IIII)V"⟩, 58) := ⟨⟨by decide +kernel, by decide +kernel⟩, List.mem_of_getElem? (i := 1410) (by decide +kernel), List.mem_of_getElem? (i := 1656) (by decide +kernel), List.mem_of_getElem? (i := 1657) (by decide +kernel)⟩
theorem lw_p55 : lw_okq (⟨"CurvePointsModel", "lays", "()V"⟩, 58) := ⟨⟨by decide +kernel, by decide +kernel⟩, List.mem_of_getElem? (i := 1410) (by decide +kernel), List.mem_of_getElem? (i := 1660) (by decide +kernel), List.mem_of_getElem? (i := 1661) (by decide +kernel)⟩
theorem lw_p56 : lw_okq (⟨"CurvePointsModel", "adds", "(IJI)V"⟩, 58) := ⟨⟨by decide +kernel, by decide +kernel⟩, List.mem_of_getElem? (i := 1410) (by decide +kernel), List.mem_of_getElem? (i := 1676) (by decide +kernel), List.mem_of_getElem? (i := 1677) (by decide +kernel)⟩
theorem lw_p57 : lw_okq (⟨"CurvePointsModel", "isListed", "(I)Z"⟩, 58) := ⟨⟨by decide +kernel, by decide +kernel⟩, List.mem_of_getElem? (i := 1410) (by decide +kernel), List.mem_of_getElem? (i := 1697) (by decide +kernel), List.mem_of_getElem? (i := 1698) (by decide +kernel)⟩
theorem lw_p58 : lw_okq (⟨"CurvePointsModel", "isPoint", "(I)Z"⟩, 58) := ⟨⟨by decide +kernel, by decide +kernel⟩, List.mem_of_getElem? (i := 1410) (by decide +kernel), List.mem_of_getElem? (i := 1713) (by decide +kernel), List.mem_of_getElem? (i := 1714) (by decide +kernel)⟩
theorem lw_p59 : lw_okq (⟨"CurvePointsModel", "turnedOf", "(I)I"⟩, 58) := ⟨⟨by decide +kernel, by decide +kernel⟩, List.mem_of_getElem? (i := 1410) (by decide +kernel), List.mem_of_getElem? (i := 1717) (by decide +kernel), List.mem_of_getElem? (i := 1718) (by decide +kernel)⟩
theorem lw_p60 : lw_okq (⟨"CurvePointsModel", "find", "(JJJ)I"⟩, 58) := ⟨⟨by decide +kernel, by decide +kernel⟩, List.mem_of_getElem? (i := 1410) (by decide +kernel), List.mem_of_getElem? (i := 1721) (by decide +kernel), List.mem_of_getElem? (i := 1722) (by decide +kernel)⟩
theorem lw_p61 : lw_okq (⟨"CurvePointsModel", "sumOf", "(III)I"⟩, 58) := ⟨⟨by decide +kernel, by decide +kernel⟩, List.mem_of_getElem? (i := 1410) (by decide +kernel), List.mem_of_getElem? (i := 1729) (by decide +kernel), List.mem_of_getElem? (i := 1730) (by decide +kernel)⟩
theorem lw_p62 : lw_okq (⟨"CurvePointsModel", "joins", "(III)V"⟩, 58) := ⟨⟨by decide +kernel, by decide +kernel⟩, List.mem_of_getElem? (i := 1410) (by decide +kernel), List.mem_of_getElem? (i := 1733) (by decide +kernel), List.mem_of_getElem? (i := 1734) (by decide +kernel)⟩
theorem lw_p63 : lw_okq (⟨"CurvePointsModel", "lowers", "(JJ)V"⟩, 58) := ⟨⟨by decide +kernel, by decide +kernel⟩, List.mem_of_getElem? (i := 1410) (by decide +kernel), List.mem_of_getElem? (i := 1738) (by decide +kernel), List.mem_of_getElem? (i := 1739) (by decide +kernel)⟩
def lw_privs_4 : List (MethodName × Nat) := [(⟨"CurvePointsModel", "isWord", "(Ljava/lang/String;)Z"⟩, 58), (⟨"CurvePointsModel", "good", "()Z"⟩, 58), (⟨"CurvePointsModel", "errs", "(II)V"⟩, 58), (⟨"CurvePointsModel", "signed", "(I)I"⟩, 58), (⟨"CurvePointsModel", "isSign", "(I)Z"⟩, 58), (⟨"CurvePointsModel", "number", "(II)I"⟩, 58), (⟨"CurvePointsModel", "becomes", "(IIII)V"⟩, 58), (⟨"CurvePointsModel", "lays", "()V"⟩, 58), (⟨"CurvePointsModel", "adds", "(IJI)V"⟩, 58), (⟨"CurvePointsModel", "isListed", "(I)Z"⟩, 58), (⟨"CurvePointsModel", "isPoint", "(I)Z"⟩, 58), (⟨"CurvePointsModel", "turnedOf", "(I)I"⟩, 58), (⟨"CurvePointsModel", "find", "(JJJ)I"⟩, 58), (⟨"CurvePointsModel", "sumOf", "(III)I"⟩, 58), (⟨"CurvePointsModel", "joins", "(III)V"⟩, 58), (⟨"CurvePointsModel", "lowers", "(JJ)V"⟩, 58)]
theorem lw_r4 : ∀ q ∈ lw_privs_4, lw_okq q := List.forall_mem_cons.mpr ⟨lw_p48, List.forall_mem_cons.mpr ⟨lw_p49, List.forall_mem_cons.mpr ⟨lw_p50, List.forall_mem_cons.mpr ⟨lw_p51, List.forall_mem_cons.mpr ⟨lw_p52, List.forall_mem_cons.mpr ⟨lw_p53, List.forall_mem_cons.mpr ⟨lw_p54, List.forall_mem_cons.mpr ⟨lw_p55, List.forall_mem_cons.mpr ⟨lw_p56, List.forall_mem_cons.mpr ⟨lw_p57, List.forall_mem_cons.mpr ⟨lw_p58, List.forall_mem_cons.mpr ⟨lw_p59, List.forall_mem_cons.mpr ⟨lw_p60, List.forall_mem_cons.mpr ⟨lw_p61, List.forall_mem_cons.mpr ⟨lw_p62, List.forall_mem_cons.mpr ⟨lw_p63, fun _ h => absurd h List.not_mem_nil⟩⟩⟩⟩⟩⟩⟩⟩⟩⟩⟩⟩⟩⟩⟩⟩
theorem lw_p64 : lw_okq (⟨"CurvePointsModel", "timesOf", "(II)I"⟩, 58) := ⟨⟨by decide +kernel, by decide +kernel⟩, List.mem_of_getElem? (i := 1410) (by decide +kernel), List.mem_of_getElem? (i := 1756) (by decide +kernel), List.mem_of_getElem? (i := 1757) (by decide +kernel)⟩
theorem lw_p65 : lw_okq (⟨"CurvePointsModel", "orderOf", "(I)I"⟩, 58) := ⟨⟨by decide +kernel, by decide +kernel⟩, List.mem_of_getElem? (i := 1410) (by decide +kernel), List.mem_of_getElem? (i := 1765) (by decide +kernel), List.mem_of_getElem? (i := 1766) (by decide +kernel)⟩
theorem lw_p66 : lw_okq (⟨"CurvePointsModel", "termHere", "()I"⟩, 58) := ⟨⟨by decide +kernel, by decide +kernel⟩, List.mem_of_getElem? (i := 1410) (by decide +kernel), List.mem_of_getElem? (i := 1778) (by decide +kernel), List.mem_of_getElem? (i := 1779) (by decide +kernel)⟩
theorem lw_p67 : lw_okq (⟨"CurvePointsModel", "pointHere", "(I)I"⟩, 58) := ⟨⟨by decide +kernel, by decide +kernel⟩, List.mem_of_getElem? (i := 1410) (by decide +kernel), List.mem_of_getElem? (i := 1783) (by decide +kernel), List.mem_of_getElem? (i := 1784) (by decide +kernel)⟩
theorem lw_p68 : lw_okq (⟨"CurvePointsModel", "sumSigned", "(III)I"⟩, 58) := ⟨⟨by decide +kernel, by decide +kernel⟩, List.mem_of_getElem? (i := 1410) (by decide +kernel), List.mem_of_getElem? (i := 1788) (by decide +kernel), List.mem_of_getElem? (i := 1789) (by decide +kernel)⟩
theorem lw_p69 : lw_okq (⟨"CurvePointsModel", "isGoodPrime", "(I)Z"⟩, 58) := ⟨⟨by decide +kernel, by decide +kernel⟩, List.mem_of_getElem? (i := 1410) (by decide +kernel), List.mem_of_getElem? (i := 1796) (by decide +kernel), List.mem_of_getElem? (i := 1797) (by decide +kernel)⟩
theorem lw_p70 : lw_okq (⟨"CurvePointsModel", "manyOf", "(I)I"⟩, 58) := ⟨⟨by decide +kernel, by decide +kernel⟩, List.mem_of_getElem? (i := 1410) (by decide +kernel), List.mem_of_getElem? (i := 1803) (by decide +kernel), List.mem_of_getElem? (i := 1804) (by decide +kernel)⟩
theorem lw_p71 : lw_okq (⟨"CurvePointsModel", "laysBest", "(I)V"⟩, 58) := ⟨⟨by decide +kernel, by decide +kernel⟩, List.mem_of_getElem? (i := 1410) (by decide +kernel), List.mem_of_getElem? (i := 1822) (by decide +kernel), List.mem_of_getElem? (i := 1823) (by decide +kernel)⟩
theorem lw_p72 : lw_okq (⟨"CurvePointsModel", "orderFrom", "(III)I"⟩, 58) := ⟨⟨by decide +kernel, by decide +kernel⟩, List.mem_of_getElem? (i := 1410) (by decide +kernel), List.mem_of_getElem? (i := 1826) (by decide +kernel), List.mem_of_getElem? (i := 1827) (by decide +kernel)⟩
theorem lw_p73 : lw_okq (⟨"CurvePointsModel", "addsBy", "(III)V"⟩, 58) := ⟨⟨by decide +kernel, by decide +kernel⟩, List.mem_of_getElem? (i := 1410) (by decide +kernel), List.mem_of_getElem? (i := 1830) (by decide +kernel), List.mem_of_getElem? (i := 1831) (by decide +kernel)⟩
theorem lw_p74 : lw_okq (⟨"CurvePointsModel", "starts", "(II)V"⟩, 58) := ⟨⟨by decide +kernel, by decide +kernel⟩, List.mem_of_getElem? (i := 1410) (by decide +kernel), List.mem_of_getElem? (i := 1845) (by decide +kernel), List.mem_of_getElem? (i := 1846) (by decide +kernel)⟩
theorem lw_p75 : lw_okq (⟨"CurvePointsModel", "laysSide", "(I)V"⟩, 58) := ⟨⟨by decide +kernel, by decide +kernel⟩, List.mem_of_getElem? (i := 1410) (by decide +kernel), List.mem_of_getElem? (i := 1857) (by decide +kernel), List.mem_of_getElem? (i := 1858) (by decide +kernel)⟩
theorem lw_p76 : lw_okq (⟨"CurvePointsModel", "seeks", "(I)Z"⟩, 58) := ⟨⟨by decide +kernel, by decide +kernel⟩, List.mem_of_getElem? (i := 1410) (by decide +kernel), List.mem_of_getElem? (i := 1865) (by decide +kernel), List.mem_of_getElem? (i := 1866) (by decide +kernel)⟩
theorem lw_p77 : lw_okq (⟨"CurvePointsModel", "worthOf", "(JJJ)J"⟩, 58) := ⟨⟨by decide +kernel, by decide +kernel⟩, List.mem_of_getElem? (i := 1410) (by decide +kernel), List.mem_of_getElem? (i := 1869) (by decide +kernel), List.mem_of_getElem? (i := 1870) (by decide +kernel)⟩
theorem lw_p78 : lw_okq (⟨"CurvePointsModel", "bySigns", "(J)Z"⟩, 58) := ⟨⟨by decide +kernel, by decide +kernel⟩, List.mem_of_getElem? (i := 1410) (by decide +kernel), List.mem_of_getElem? (i := 1873) (by decide +kernel), List.mem_of_getElem? (i := 1874) (by decide +kernel)⟩
theorem lw_p79 : lw_okq (⟨"CurvePointsModel", "byRemainders", "(J)Z"⟩, 58) := ⟨⟨by decide +kernel, by decide +kernel⟩, List.mem_of_getElem? (i := 1410) (by decide +kernel), List.mem_of_getElem? (i := 1877) (by decide +kernel), List.mem_of_getElem? (i := 1878) (by decide +kernel)⟩
def lw_privs_5 : List (MethodName × Nat) := [(⟨"CurvePointsModel", "timesOf", "(II)I"⟩, 58), (⟨"CurvePointsModel", "orderOf", "(I)I"⟩, 58), (⟨"CurvePointsModel", "termHere", "()I"⟩, 58), (⟨"CurvePointsModel", "pointHere", "(I)I"⟩, 58), (⟨"CurvePointsModel", "sumSigned", "(III)I"⟩, 58), (⟨"CurvePointsModel", "isGoodPrime", "(I)Z"⟩, 58), (⟨"CurvePointsModel", "manyOf", "(I)I"⟩, 58), (⟨"CurvePointsModel", "laysBest", "(I)V"⟩, 58), (⟨"CurvePointsModel", "orderFrom", "(III)I"⟩, 58), (⟨"CurvePointsModel", "addsBy", "(III)V"⟩, 58), (⟨"CurvePointsModel", "starts", "(II)V"⟩, 58), (⟨"CurvePointsModel", "laysSide", "(I)V"⟩, 58), (⟨"CurvePointsModel", "seeks", "(I)Z"⟩, 58), (⟨"CurvePointsModel", "worthOf", "(JJJ)J"⟩, 58), (⟨"CurvePointsModel", "bySigns", "(J)Z"⟩, 58), (⟨"CurvePointsModel", "byRemainders", "(J)Z"⟩, 58)]
theorem lw_r5 : ∀ q ∈ lw_privs_5, lw_okq q := List.forall_mem_cons.mpr ⟨lw_p64, List.forall_mem_cons.mpr ⟨lw_p65, List.forall_mem_cons.mpr ⟨lw_p66, List.forall_mem_cons.mpr ⟨lw_p67, List.forall_mem_cons.mpr ⟨lw_p68, List.forall_mem_cons.mpr ⟨lw_p69, List.forall_mem_cons.mpr ⟨lw_p70, List.forall_mem_cons.mpr ⟨lw_p71, List.forall_mem_cons.mpr ⟨lw_p72, List.forall_mem_cons.mpr ⟨lw_p73, List.forall_mem_cons.mpr ⟨lw_p74, List.forall_mem_cons.mpr ⟨lw_p75, List.forall_mem_cons.mpr ⟨lw_p76, List.forall_mem_cons.mpr ⟨lw_p77, List.forall_mem_cons.mpr ⟨lw_p78, List.forall_mem_cons.mpr ⟨lw_p79, fun _ h => absurd h List.not_mem_nil⟩⟩⟩⟩⟩⟩⟩⟩⟩⟩⟩⟩⟩⟩⟩⟩
theorem lw_p80 : lw_okq (⟨"CurvePointsModel", "byOne", "(JII)Z"⟩, 58) := ⟨⟨by decide +kernel, by decide +kernel⟩, List.mem_of_getElem? (i := 1410) (by decide +kernel), List.mem_of_getElem? (i := 1881) (by decide +kernel), List.mem_of_getElem? (i := 1882) (by decide +kernel)⟩
theorem lw_p81 : lw_okq (⟨"CurvePointsModel", "laysMade", "()V"⟩, 58) := ⟨⟨by decide +kernel, by decide +kernel⟩, List.mem_of_getElem? (i := 1410) (by decide +kernel), List.mem_of_getElem? (i := 1885) (by decide +kernel), List.mem_of_getElem? (i := 1886) (by decide +kernel)⟩
theorem lw_p82 : lw_okq (⟨"CurvePointsModel", "classFor", "(J)I"⟩, 58) := ⟨⟨by decide +kernel, by decide +kernel⟩, List.mem_of_getElem? (i := 1410) (by decide +kernel), List.mem_of_getElem? (i := 1892) (by decide +kernel), List.mem_of_getElem? (i := 1893) (by decide +kernel)⟩
theorem lw_p83 : lw_okq (⟨"CurvePointsModel", "manyOfKind", "(I)I"⟩, 58) := ⟨⟨by decide +kernel, by decide +kernel⟩, List.mem_of_getElem? (i := 1410) (by decide +kernel), List.mem_of_getElem? (i := 1896) (by decide +kernel), List.mem_of_getElem? (i := 1897) (by decide +kernel)⟩
theorem lw_p84 : lw_okq (⟨"CurvePointsModel", "laysOver", "()V"⟩, 58) := ⟨⟨by decide +kernel, by decide +kernel⟩, List.mem_of_getElem? (i := 1410) (by decide +kernel), List.mem_of_getElem? (i := 1927) (by decide +kernel), List.mem_of_getElem? (i := 1928) (by decide +kernel)⟩
theorem lw_p85 : lw_okq (⟨"CurvePointsModel", "addsOver", "(IJI)V"⟩, 58) := ⟨⟨by decide +kernel, by decide +kernel⟩, List.mem_of_getElem? (i := 1410) (by decide +kernel), List.mem_of_getElem? (i := 1931) (by decide +kernel), List.mem_of_getElem? (i := 1932) (by decide +kernel)⟩
theorem lw_p86 : lw_okq (⟨"CurvePointsModel", "eWithin", "(JJ)J"⟩, 58) := ⟨⟨by decide +kernel, by decide +kernel⟩, List.mem_of_getElem? (i := 1410) (by decide +kernel), List.mem_of_getElem? (i := 1943) (by decide +kernel), List.mem_of_getElem? (i := 1944) (by decide +kernel)⟩
theorem lw_p87 : lw_okq (⟨"CurvePointsModel", "findOver", "(JJJ)I"⟩, 58) := ⟨⟨by decide +kernel, by decide +kernel⟩, List.mem_of_getElem? (i := 1410) (by decide +kernel), List.mem_of_getElem? (i := 1947) (by decide +kernel), List.mem_of_getElem? (i := 1948) (by decide +kernel)⟩
theorem lw_p88 : lw_okq (⟨"CurvePointsModel", "areAlikeBy", "(III)Z"⟩, 58) := ⟨⟨by decide +kernel, by decide +kernel⟩, List.mem_of_getElem? (i := 1410) (by decide +kernel), List.mem_of_getElem? (i := 1973) (by decide +kernel), List.mem_of_getElem? (i := 1974) (by decide +kernel)⟩
theorem lw_p89 : lw_okq (⟨"CurvePointsModel", "deepOf", "(I)I"⟩, 58) := ⟨⟨by decide +kernel, by decide +kernel⟩, List.mem_of_getElem? (i := 1410) (by decide +kernel), List.mem_of_getElem? (i := 1999) (by decide +kernel), List.mem_of_getElem? (i := 2000) (by decide +kernel)⟩
theorem lw_p90 : lw_okq (⟨"CurvePointsModel", "isSolved", "(IIIII)Z"⟩, 58) := ⟨⟨by decide +kernel, by decide +kernel⟩, List.mem_of_getElem? (i := 1410) (by decide +kernel), List.mem_of_getElem? (i := 2007) (by decide +kernel), List.mem_of_getElem? (i := 2008) (by decide +kernel)⟩
theorem lw_p91 : lw_okq (⟨"CurvePointsModel", "areTurned", "(II)Z"⟩, 58) := ⟨⟨by decide +kernel, by decide +kernel⟩, List.mem_of_getElem? (i := 1410) (by decide +kernel), List.mem_of_getElem? (i := 2020) (by decide +kernel), List.mem_of_getElem? (i := 2021) (by decide +kernel)⟩
theorem lw_p92 : lw_okq (⟨"CurvePointsModel", "heightAt", "(I)J"⟩, 58) := ⟨⟨by decide +kernel, by decide +kernel⟩, List.mem_of_getElem? (i := 1410) (by decide +kernel), List.mem_of_getElem? (i := 2051) (by decide +kernel), List.mem_of_getElem? (i := 2052) (by decide +kernel)⟩
theorem lw_p93 : lw_okq (⟨"CurvePointsModel", "bitsOfSum", "(III)I"⟩, 58) := ⟨⟨by decide +kernel, by decide +kernel⟩, List.mem_of_getElem? (i := 1410) (by decide +kernel), List.mem_of_getElem? (i := 2062) (by decide +kernel), List.mem_of_getElem? (i := 2063) (by decide +kernel)⟩
theorem lw_p94 : lw_okq (⟨"CurvePointsModel", "laysIn", "()V"⟩, 58) := ⟨⟨by decide +kernel, by decide +kernel⟩, List.mem_of_getElem? (i := 1410) (by decide +kernel), List.mem_of_getElem? (i := 2079) (by decide +kernel), List.mem_of_getElem? (i := 2080) (by decide +kernel)⟩
theorem lw_p95 : lw_okq (⟨"CurvePointsModel", "placeOf", "(I)I"⟩, 58) := ⟨⟨by decide +kernel, by decide +kernel⟩, List.mem_of_getElem? (i := 1410) (by decide +kernel), List.mem_of_getElem? (i := 2083) (by decide +kernel), List.mem_of_getElem? (i := 2084) (by decide +kernel)⟩
def lw_privs_6 : List (MethodName × Nat) := [(⟨"CurvePointsModel", "byOne", "(JII)Z"⟩, 58), (⟨"CurvePointsModel", "laysMade", "()V"⟩, 58), (⟨"CurvePointsModel", "classFor", "(J)I"⟩, 58), (⟨"CurvePointsModel", "manyOfKind", "(I)I"⟩, 58), (⟨"CurvePointsModel", "laysOver", "()V"⟩, 58), (⟨"CurvePointsModel", "addsOver", "(IJI)V"⟩, 58), (⟨"CurvePointsModel", "eWithin", "(JJ)J"⟩, 58), (⟨"CurvePointsModel", "findOver", "(JJJ)I"⟩, 58), (⟨"CurvePointsModel", "areAlikeBy", "(III)Z"⟩, 58), (⟨"CurvePointsModel", "deepOf", "(I)I"⟩, 58), (⟨"CurvePointsModel", "isSolved", "(IIIII)Z"⟩, 58), (⟨"CurvePointsModel", "areTurned", "(II)Z"⟩, 58), (⟨"CurvePointsModel", "heightAt", "(I)J"⟩, 58), (⟨"CurvePointsModel", "bitsOfSum", "(III)I"⟩, 58), (⟨"CurvePointsModel", "laysIn", "()V"⟩, 58), (⟨"CurvePointsModel", "placeOf", "(I)I"⟩, 58)]
theorem lw_r6 : ∀ q ∈ lw_privs_6, lw_okq q := List.forall_mem_cons.mpr ⟨lw_p80, List.forall_mem_cons.mpr ⟨lw_p81, List.forall_mem_cons.mpr ⟨lw_p82, List.forall_mem_cons.mpr ⟨lw_p83, List.forall_mem_cons.mpr ⟨lw_p84, List.forall_mem_cons.mpr ⟨lw_p85, List.forall_mem_cons.mpr ⟨lw_p86, List.forall_mem_cons.mpr ⟨lw_p87, List.forall_mem_cons.mpr ⟨lw_p88, List.forall_mem_cons.mpr ⟨lw_p89, List.forall_mem_cons.mpr ⟨lw_p90, List.forall_mem_cons.mpr ⟨lw_p91, List.forall_mem_cons.mpr ⟨lw_p92, List.forall_mem_cons.mpr ⟨lw_p93, List.forall_mem_cons.mpr ⟨lw_p94, List.forall_mem_cons.mpr ⟨lw_p95, fun _ h => absurd h List.not_mem_nil⟩⟩⟩⟩⟩⟩⟩⟩⟩⟩⟩⟩⟩⟩⟩⟩
theorem lw_p96 : lw_okq (⟨"CurvePointsModel", "isRelated", "(IIII)Z"⟩, 58) := ⟨⟨by decide +kernel, by decide +kernel⟩, List.mem_of_getElem? (i := 1410) (by decide +kernel), List.mem_of_getElem? (i := 2095) (by decide +kernel), List.mem_of_getElem? (i := 2096) (by decide +kernel)⟩
theorem lw_p97 : lw_okq (⟨"CurvePointsModel", "isRound", "(I)Z"⟩, 58) := ⟨⟨by decide +kernel, by decide +kernel⟩, List.mem_of_getElem? (i := 1410) (by decide +kernel), List.mem_of_getElem? (i := 2099) (by decide +kernel), List.mem_of_getElem? (i := 2100) (by decide +kernel)⟩
theorem lw_p98 : lw_okq (⟨"CurvePointsModel", "becomesOther", "(JJ)I"⟩, 58) := ⟨⟨by decide +kernel, by decide +kernel⟩, List.mem_of_getElem? (i := 1410) (by decide +kernel), List.mem_of_getElem? (i := 2116) (by decide +kernel), List.mem_of_getElem? (i := 2117) (by decide +kernel)⟩
theorem lw_p99 : lw_okq (⟨"CurvePointsModel", "keeps", "()V"⟩, 58) := ⟨⟨by decide +kernel, by decide +kernel⟩, List.mem_of_getElem? (i := 1410) (by decide +kernel), List.mem_of_getElem? (i := 2120) (by decide +kernel), List.mem_of_getElem? (i := 2121) (by decide +kernel)⟩
theorem lw_p100 : lw_okq (⟨"CurvePointsModel", "puts", "(I)V"⟩, 58) := ⟨⟨by decide +kernel, by decide +kernel⟩, List.mem_of_getElem? (i := 1410) (by decide +kernel), List.mem_of_getElem? (i := 2137) (by decide +kernel), List.mem_of_getElem? (i := 2138) (by decide +kernel)⟩
theorem lw_p101 : lw_okq (⟨"CurvePointsModel", "tellsBy", "(JJ)V"⟩, 58) := ⟨⟨by decide +kernel, by decide +kernel⟩, List.mem_of_getElem? (i := 1410) (by decide +kernel), List.mem_of_getElem? (i := 2141) (by decide +kernel), List.mem_of_getElem? (i := 2142) (by decide +kernel)⟩
theorem lw_p102 : lw_okq (⟨"CurvePointsModel", "tellsNumber", "(J)V"⟩, 58) := ⟨⟨by decide +kernel, by decide +kernel⟩, List.mem_of_getElem? (i := 1410) (by decide +kernel), List.mem_of_getElem? (i := 2145) (by decide +kernel), List.mem_of_getElem? (i := 2146) (by decide +kernel)⟩
theorem lw_p103 : lw_okq (⟨"CurvePointsModel", "tellsPart", "(JI)V"⟩, 58) := ⟨⟨by decide +kernel, by decide +kernel⟩, List.mem_of_getElem? (i := 1410) (by decide +kernel), List.mem_of_getElem? (i := 2154) (by decide +kernel), List.mem_of_getElem? (i := 2155) (by decide +kernel)⟩
def lw_privs_7 : List (MethodName × Nat) := [(⟨"CurvePointsModel", "isRelated", "(IIII)Z"⟩, 58), (⟨"CurvePointsModel", "isRound", "(I)Z"⟩, 58), (⟨"CurvePointsModel", "becomesOther", "(JJ)I"⟩, 58), (⟨"CurvePointsModel", "keeps", "()V"⟩, 58), (⟨"CurvePointsModel", "puts", "(I)V"⟩, 58), (⟨"CurvePointsModel", "tellsBy", "(JJ)V"⟩, 58), (⟨"CurvePointsModel", "tellsNumber", "(J)V"⟩, 58), (⟨"CurvePointsModel", "tellsPart", "(JI)V"⟩, 58)]
theorem lw_r7 : ∀ q ∈ lw_privs_7, lw_okq q := List.forall_mem_cons.mpr ⟨lw_p96, List.forall_mem_cons.mpr ⟨lw_p97, List.forall_mem_cons.mpr ⟨lw_p98, List.forall_mem_cons.mpr ⟨lw_p99, List.forall_mem_cons.mpr ⟨lw_p100, List.forall_mem_cons.mpr ⟨lw_p101, List.forall_mem_cons.mpr ⟨lw_p102, List.forall_mem_cons.mpr ⟨lw_p103, fun _ h => absurd h List.not_mem_nil⟩⟩⟩⟩⟩⟩⟩⟩
def lw_privs : List (MethodName × Nat) := lw_privs_1 ++ (lw_privs_2 ++ (lw_privs_3 ++ (lw_privs_4 ++ (lw_privs_5 ++ (lw_privs_6 ++ (lw_privs_7))))))
def lw_tbl : List Cond := k2_sels lw_privs ++ tables_1
theorem lw_privs_ok : ∀ q ∈ lw_privs, lw_okq q := by
  show ∀ q ∈ lw_privs_1 ++ (lw_privs_2 ++ (lw_privs_3 ++ (lw_privs_4 ++ (lw_privs_5 ++ (lw_privs_6 ++ (lw_privs_7)))))), lw_okq q
  exact List.forall_mem_append.mpr ⟨lw_r1, List.forall_mem_append.mpr ⟨lw_r2, List.forall_mem_append.mpr ⟨lw_r3, List.forall_mem_append.mpr ⟨lw_r4, List.forall_mem_append.mpr ⟨lw_r5, List.forall_mem_append.mpr ⟨lw_r6, lw_r7⟩⟩⟩⟩⟩⟩
-- the classes: their fields in the order of the slots
def RX0 : String := "CurvePoints$Adder"
def TX0 : u_T := fun k => match k with
  | 0 => ("CurvePoints$Adder", "zero", "Z", false)
  | 1 => ("CurvePoints$Adder", "top", "J", false)
  | 2 => ("CurvePoints$Adder", "under", "J", false)
  | 3 => ("CurvePoints$Adder", "rise", "J", false)
  | 4 => ("CurvePoints$Adder", "run", "J", false)
  | 5 => ("CurvePoints$Adder", "m", "J", false)
  | 6 => ("CurvePoints$Adder", "n", "J", false)
  | _ => ("CurvePoints$Adder", "e", "J", false)
def tyX0 : Nat → FieldType := fun k => match k with
  | 0 => .boolean
  | 1 => .long
  | 2 => .long
  | 3 => .long
  | 4 => .long
  | 5 => .long
  | 6 => .long
  | _ => .long
theorem nmX0 : ∀ a, a < 8 → ∀ b, b < 8 → a ≠ b → (TX0 a).2.1 ≠ (TX0 b).2.1 := by decide +kernel
theorem tyX0_ok : ∀ k, k < 8 → parseFieldDescriptor (TX0 k).2.2.1 = some (tyX0 k) := by decide +kernel
def RX1 : String := "CurvePoints$ClassTable"
def TX1 : u_T := fun k => match k with
  | 0 => ("CurvePoints$ClassTable", "divisors", "[I", true)
  | 1 => ("CurvePoints$ClassTable", "masks", "[I", true)
  | 2 => ("CurvePoints$ClassTable", "possible", "[I", true)
  | 3 => ("CurvePoints$ClassTable", "firstMs", "[I", true)
  | 4 => ("CurvePoints$ClassTable", "firstEs", "[I", true)
  | 5 => ("CurvePoints$ClassTable", "madeMasks", "[I", true)
  | 6 => ("CurvePoints$ClassTable", "tallies", "[I", true)
  | 7 => ("CurvePoints$ClassTable", "divisorCount", "I", false)
  | 8 => ("CurvePoints$ClassTable", "a", "I", false)
  | _ => ("CurvePoints$ClassTable", "b", "I", false)
def tyX1 : Nat → FieldType := fun k => match k with
  | 0 => .array .int
  | 1 => .array .int
  | 2 => .array .int
  | 3 => .array .int
  | 4 => .array .int
  | 5 => .array .int
  | 6 => .array .int
  | 7 => .int
  | 8 => .int
  | _ => .int
theorem nmX1 : ∀ a, a < 10 → ∀ b, b < 10 → a ≠ b → (TX1 a).2.1 ≠ (TX1 b).2.1 := by decide +kernel
theorem tyX1_ok : ∀ k, k < 10 → parseFieldDescriptor (TX1 k).2.2.1 = some (tyX1 k) := by decide +kernel
def RX2 : String := "CurvePoints$Closure"
def TX2 : u_T := fun k => match k with
  | 0 => ("CurvePoints$Closure", "sums", "LCurvePoints$Sums;", true)
  | 1 => ("CurvePoints$Closure", "members", "[I", true)
  | 2 => ("CurvePoints$Closure", "taken", "[I", true)
  | 3 => ("CurvePoints$Closure", "makers", "[I", true)
  | 4 => ("CurvePoints$Closure", "size", "I", false)
  | 5 => ("CurvePoints$Closure", "makerCount", "I", false)
  | _ => ("CurvePoints$Closure", "gathered", "Z", false)
def tyX2 : Nat → FieldType := fun k => match k with
  | 0 => .object "CurvePoints$Sums"
  | 1 => .array .int
  | 2 => .array .int
  | 3 => .array .int
  | 4 => .int
  | 5 => .int
  | _ => .boolean
theorem nmX2 : ∀ a, a < 7 → ∀ b, b < 7 → a ≠ b → (TX2 a).2.1 ≠ (TX2 b).2.1 := by decide +kernel
theorem tyX2_ok : ∀ k, k < 7 → parseFieldDescriptor (TX2 k).2.2.1 = some (tyX2 k) := by decide +kernel
def RX3 : String := "CurvePoints$History"
def TX3 : u_T := fun k => match k with
  | 0 => ("CurvePoints$History", "rows", "[I", true)
  | _ => ("CurvePoints$History", "depth", "I", false)
def tyX3 : Nat → FieldType := fun k => match k with
  | 0 => .array .int
  | _ => .int
theorem nmX3 : ∀ a, a < 2 → ∀ b, b < 2 → a ≠ b → (TX3 a).2.1 ≠ (TX3 b).2.1 := by decide +kernel
theorem tyX3_ok : ∀ k, k < 2 → parseFieldDescriptor (TX3 k).2.2.1 = some (tyX3 k) := by decide +kernel
def RX4 : String := "CurvePoints$PointList"
def TX4 : u_T := fun k => match k with
  | 0 => ("CurvePoints$PointList", "sieve", "LCurvePoints$Sieve;", true)
  | 1 => ("CurvePoints$PointList", "ms", "[I", true)
  | 2 => ("CurvePoints$PointList", "ns", "[I", true)
  | 3 => ("CurvePoints$PointList", "es", "[I", true)
  | 4 => ("CurvePoints$PointList", "keys", "[J", true)
  | 5 => ("CurvePoints$PointList", "held", "I", false)
  | 6 => ("CurvePoints$PointList", "a", "I", false)
  | 7 => ("CurvePoints$PointList", "b", "I", false)
  | 8 => ("CurvePoints$PointList", "most", "I", false)
  | _ => ("CurvePoints$PointList", "deepest", "I", false)
def tyX4 : Nat → FieldType := fun k => match k with
  | 0 => .object "CurvePoints$Sieve"
  | 1 => .array .int
  | 2 => .array .int
  | 3 => .array .int
  | 4 => .array .long
  | 5 => .int
  | 6 => .int
  | 7 => .int
  | 8 => .int
  | _ => .int
theorem nmX4 : ∀ a, a < 10 → ∀ b, b < 10 → a ≠ b → (TX4 a).2.1 ≠ (TX4 b).2.1 := by decide +kernel
theorem tyX4_ok : ∀ k, k < 10 → parseFieldDescriptor (TX4 k).2.2.1 = some (tyX4 k) := by decide +kernel
def RX5 : String := "CurvePoints$PrimeGroup"
def TX5 : u_T := fun k => match k with
  | 0 => ("CurvePoints$PrimeGroup", "roots", "[I", true)
  | 1 => ("CurvePoints$PrimeGroup", "inverses", "[I", true)
  | 2 => ("CurvePoints$PrimeGroup", "orders", "[I", true)
  | 3 => ("CurvePoints$PrimeGroup", "seen", "[I", true)
  | 4 => ("CurvePoints$PrimeGroup", "chain", "[I", true)
  | 5 => ("CurvePoints$PrimeGroup", "manyRow", "[I", true)
  | 6 => ("CurvePoints$PrimeGroup", "curveA", "I", false)
  | 7 => ("CurvePoints$PrimeGroup", "curveB", "I", false)
  | 8 => ("CurvePoints$PrimeGroup", "a", "I", false)
  | 9 => ("CurvePoints$PrimeGroup", "b", "I", false)
  | 10 => ("CurvePoints$PrimeGroup", "p", "I", false)
  | 11 => ("CurvePoints$PrimeGroup", "bestOrder", "I", false)
  | _ => ("CurvePoints$PrimeGroup", "bestCode", "I", false)
def tyX5 : Nat → FieldType := fun k => match k with
  | 0 => .array .int
  | 1 => .array .int
  | 2 => .array .int
  | 3 => .array .int
  | 4 => .array .int
  | 5 => .array .int
  | 6 => .int
  | 7 => .int
  | 8 => .int
  | 9 => .int
  | 10 => .int
  | 11 => .int
  | _ => .int
theorem nmX5 : ∀ a, a < 13 → ∀ b, b < 13 → a ≠ b → (TX5 a).2.1 ≠ (TX5 b).2.1 := by decide +kernel
theorem tyX5_ok : ∀ k, k < 13 → parseFieldDescriptor (TX5 k).2.2.1 = some (tyX5 k) := by decide +kernel
def RX6 : String := "CurvePoints$Reader"
def TX6 : u_T := fun k => match k with
  | 0 => ("CurvePoints$Reader", "tape", "[I", true)
  | 1 => ("CurvePoints$Reader", "numbers", "[I", true)
  | 2 => ("CurvePoints$Reader", "length", "I", false)
  | 3 => ("CurvePoints$Reader", "kind", "I", false)
  | 4 => ("CurvePoints$Reader", "start", "I", false)
  | 5 => ("CurvePoints$Reader", "stop", "I", false)
  | 6 => ("CurvePoints$Reader", "value", "I", false)
  | 7 => ("CurvePoints$Reader", "fault", "I", false)
  | _ => ("CurvePoints$Reader", "place", "I", false)
def tyX6 : Nat → FieldType := fun k => match k with
  | 0 => .array .int
  | 1 => .array .int
  | 2 => .int
  | 3 => .int
  | 4 => .int
  | 5 => .int
  | 6 => .int
  | 7 => .int
  | _ => .int
theorem nmX6 : ∀ a, a < 9 → ∀ b, b < 9 → a ≠ b → (TX6 a).2.1 ≠ (TX6 b).2.1 := by decide +kernel
theorem tyX6_ok : ∀ k, k < 9 → parseFieldDescriptor (TX6 k).2.2.1 = some (tyX6 k) := by decide +kernel
def RX7 : String := "CurvePoints$Sieve"
def TX7 : u_T := fun k => match k with
  | 0 => ("CurvePoints$Sieve", "marks", "[I", true)
  | 1 => ("CurvePoints$Sieve", "spots", "[I", true)
  | _ => ("CurvePoints$Sieve", "size", "I", false)
def tyX7 : Nat → FieldType := fun k => match k with
  | 0 => .array .int
  | 1 => .array .int
  | _ => .int
theorem nmX7 : ∀ a, a < 3 → ∀ b, b < 3 → a ≠ b → (TX7 a).2.1 ≠ (TX7 b).2.1 := by decide +kernel
theorem tyX7_ok : ∀ k, k < 3 → parseFieldDescriptor (TX7 k).2.2.1 = some (tyX7 k) := by decide +kernel
def RX8 : String := "CurvePoints$Sums"
def TX8 : u_T := fun k => match k with
  | 0 => ("CurvePoints$Sums", "list", "LCurvePoints$PointList;", true)
  | 1 => ("CurvePoints$Sums", "adder", "LCurvePoints$Adder;", true)
  | 2 => ("CurvePoints$Sums", "orders", "[I", true)
  | 3 => ("CurvePoints$Sums", "firstTimes", "[I", true)
  | 4 => ("CurvePoints$Sums", "otherTimes", "[I", true)
  | 5 => ("CurvePoints$Sums", "lines", "I", false)
  | 6 => ("CurvePoints$Sums", "factorS", "I", false)
  | _ => ("CurvePoints$Sums", "factorT", "I", false)
def tyX8 : Nat → FieldType := fun k => match k with
  | 0 => .object "CurvePoints$PointList"
  | 1 => .object "CurvePoints$Adder"
  | 2 => .array .int
  | 3 => .array .int
  | 4 => .array .int
  | 5 => .int
  | 6 => .int
  | _ => .int
theorem nmX8 : ∀ a, a < 8 → ∀ b, b < 8 → a ≠ b → (TX8 a).2.1 ≠ (TX8 b).2.1 := by decide +kernel
theorem tyX8_ok : ∀ k, k < 8 → parseFieldDescriptor (TX8 k).2.2.1 = some (tyX8 k) := by decide +kernel
def RX9 : String := "CurvePoints$Told"
def TX9 : u_T := fun k => match k with
  | 0 => ("CurvePoints$Told", "bytes", "[I", true)
  | _ => ("CurvePoints$Told", "length", "I", false)
def tyX9 : Nat → FieldType := fun k => match k with
  | 0 => .array .int
  | _ => .int
theorem nmX9 : ∀ a, a < 2 → ∀ b, b < 2 → a ≠ b → (TX9 a).2.1 ≠ (TX9 b).2.1 := by decide +kernel
theorem tyX9_ok : ∀ k, k < 2 → parseFieldDescriptor (TX9 k).2.2.1 = some (tyX9 k) := by decide +kernel
def RX11 : String := "CurvePoints"
def TX11 : u_T := fun k => match k with
  | 0 => ("CurvePoints", "reader", "LCurvePoints$Reader;", true)
  | 1 => ("CurvePoints", "told", "LCurvePoints$Told;", true)
  | 2 => ("CurvePoints", "history", "LCurvePoints$History;", true)
  | 3 => ("CurvePoints", "list", "LCurvePoints$PointList;", true)
  | 4 => ("CurvePoints", "besideList", "LCurvePoints$PointList;", true)
  | 5 => ("CurvePoints", "sums", "LCurvePoints$Sums;", true)
  | 6 => ("CurvePoints", "listMakers", "LCurvePoints$Closure;", true)
  | 7 => ("CurvePoints", "pairMade", "LCurvePoints$Closure;", true)
  | 8 => ("CurvePoints", "group", "LCurvePoints$PrimeGroup;", true)
  | 9 => ("CurvePoints", "sideZero", "LCurvePoints$ClassTable;", true)
  | 10 => ("CurvePoints", "sideOne", "LCurvePoints$ClassTable;", true)
  | 11 => ("CurvePoints", "turnSide", "LCurvePoints$ClassTable;", true)
  | 12 => ("CurvePoints", "turnRanks", "[I", true)
  | 13 => ("CurvePoints", "ready", "Z", false)
  | 14 => ("CurvePoints", "besideReady", "Z", false)
  | _ => ("CurvePoints", "turnsReady", "Z", false)
def tyX11 : Nat → FieldType := fun k => match k with
  | 0 => .object "CurvePoints$Reader"
  | 1 => .object "CurvePoints$Told"
  | 2 => .object "CurvePoints$History"
  | 3 => .object "CurvePoints$PointList"
  | 4 => .object "CurvePoints$PointList"
  | 5 => .object "CurvePoints$Sums"
  | 6 => .object "CurvePoints$Closure"
  | 7 => .object "CurvePoints$Closure"
  | 8 => .object "CurvePoints$PrimeGroup"
  | 9 => .object "CurvePoints$ClassTable"
  | 10 => .object "CurvePoints$ClassTable"
  | 11 => .object "CurvePoints$ClassTable"
  | 12 => .array .int
  | 13 => .boolean
  | 14 => .boolean
  | _ => .boolean
theorem nmX11 : ∀ a, a < 16 → ∀ b, b < 16 → a ≠ b → (TX11 a).2.1 ≠ (TX11 b).2.1 := by decide +kernel
theorem tyX11_ok : ∀ k, k < 16 → parseFieldDescriptor (TX11 k).2.2.1 = some (tyX11 k) := by decide +kernel
def RX12 : String := "CurvePointsModel"
def TX12 : u_T := fun k => match k with
  | 0 => ("CurvePointsModel", "thrown", "I", false)
  | 1 => ("CurvePointsModel", "isThere", "Z", false)
  | 2 => ("CurvePointsModel", "a", "I", false)
  | 3 => ("CurvePointsModel", "b", "I", false)
  | 4 => ("CurvePointsModel", "mostM", "I", false)
  | 5 => ("CurvePointsModel", "mostE", "I", false)
  | 6 => ("CurvePointsModel", "pointM", "[I", true)
  | 7 => ("CurvePointsModel", "pointN", "[J", true)
  | 8 => ("CurvePointsModel", "pointE", "[I", true)
  | 9 => ("CurvePointsModel", "points", "I", false)
  | 10 => ("CurvePointsModel", "tape", "[B", true)
  | 11 => ("CurvePointsModel", "taped", "I", false)
  | 12 => ("CurvePointsModel", "five", "[I", true)
  | 13 => ("CurvePointsModel", "size", "I", false)
  | 14 => ("CurvePointsModel", "at", "I", false)
  | 15 => ("CurvePointsModel", "from", "I", false)
  | 16 => ("CurvePointsModel", "token", "I", false)
  | 17 => ("CurvePointsModel", "value", "I", false)
  | 18 => ("CurvePointsModel", "faultKind", "I", false)
  | 19 => ("CurvePointsModel", "faultPlace", "I", false)
  | 20 => ("CurvePointsModel", "numberAt", "I", false)
  | 21 => ("CurvePointsModel", "past", "[I", true)
  | 22 => ("CurvePointsModel", "pastMany", "I", false)
  | 23 => ("CurvePointsModel", "sumU", "J", false)
  | 24 => ("CurvePointsModel", "sumV", "J", false)
  | 25 => ("CurvePointsModel", "isZero", "Z", false)
  | 26 => ("CurvePointsModel", "sumIs", "I", false)
  | 27 => ("CurvePointsModel", "sumN", "J", false)
  | 28 => ("CurvePointsModel", "worth", "I", false)
  | 29 => ("CurvePointsModel", "modX", "I", false)
  | 30 => ("CurvePointsModel", "modY", "I", false)
  | 31 => ("CurvePointsModel", "isModZero", "Z", false)
  | 32 => ("CurvePointsModel", "startX", "I", false)
  | 33 => ("CurvePointsModel", "startY", "I", false)
  | 34 => ("CurvePointsModel", "isStartZero", "Z", false)
  | 35 => ("CurvePointsModel", "bestOrder", "I", false)
  | 36 => ("CurvePointsModel", "bestX", "I", false)
  | 37 => ("CurvePointsModel", "bestY", "I", false)
  | 38 => ("CurvePointsModel", "sideA", "J", false)
  | 39 => ("CurvePointsModel", "sideB", "J", false)
  | 40 => ("CurvePointsModel", "classD", "[I", true)
  | 41 => ("CurvePointsModel", "isFound", "[Z", true)
  | 42 => ("CurvePointsModel", "foundM", "[I", true)
  | 43 => ("CurvePointsModel", "foundE", "[I", true)
  | 44 => ("CurvePointsModel", "isPossible", "[Z", true)
  | 45 => ("CurvePointsModel", "isMade", "[Z", true)
  | 46 => ("CurvePointsModel", "classes", "I", false)
  | 47 => ("CurvePointsModel", "isRest", "[Z", true)
  | 48 => ("CurvePointsModel", "overM", "[I", true)
  | 49 => ("CurvePointsModel", "overN", "[J", true)
  | 50 => ("CurvePointsModel", "overE", "[I", true)
  | 51 => ("CurvePointsModel", "overs", "I", false)
  | 52 => ("CurvePointsModel", "isMet", "[Z", true)
  | 53 => ("CurvePointsModel", "isIn", "[Z", true)
  | 54 => ("CurvePointsModel", "told0", "[I", true)
  | 55 => ("CurvePointsModel", "toldPoints", "I", false)
  | 56 => ("CurvePointsModel", "told", "[B", true)
  | _ => ("CurvePointsModel", "toldMany", "I", false)
def tyX12 : Nat → FieldType := fun k => match k with
  | 0 => .int
  | 1 => .boolean
  | 2 => .int
  | 3 => .int
  | 4 => .int
  | 5 => .int
  | 6 => .array .int
  | 7 => .array .long
  | 8 => .array .int
  | 9 => .int
  | 10 => .array .byte
  | 11 => .int
  | 12 => .array .int
  | 13 => .int
  | 14 => .int
  | 15 => .int
  | 16 => .int
  | 17 => .int
  | 18 => .int
  | 19 => .int
  | 20 => .int
  | 21 => .array .int
  | 22 => .int
  | 23 => .long
  | 24 => .long
  | 25 => .boolean
  | 26 => .int
  | 27 => .long
  | 28 => .int
  | 29 => .int
  | 30 => .int
  | 31 => .boolean
  | 32 => .int
  | 33 => .int
  | 34 => .boolean
  | 35 => .int
  | 36 => .int
  | 37 => .int
  | 38 => .long
  | 39 => .long
  | 40 => .array .int
  | 41 => .array .boolean
  | 42 => .array .int
  | 43 => .array .int
  | 44 => .array .boolean
  | 45 => .array .boolean
  | 46 => .int
  | 47 => .array .boolean
  | 48 => .array .int
  | 49 => .array .long
  | 50 => .array .int
  | 51 => .int
  | 52 => .array .boolean
  | 53 => .array .boolean
  | 54 => .array .int
  | 55 => .int
  | 56 => .array .byte
  | _ => .int
theorem nmX12 : ∀ a, a < 58 → ∀ b, b < 58 → a ≠ b → (TX12 a).2.1 ≠ (TX12 b).2.1 := by decide +kernel
theorem tyX12_ok : ∀ k, k < 58 → parseFieldDescriptor (TX12 k).2.2.1 = some (tyX12 k) := by decide +kernel
abbrev vwCl : List vw_C := [(RX0, TX0, 8), (RX1, TX1, 10), (RX2, TX2, 7), (RX3, TX3, 2), (RX4, TX4, 10), (RX5, TX5, 13), (RX6, TX6, 9), (RX7, TX7, 3), (RX8, TX8, 8), (RX9, TX9, 2), (RX11, TX11, 16), (RX12, TX12, 58)]
