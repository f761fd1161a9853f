section
-- ===== PART A: goes FIRST, ahead of the names: the tables' words, and 'selects' of the private methods out of them =====
/-- a private method of a class that the tables say can be made, by its rows of tables_1 -/
def lw_okq (q : MethodName × Nat) : Prop := (q.1.cls ≠ "java/lang/invoke/MethodHandle" ∧ q.1.cls ≠ "java/lang/invoke/VarHandle") ∧ Cond.instantiable q.1.cls q.2 ∈ tables_1 ∧ Cond.privateMethod q.1 ∈ tables_1 ∧ Cond.instanceMethod q.1 ∈ tables_1
theorem lw_p0 : lw_okq (⟨"StayPlay", "refuse", "(I)I"⟩, 16) := ⟨⟨by decide +kernel, by decide +kernel⟩, List.mem_of_getElem? (i := 23) (by decide +kernel), List.mem_of_getElem? (i := 492) (by decide +kernel), List.mem_of_getElem? (i := 493) (by decide +kernel)⟩
theorem lw_p1 : lw_okq (⟨"StayPlay", "accept", "(I)I"⟩, 16) := ⟨⟨by decide +kernel, by decide +kernel⟩, List.mem_of_getElem? (i := 23) (by decide +kernel), List.mem_of_getElem? (i := 512) (by decide +kernel), List.mem_of_getElem? (i := 513) (by decide +kernel)⟩
theorem lw_p2 : lw_okq (⟨"StayPlay", "takeBytes", "(I)V"⟩, 16) := ⟨⟨by decide +kernel, by decide +kernel⟩, List.mem_of_getElem? (i := 23) (by decide +kernel), List.mem_of_getElem? (i := 542) (by decide +kernel), List.mem_of_getElem? (i := 543) (by decide +kernel)⟩
theorem lw_p3 : lw_okq (⟨"StayPlay$Reader", "split", "([II)V"⟩, 9) := ⟨⟨by decide +kernel, by decide +kernel⟩, List.mem_of_getElem? (i := 126) (by decide +kernel), List.mem_of_getElem? (i := 566) (by decide +kernel), List.mem_of_getElem? (i := 567) (by decide +kernel)⟩
theorem lw_p4 : lw_okq (⟨"StayPlay$Reader", "clause", "()Z"⟩, 9) := ⟨⟨by decide +kernel, by decide +kernel⟩, List.mem_of_getElem? (i := 126) (by decide +kernel), List.mem_of_getElem? (i := 631) (by decide +kernel), List.mem_of_getElem? (i := 632) (by decide +kernel)⟩
theorem lw_p5 : lw_okq (⟨"StayPlay$Reader", "sums", "(II)Z"⟩, 9) := ⟨⟨by decide +kernel, by decide +kernel⟩, List.mem_of_getElem? (i := 126) (by decide +kernel), List.mem_of_getElem? (i := 635) (by decide +kernel), List.mem_of_getElem? (i := 636) (by decide +kernel)⟩
theorem lw_p6 : lw_okq (⟨"StayPlay$Reader", "part", "(I)Z"⟩, 9) := ⟨⟨by decide +kernel, by decide +kernel⟩, List.mem_of_getElem? (i := 126) (by decide +kernel), List.mem_of_getElem? (i := 639) (by decide +kernel), List.mem_of_getElem? (i := 640) (by decide +kernel)⟩
theorem lw_p7 : lw_okq (⟨"StayPlay$Reader", "emit", "(II)V"⟩, 9) := ⟨⟨by decide +kernel, by decide +kernel⟩, List.mem_of_getElem? (i := 126) (by decide +kernel), List.mem_of_getElem? (i := 643) (by decide +kernel), List.mem_of_getElem? (i := 644) (by decide +kernel)⟩
theorem lw_p8 : lw_okq (⟨"StayPlay$Reader", "tests", "(II)Z"⟩, 9) := ⟨⟨by decide +kernel, by decide +kernel⟩, List.mem_of_getElem? (i := 126) (by decide +kernel), List.mem_of_getElem? (i := 647) (by decide +kernel), List.mem_of_getElem? (i := 648) (by decide +kernel)⟩
theorem lw_p9 : lw_okq (⟨"StayPlay$Reader", "plain", "(I)Z"⟩, 9) := ⟨⟨by decide +kernel, by decide +kernel⟩, List.mem_of_getElem? (i := 126) (by decide +kernel), List.mem_of_getElem? (i := 651) (by decide +kernel), List.mem_of_getElem? (i := 652) (by decide +kernel)⟩
theorem lw_p10 : lw_okq (⟨"StayPlay$Asker", "holds", "([III)Z"⟩, 3) := ⟨⟨by decide +kernel, by decide +kernel⟩, List.mem_of_getElem? (i := 165) (by decide +kernel), List.mem_of_getElem? (i := 720) (by decide +kernel), List.mem_of_getElem? (i := 721) (by decide +kernel)⟩
theorem lw_p11 : lw_okq (⟨"StayPlay$Plan", "list", "(III)V"⟩, 12) := ⟨⟨by decide +kernel, by decide +kernel⟩, List.mem_of_getElem? (i := 296) (by decide +kernel), List.mem_of_getElem? (i := 790) (by decide +kernel), List.mem_of_getElem? (i := 791) (by decide +kernel)⟩
theorem lw_p12 : lw_okq (⟨"StayPlay$Table", "settle", "(IIIII)V"⟩, 12) := ⟨⟨by decide +kernel, by decide +kernel⟩, List.mem_of_getElem? (i := 230) (by decide +kernel), List.mem_of_getElem? (i := 800) (by decide +kernel), List.mem_of_getElem? (i := 801) (by decide +kernel)⟩
theorem lw_p13 : lw_okq (⟨"StayPlay$Table", "limbAt", "(IIII)I"⟩, 12) := ⟨⟨by decide +kernel, by decide +kernel⟩, List.mem_of_getElem? (i := 230) (by decide +kernel), List.mem_of_getElem? (i := 808) (by decide +kernel), List.mem_of_getElem? (i := 809) (by decide +kernel)⟩
theorem lw_p14 : lw_okq (⟨"StayPlay$Table", "startSum", "(IJ)V"⟩, 12) := ⟨⟨by decide +kernel, by decide +kernel⟩, List.mem_of_getElem? (i := 230) (by decide +kernel), List.mem_of_getElem? (i := 820) (by decide +kernel), List.mem_of_getElem? (i := 821) (by decide +kernel)⟩
theorem lw_p15 : lw_okq (⟨"StayPlay$Guide", "ofRow", "([III)I"⟩, 5) := ⟨⟨by decide +kernel, by decide +kernel⟩, List.mem_of_getElem? (i := 224) (by decide +kernel), List.mem_of_getElem? (i := 841) (by decide +kernel), List.mem_of_getElem? (i := 842) (by decide +kernel)⟩
def lw_privs_1 : List (MethodName × Nat) := [(⟨"StayPlay", "refuse", "(I)I"⟩, 16), (⟨"StayPlay", "accept", "(I)I"⟩, 16), (⟨"StayPlay", "takeBytes", "(I)V"⟩, 16), (⟨"StayPlay$Reader", "split", "([II)V"⟩, 9), (⟨"StayPlay$Reader", "clause", "()Z"⟩, 9), (⟨"StayPlay$Reader", "sums", "(II)Z"⟩, 9), (⟨"StayPlay$Reader", "part", "(I)Z"⟩, 9), (⟨"StayPlay$Reader", "emit", "(II)V"⟩, 9), (⟨"StayPlay$Reader", "tests", "(II)Z"⟩, 9), (⟨"StayPlay$Reader", "plain", "(I)Z"⟩, 9), (⟨"StayPlay$Asker", "holds", "([III)Z"⟩, 3), (⟨"StayPlay$Plan", "list", "(III)V"⟩, 12), (⟨"StayPlay$Table", "settle", "(IIIII)V"⟩, 12), (⟨"StayPlay$Table", "limbAt", "(IIII)I"⟩, 12), (⟨"StayPlay$Table", "startSum", "(IJ)V"⟩, 12), (⟨"StayPlay$Guide", "ofRow", "([III)I"⟩, 5)]
theorem lw_r1 : ∀ q ∈ lw_privs_1, lw_okq q := List.forall_mem_cons.mpr ⟨lw_p0, List.forall_mem_cons.mpr ⟨lw_p1, List.forall_mem_cons.mpr ⟨lw_p2, List.forall_mem_cons.mpr ⟨lw_p3, List.forall_mem_cons.mpr ⟨lw_p4, List.forall_mem_cons.mpr ⟨lw_p5, List.forall_mem_cons.mpr ⟨lw_p6, List.forall_mem_cons.mpr ⟨lw_p7, List.forall_mem_cons.mpr ⟨lw_p8, List.forall_mem_cons.mpr ⟨lw_p9, List.forall_mem_cons.mpr ⟨lw_p10, List.forall_mem_cons.mpr ⟨lw_p11, List.forall_mem_cons.mpr ⟨lw_p12, List.forall_mem_cons.mpr ⟨lw_p13, List.forall_mem_cons.mpr ⟨lw_p14, List.forall_mem_cons.mpr ⟨lw_p15, fun _ h => absurd h List.not_mem_nil⟩⟩⟩⟩⟩⟩⟩⟩⟩⟩⟩⟩⟩⟩⟩⟩
theorem lw_p16 : lw_okq (⟨"StayPlay$Table", "bring", "(IIIII)V"⟩, 12) := ⟨⟨by decide +kernel, by decide +kernel⟩, List.mem_of_getElem? (i := 230) (by decide +kernel), List.mem_of_getElem? (i := 869) (by decide +kernel), List.mem_of_getElem? (i := 870) (by decide +kernel)⟩
theorem lw_p17 : lw_okq (⟨"StayPlay$Table", "visit", "(IIIII)V"⟩, 12) := ⟨⟨by decide +kernel, by decide +kernel⟩, List.mem_of_getElem? (i := 230) (by decide +kernel), List.mem_of_getElem? (i := 875) (by decide +kernel), List.mem_of_getElem? (i := 876) (by decide +kernel)⟩
theorem lw_p18 : lw_okq (⟨"StayPlay$Table", "gain", "(IIII)I"⟩, 12) := ⟨⟨by decide +kernel, by decide +kernel⟩, List.mem_of_getElem? (i := 230) (by decide +kernel), List.mem_of_getElem? (i := 881) (by decide +kernel), List.mem_of_getElem? (i := 882) (by decide +kernel)⟩
theorem lw_p19 : lw_okq (⟨"StayPlay$Table", "expect", "(IIIII)V"⟩, 12) := ⟨⟨by decide +kernel, by decide +kernel⟩, List.mem_of_getElem? (i := 230) (by decide +kernel), List.mem_of_getElem? (i := 888) (by decide +kernel), List.mem_of_getElem? (i := 889) (by decide +kernel)⟩
theorem lw_p20 : lw_okq (⟨"StayPlay$Plan", "gap", "()I"⟩, 12) := ⟨⟨by decide +kernel, by decide +kernel⟩, List.mem_of_getElem? (i := 296) (by decide +kernel), List.mem_of_getElem? (i := 954) (by decide +kernel), List.mem_of_getElem? (i := 955) (by decide +kernel)⟩
theorem lw_p21 : lw_okq (⟨"StayPlay$Counted", "begin", "(I)V"⟩, 9) := ⟨⟨by decide +kernel, by decide +kernel⟩, List.mem_of_getElem? (i := 341) (by decide +kernel), List.mem_of_getElem? (i := 998) (by decide +kernel), List.mem_of_getElem? (i := 999) (by decide +kernel)⟩
theorem lw_p22 : lw_okq (⟨"StayPlay$Counted", "stepBack", "(I)V"⟩, 9) := ⟨⟨by decide +kernel, by decide +kernel⟩, List.mem_of_getElem? (i := 341) (by decide +kernel), List.mem_of_getElem? (i := 1007) (by decide +kernel), List.mem_of_getElem? (i := 1008) (by decide +kernel)⟩
theorem lw_p23 : lw_okq (⟨"StayPlay$Counted", "addWays", "(III)V"⟩, 9) := ⟨⟨by decide +kernel, by decide +kernel⟩, List.mem_of_getElem? (i := 341) (by decide +kernel), List.mem_of_getElem? (i := 1014) (by decide +kernel), List.mem_of_getElem? (i := 1015) (by decide +kernel)⟩
theorem lw_p24 : lw_okq (⟨"StayPlay$Counted", "millionths", "()I"⟩, 9) := ⟨⟨by decide +kernel, by decide +kernel⟩, List.mem_of_getElem? (i := 341) (by decide +kernel), List.mem_of_getElem? (i := 1021) (by decide +kernel), List.mem_of_getElem? (i := 1022) (by decide +kernel)⟩
theorem lw_p25 : lw_okq (⟨"StayPlay$World", "staying", "(II)I"⟩, 13) := ⟨⟨by decide +kernel, by decide +kernel⟩, List.mem_of_getElem? (i := 375) (by decide +kernel), List.mem_of_getElem? (i := 1040) (by decide +kernel), List.mem_of_getElem? (i := 1041) (by decide +kernel)⟩
theorem lw_p26 : lw_okq (⟨"StayPlay$World", "draw", "(I)I"⟩, 13) := ⟨⟨by decide +kernel, by decide +kernel⟩, List.mem_of_getElem? (i := 375) (by decide +kernel), List.mem_of_getElem? (i := 1044) (by decide +kernel), List.mem_of_getElem? (i := 1045) (by decide +kernel)⟩
theorem lw_p27 : lw_okq (⟨"StayPlayModel", "tell", "(I)I"⟩, 54) := ⟨⟨by decide +kernel, by decide +kernel⟩, List.mem_of_getElem? (i := 1085) (by decide +kernel), List.mem_of_getElem? (i := 1270) (by decide +kernel), List.mem_of_getElem? (i := 1271) (by decide +kernel)⟩
theorem lw_p28 : lw_okq (⟨"StayPlayModel", "addScene", "(III)V"⟩, 54) := ⟨⟨by decide +kernel, by decide +kernel⟩, List.mem_of_getElem? (i := 1085) (by decide +kernel), List.mem_of_getElem? (i := 1291) (by decide +kernel), List.mem_of_getElem? (i := 1292) (by decide +kernel)⟩
theorem lw_p29 : lw_okq (⟨"StayPlayModel", "isScene", "(I)Z"⟩, 54) := ⟨⟨by decide +kernel, by decide +kernel⟩, List.mem_of_getElem? (i := 1085) (by decide +kernel), List.mem_of_getElem? (i := 1299) (by decide +kernel), List.mem_of_getElem? (i := 1300) (by decide +kernel)⟩
theorem lw_p30 : lw_okq (⟨"StayPlayModel", "change", "(II)I"⟩, 54) := ⟨⟨by decide +kernel, by decide +kernel⟩, List.mem_of_getElem? (i := 1085) (by decide +kernel), List.mem_of_getElem? (i := 1303) (by decide +kernel), List.mem_of_getElem? (i := 1304) (by decide +kernel)⟩
theorem lw_p31 : lw_okq (⟨"StayPlayModel", "was", "(I)I"⟩, 54) := ⟨⟨by decide +kernel, by decide +kernel⟩, List.mem_of_getElem? (i := 1085) (by decide +kernel), List.mem_of_getElem? (i := 1307) (by decide +kernel), List.mem_of_getElem? (i := 1308) (by decide +kernel)⟩
def lw_privs_2 : List (MethodName × Nat) := [(⟨"StayPlay$Table", "bring", "(IIIII)V"⟩, 12), (⟨"StayPlay$Table", "visit", "(IIIII)V"⟩, 12), (⟨"StayPlay$Table", "gain", "(IIII)I"⟩, 12), (⟨"StayPlay$Table", "expect", "(IIIII)V"⟩, 12), (⟨"StayPlay$Plan", "gap", "()I"⟩, 12), (⟨"StayPlay$Counted", "begin", "(I)V"⟩, 9), (⟨"StayPlay$Counted", "stepBack", "(I)V"⟩, 9), (⟨"StayPlay$Counted", "addWays", "(III)V"⟩, 9), (⟨"StayPlay$Counted", "millionths", "()I"⟩, 9), (⟨"StayPlay$World", "staying", "(II)I"⟩, 13), (⟨"StayPlay$World", "draw", "(I)I"⟩, 13), (⟨"StayPlayModel", "tell", "(I)I"⟩, 54), (⟨"StayPlayModel", "addScene", "(III)V"⟩, 54), (⟨"StayPlayModel", "isScene", "(I)Z"⟩, 54), (⟨"StayPlayModel", "change", "(II)I"⟩, 54), (⟨"StayPlayModel", "was", "(I)I"⟩, 54)]
theorem lw_r2 : ∀ q ∈ lw_privs_2, lw_okq q := List.forall_mem_cons.mpr ⟨lw_p16, List.forall_mem_cons.mpr ⟨lw_p17, List.forall_mem_cons.mpr ⟨lw_p18, List.forall_mem_cons.mpr ⟨lw_p19, List.forall_mem_cons.mpr ⟨lw_p20, List.forall_mem_cons.mpr ⟨lw_p21, List.forall_mem_cons.mpr ⟨lw_p22, List.forall_mem_cons.mpr ⟨lw_p23, List.forall_mem_cons.mpr ⟨lw_p24, List.forall_mem_cons.mpr ⟨lw_p25, List.forall_mem_cons.mpr ⟨lw_p26, List.forall_mem_cons.mpr ⟨lw_p27, List.forall_mem_cons.mpr ⟨lw_p28, List.forall_mem_cons.mpr ⟨lw_p29, List.forall_mem_cons.mpr ⟨lw_p30, List.forall_mem_cons.mpr ⟨lw_p31, fun _ h => absurd h List.not_mem_nil⟩⟩⟩⟩⟩⟩⟩⟩⟩⟩⟩⟩⟩⟩⟩⟩
theorem lw_p32 : lw_okq (⟨"StayPlayModel", "four", "(I)V"⟩, 54) := ⟨⟨by decide +kernel, by decide +kernel⟩, List.mem_of_getElem? (i := 1085) (by decide +kernel), List.mem_of_getElem? (i := 1336) (by decide +kernel), List.mem_of_getElem? (i := 1337) (by decide +kernel)⟩
theorem lw_p33 : lw_okq (⟨"StayPlayModel", "begin", "()V"⟩, 54) := ⟨⟨by decide +kernel, by decide +kernel⟩, List.mem_of_getElem? (i := 1085) (by decide +kernel), List.mem_of_getElem? (i := 1352) (by decide +kernel), List.mem_of_getElem? (i := 1353) (by decide +kernel)⟩
theorem lw_p34 : lw_okq (⟨"StayPlayModel", "goOn", "()V"⟩, 54) := ⟨⟨by decide +kernel, by decide +kernel⟩, List.mem_of_getElem? (i := 1085) (by decide +kernel), List.mem_of_getElem? (i := 1356) (by decide +kernel), List.mem_of_getElem? (i := 1357) (by decide +kernel)⟩
theorem lw_p35 : lw_okq (⟨"StayPlayModel", "readClause", "()V"⟩, 54) := ⟨⟨by decide +kernel, by decide +kernel⟩, List.mem_of_getElem? (i := 1085) (by decide +kernel), List.mem_of_getElem? (i := 1372) (by decide +kernel), List.mem_of_getElem? (i := 1373) (by decide +kernel)⟩
theorem lw_p36 : lw_okq (⟨"StayPlayModel", "isWord", "(J)Z"⟩, 54) := ⟨⟨by decide +kernel, by decide +kernel⟩, List.mem_of_getElem? (i := 1085) (by decide +kernel), List.mem_of_getElem? (i := 1377) (by decide +kernel), List.mem_of_getElem? (i := 1378) (by decide +kernel)⟩
theorem lw_p37 : lw_okq (⟨"StayPlayModel", "must", "(Z)V"⟩, 54) := ⟨⟨by decide +kernel, by decide +kernel⟩, List.mem_of_getElem? (i := 1085) (by decide +kernel), List.mem_of_getElem? (i := 1382) (by decide +kernel), List.mem_of_getElem? (i := 1383) (by decide +kernel)⟩
theorem lw_p38 : lw_okq (⟨"StayPlayModel", "readExpression", "(Z)V"⟩, 54) := ⟨⟨by decide +kernel, by decide +kernel⟩, List.mem_of_getElem? (i := 1085) (by decide +kernel), List.mem_of_getElem? (i := 1386) (by decide +kernel), List.mem_of_getElem? (i := 1387) (by decide +kernel)⟩
theorem lw_p39 : lw_okq (⟨"StayPlayModel", "readPlain", "()I"⟩, 54) := ⟨⟨by decide +kernel, by decide +kernel⟩, List.mem_of_getElem? (i := 1085) (by decide +kernel), List.mem_of_getElem? (i := 1390) (by decide +kernel), List.mem_of_getElem? (i := 1391) (by decide +kernel)⟩
theorem lw_p40 : lw_okq (⟨"StayPlayModel", "push", "(II)V"⟩, 54) := ⟨⟨by decide +kernel, by decide +kernel⟩, List.mem_of_getElem? (i := 1085) (by decide +kernel), List.mem_of_getElem? (i := 1395) (by decide +kernel), List.mem_of_getElem? (i := 1396) (by decide +kernel)⟩
theorem lw_p41 : lw_okq (⟨"StayPlayModel", "isSign", "(I)Z"⟩, 54) := ⟨⟨by decide +kernel, by decide +kernel⟩, List.mem_of_getElem? (i := 1085) (by decide +kernel), List.mem_of_getElem? (i := 1399) (by decide +kernel), List.mem_of_getElem? (i := 1400) (by decide +kernel)⟩
theorem lw_p42 : lw_okq (⟨"StayPlayModel", "openBracket", "(I)V"⟩, 54) := ⟨⟨by decide +kernel, by decide +kernel⟩, List.mem_of_getElem? (i := 1085) (by decide +kernel), List.mem_of_getElem? (i := 1403) (by decide +kernel), List.mem_of_getElem? (i := 1404) (by decide +kernel)⟩
theorem lw_p43 : lw_okq (⟨"StayPlayModel", "readPart", "()I"⟩, 54) := ⟨⟨by decide +kernel, by decide +kernel⟩, List.mem_of_getElem? (i := 1085) (by decide +kernel), List.mem_of_getElem? (i := 1407) (by decide +kernel), List.mem_of_getElem? (i := 1408) (by decide +kernel)⟩
theorem lw_p44 : lw_okq (⟨"StayPlayModel", "partAt", "()I"⟩, 54) := ⟨⟨by decide +kernel, by decide +kernel⟩, List.mem_of_getElem? (i := 1085) (by decide +kernel), List.mem_of_getElem? (i := 1411) (by decide +kernel), List.mem_of_getElem? (i := 1412) (by decide +kernel)⟩
theorem lw_p45 : lw_okq (⟨"StayPlayModel", "leaf", "(ZII)V"⟩, 54) := ⟨⟨by decide +kernel, by decide +kernel⟩, List.mem_of_getElem? (i := 1085) (by decide +kernel), List.mem_of_getElem? (i := 1416) (by decide +kernel), List.mem_of_getElem? (i := 1417) (by decide +kernel)⟩
theorem lw_p46 : lw_okq (⟨"StayPlayModel", "emit", "(II)V"⟩, 54) := ⟨⟨by decide +kernel, by decide +kernel⟩, List.mem_of_getElem? (i := 1085) (by decide +kernel), List.mem_of_getElem? (i := 1420) (by decide +kernel), List.mem_of_getElem? (i := 1421) (by decide +kernel)⟩
theorem lw_p47 : lw_okq (⟨"StayPlayModel", "behindSum", "(Z)I"⟩, 54) := ⟨⟨by decide +kernel, by decide +kernel⟩, List.mem_of_getElem? (i := 1085) (by decide +kernel), List.mem_of_getElem? (i := 1424) (by decide +kernel), List.mem_of_getElem? (i := 1425) (by decide +kernel)⟩
def lw_privs_3 : List (MethodName × Nat) := [(⟨"StayPlayModel", "four", "(I)V"⟩, 54), (⟨"StayPlayModel", "begin", "()V"⟩, 54), (⟨"StayPlayModel", "goOn", "()V"⟩, 54), (⟨"StayPlayModel", "readClause", "()V"⟩, 54), (⟨"StayPlayModel", "isWord", "(J)Z"⟩, 54), (⟨"StayPlayModel", "must", "(Z)V"⟩, 54), (⟨"StayPlayModel", "readExpression", "(Z)V"⟩, 54), (⟨"StayPlayModel", "readPlain", "()I"⟩, 54), (⟨"StayPlayModel", "push", "(II)V"⟩, 54), (⟨"StayPlayModel", "isSign", "(I)Z"⟩, 54), (⟨"StayPlayModel", "openBracket", "(I)V"⟩, 54), (⟨"StayPlayModel", "readPart", "()I"⟩, 54), (⟨"StayPlayModel", "partAt", "()I"⟩, 54), (⟨"StayPlayModel", "leaf", "(ZII)V"⟩, 54), (⟨"StayPlayModel", "emit", "(II)V"⟩, 54), (⟨"StayPlayModel", "behindSum", "(Z)I"⟩, 54)]
theorem lw_r3 : ∀ q ∈ lw_privs_3, lw_okq q := List.forall_mem_cons.mpr ⟨lw_p32, List.forall_mem_cons.mpr ⟨lw_p33, List.forall_mem_cons.mpr ⟨lw_p34, List.forall_mem_cons.mpr ⟨lw_p35, List.forall_mem_cons.mpr ⟨lw_p36, List.forall_mem_cons.mpr ⟨lw_p37, List.forall_mem_cons.mpr ⟨lw_p38, List.forall_mem_cons.mpr ⟨lw_p39, List.forall_mem_cons.mpr ⟨lw_p40, List.forall_mem_cons.mpr ⟨lw_p41, List.forall_mem_cons.mpr ⟨lw_p42, List.forall_mem_cons.mpr ⟨lw_p43, List.forall_mem_cons.mpr ⟨lw_p44, List.forall_mem_cons.mpr ⟨lw_p45, List.forall_mem_cons.mpr ⟨lw_p46, List.forall_mem_cons.mpr ⟨lw_p47, fun _ h => absurd h List.not_mem_nil⟩⟩⟩⟩⟩⟩⟩⟩⟩⟩⟩⟩⟩⟩⟩⟩
theorem lw_p48 : lw_okq (⟨"StayPlayModel", "settle", "(I)V"⟩, 54) := ⟨⟨by decide +kernel, by decide +kernel⟩, List.mem_of_getElem? (i := 1085) (by decide +kernel), List.mem_of_getElem? (i := 1431) (by decide +kernel), List.mem_of_getElem? (i := 1432) (by decide +kernel)⟩
theorem lw_p49 : lw_okq (⟨"StayPlayModel", "inner", "()I"⟩, 54) := ⟨⟨by decide +kernel, by decide +kernel⟩, List.mem_of_getElem? (i := 1085) (by decide +kernel), List.mem_of_getElem? (i := 1435) (by decide +kernel), List.mem_of_getElem? (i := 1436) (by decide +kernel)⟩
theorem lw_p50 : lw_okq (⟨"StayPlayModel", "isCompared", "()Z"⟩, 54) := ⟨⟨by decide +kernel, by decide +kernel⟩, List.mem_of_getElem? (i := 1085) (by decide +kernel), List.mem_of_getElem? (i := 1439) (by decide +kernel), List.mem_of_getElem? (i := 1440) (by decide +kernel)⟩
theorem lw_p51 : lw_okq (⟨"StayPlayModel", "behindTest", "()I"⟩, 54) := ⟨⟨by decide +kernel, by decide +kernel⟩, List.mem_of_getElem? (i := 1085) (by decide +kernel), List.mem_of_getElem? (i := 1447) (by decide +kernel), List.mem_of_getElem? (i := 1448) (by decide +kernel)⟩
theorem lw_p52 : lw_okq (⟨"StayPlayModel", "ask", "(IIIIIIII)I"⟩, 54) := ⟨⟨by decide +kernel, by decide +kernel⟩, List.mem_of_getElem? (i := 1085) (by decide +kernel), List.mem_of_getElem? (i := 1462) (by decide +kernel), List.mem_of_getElem? (i := 1463) (by decide +kernel)⟩
theorem lw_p53 : lw_okq (⟨"StayPlayModel", "tells", "(III)I"⟩, 54) := ⟨⟨by decide +kernel, by decide +kernel⟩, List.mem_of_getElem? (i := 1085) (by decide +kernel), List.mem_of_getElem? (i := 1466) (by decide +kernel), List.mem_of_getElem? (i := 1467) (by decide +kernel)⟩
theorem lw_p54 : lw_okq (⟨"StayPlayModel", "isSo", "(I)Z"⟩, 54) := ⟨⟨by decide +kernel, by decide +kernel⟩, List.mem_of_getElem? (i := 1085) (by decide +kernel), List.mem_of_getElem? (i := 1470) (by decide +kernel), List.mem_of_getElem? (i := 1471) (by decide +kernel)⟩
theorem lw_p55 : lw_okq (⟨"StayPlayModel", "reckonAll", "(II)V"⟩, 54) := ⟨⟨by decide +kernel, by decide +kernel⟩, List.mem_of_getElem? (i := 1085) (by decide +kernel), List.mem_of_getElem? (i := 1474) (by decide +kernel), List.mem_of_getElem? (i := 1475) (by decide +kernel)⟩
theorem lw_p56 : lw_okq (⟨"StayPlayModel", "reckon", "(IJJ)J"⟩, 54) := ⟨⟨by decide +kernel, by decide +kernel⟩, List.mem_of_getElem? (i := 1085) (by decide +kernel), List.mem_of_getElem? (i := 1478) (by decide +kernel), List.mem_of_getElem? (i := 1479) (by decide +kernel)⟩
theorem lw_p57 : lw_okq (⟨"StayPlayModel", "canBe", "(I)I"⟩, 54) := ⟨⟨by decide +kernel, by decide +kernel⟩, List.mem_of_getElem? (i := 1085) (by decide +kernel), List.mem_of_getElem? (i := 1488) (by decide +kernel), List.mem_of_getElem? (i := 1489) (by decide +kernel)⟩
theorem lw_p58 : lw_okq (⟨"StayPlayModel", "ofScene", "(II)I"⟩, 54) := ⟨⟨by decide +kernel, by decide +kernel⟩, List.mem_of_getElem? (i := 1085) (by decide +kernel), List.mem_of_getElem? (i := 1492) (by decide +kernel), List.mem_of_getElem? (i := 1493) (by decide +kernel)⟩
theorem lw_p59 : lw_okq (⟨"StayPlayModel", "minutesOf", "(I)I"⟩, 54) := ⟨⟨by decide +kernel, by decide +kernel⟩, List.mem_of_getElem? (i := 1085) (by decide +kernel), List.mem_of_getElem? (i := 1496) (by decide +kernel), List.mem_of_getElem? (i := 1497) (by decide +kernel)⟩
theorem lw_p60 : lw_okq (⟨"StayPlayModel", "findRoot", "(II)V"⟩, 54) := ⟨⟨by decide +kernel, by decide +kernel⟩, List.mem_of_getElem? (i := 1085) (by decide +kernel), List.mem_of_getElem? (i := 1516) (by decide +kernel), List.mem_of_getElem? (i := 1517) (by decide +kernel)⟩
theorem lw_p61 : lw_okq (⟨"StayPlayModel", "choose", "(I)V"⟩, 54) := ⟨⟨by decide +kernel, by decide +kernel⟩, List.mem_of_getElem? (i := 1085) (by decide +kernel), List.mem_of_getElem? (i := 1520) (by decide +kernel), List.mem_of_getElem? (i := 1521) (by decide +kernel)⟩
theorem lw_p62 : lw_okq (⟨"StayPlayModel", "chooseRow", "([III)V"⟩, 54) := ⟨⟨by decide +kernel, by decide +kernel⟩, List.mem_of_getElem? (i := 1085) (by decide +kernel), List.mem_of_getElem? (i := 1524) (by decide +kernel), List.mem_of_getElem? (i := 1525) (by decide +kernel)⟩
theorem lw_p63 : lw_okq (⟨"StayPlayModel", "chooseMost", "()V"⟩, 54) := ⟨⟨by decide +kernel, by decide +kernel⟩, List.mem_of_getElem? (i := 1085) (by decide +kernel), List.mem_of_getElem? (i := 1531) (by decide +kernel), List.mem_of_getElem? (i := 1532) (by decide +kernel)⟩
def lw_privs_4 : List (MethodName × Nat) := [(⟨"StayPlayModel", "settle", "(I)V"⟩, 54), (⟨"StayPlayModel", "inner", "()I"⟩, 54), (⟨"StayPlayModel", "isCompared", "()Z"⟩, 54), (⟨"StayPlayModel", "behindTest", "()I"⟩, 54), (⟨"StayPlayModel", "ask", "(IIIIIIII)I"⟩, 54), (⟨"StayPlayModel", "tells", "(III)I"⟩, 54), (⟨"StayPlayModel", "isSo", "(I)Z"⟩, 54), (⟨"StayPlayModel", "reckonAll", "(II)V"⟩, 54), (⟨"StayPlayModel", "reckon", "(IJJ)J"⟩, 54), (⟨"StayPlayModel", "canBe", "(I)I"⟩, 54), (⟨"StayPlayModel", "ofScene", "(II)I"⟩, 54), (⟨"StayPlayModel", "minutesOf", "(I)I"⟩, 54), (⟨"StayPlayModel", "findRoot", "(II)V"⟩, 54), (⟨"StayPlayModel", "choose", "(I)V"⟩, 54), (⟨"StayPlayModel", "chooseRow", "([III)V"⟩, 54), (⟨"StayPlayModel", "chooseMost", "()V"⟩, 54)]
theorem lw_r4 : ∀ q ∈ lw_privs_4, lw_okq q := List.forall_mem_cons.mpr ⟨lw_p48, List.forall_mem_cons.mpr ⟨lw_p49, List.forall_mem_cons.mpr ⟨lw_p50, List.forall_mem_cons.mpr ⟨lw_p51, List.forall_mem_cons.mpr ⟨lw_p52, List.forall_mem_cons.mpr ⟨lw_p53, List.forall_mem_cons.mpr ⟨lw_p54, List.forall_mem_cons.mpr ⟨lw_p55, List.forall_mem_cons.mpr ⟨lw_p56, List.forall_mem_cons.mpr ⟨lw_p57, List.forall_mem_cons.mpr ⟨lw_p58, List.forall_mem_cons.mpr ⟨lw_p59, List.forall_mem_cons.mpr ⟨lw_p60, List.forall_mem_cons.mpr ⟨lw_p61, List.forall_mem_cons.mpr ⟨lw_p62, List.forall_mem_cons.mpr ⟨lw_p63, fun _ h => absurd h List.not_mem_nil⟩⟩⟩⟩⟩⟩⟩⟩⟩⟩⟩⟩⟩⟩⟩⟩
theorem lw_p64 : lw_okq (⟨"StayPlayModel", "isState", "(II)Z"⟩, 54) := ⟨⟨by decide +kernel, by decide +kernel⟩, List.mem_of_getElem? (i := 1085) (by decide +kernel), List.mem_of_getElem? (i := 1535) (by decide +kernel), List.mem_of_getElem? (i := 1536) (by decide +kernel)⟩
theorem lw_p65 : lw_okq (⟨"StayPlayModel", "mostBehind", "(IIII)I"⟩, 54) := ⟨⟨by decide +kernel, by decide +kernel⟩, List.mem_of_getElem? (i := 1085) (by decide +kernel), List.mem_of_getElem? (i := 1539) (by decide +kernel), List.mem_of_getElem? (i := 1540) (by decide +kernel)⟩
theorem lw_p66 : lw_okq (⟨"StayPlayModel", "chance", "(IIIIII)I"⟩, 54) := ⟨⟨by decide +kernel, by decide +kernel⟩, List.mem_of_getElem? (i := 1085) (by decide +kernel), List.mem_of_getElem? (i := 1543) (by decide +kernel), List.mem_of_getElem? (i := 1544) (by decide +kernel)⟩
theorem lw_p67 : lw_okq (⟨"StayPlayModel", "reckon", "(IZ)V"⟩, 54) := ⟨⟨by decide +kernel, by decide +kernel⟩, List.mem_of_getElem? (i := 1085) (by decide +kernel), List.mem_of_getElem? (i := 1550) (by decide +kernel), List.mem_of_getElem? (i := 1551) (by decide +kernel)⟩
theorem lw_p68 : lw_okq (⟨"StayPlayModel", "reckonState", "(IZIIII)V"⟩, 54) := ⟨⟨by decide +kernel, by decide +kernel⟩, List.mem_of_getElem? (i := 1085) (by decide +kernel), List.mem_of_getElem? (i := 1554) (by decide +kernel), List.mem_of_getElem? (i := 1555) (by decide +kernel)⟩
theorem lw_p69 : lw_okq (⟨"StayPlayModel", "reckonScene", "(IIIIII)V"⟩, 54) := ⟨⟨by decide +kernel, by decide +kernel⟩, List.mem_of_getElem? (i := 1085) (by decide +kernel), List.mem_of_getElem? (i := 1569) (by decide +kernel), List.mem_of_getElem? (i := 1570) (by decide +kernel)⟩
theorem lw_p70 : lw_okq (⟨"StayPlayModel", "brings", "(IIIIII)J"⟩, 54) := ⟨⟨by decide +kernel, by decide +kernel⟩, List.mem_of_getElem? (i := 1085) (by decide +kernel), List.mem_of_getElem? (i := 1573) (by decide +kernel), List.mem_of_getElem? (i := 1574) (by decide +kernel)⟩
theorem lw_p71 : lw_okq (⟨"StayPlayModel", "findStays", "(III)V"⟩, 54) := ⟨⟨by decide +kernel, by decide +kernel⟩, List.mem_of_getElem? (i := 1085) (by decide +kernel), List.mem_of_getElem? (i := 1577) (by decide +kernel), List.mem_of_getElem? (i := 1578) (by decide +kernel)⟩
theorem lw_p72 : lw_okq (⟨"StayPlayModel", "findFixed", "()V"⟩, 54) := ⟨⟨by decide +kernel, by decide +kernel⟩, List.mem_of_getElem? (i := 1085) (by decide +kernel), List.mem_of_getElem? (i := 1588) (by decide +kernel), List.mem_of_getElem? (i := 1589) (by decide +kernel)⟩
theorem lw_p73 : lw_okq (⟨"StayPlayModel", "weighRow", "()V"⟩, 54) := ⟨⟨by decide +kernel, by decide +kernel⟩, List.mem_of_getElem? (i := 1085) (by decide +kernel), List.mem_of_getElem? (i := 1592) (by decide +kernel), List.mem_of_getElem? (i := 1593) (by decide +kernel)⟩
theorem lw_p74 : lw_okq (⟨"StayPlayModel", "reckonRow", "([III)V"⟩, 54) := ⟨⟨by decide +kernel, by decide +kernel⟩, List.mem_of_getElem? (i := 1085) (by decide +kernel), List.mem_of_getElem? (i := 1596) (by decide +kernel), List.mem_of_getElem? (i := 1597) (by decide +kernel)⟩
theorem lw_p75 : lw_okq (⟨"StayPlayModel", "rootAt", "()I"⟩, 54) := ⟨⟨by decide +kernel, by decide +kernel⟩, List.mem_of_getElem? (i := 1085) (by decide +kernel), List.mem_of_getElem? (i := 1600) (by decide +kernel), List.mem_of_getElem? (i := 1601) (by decide +kernel)⟩
theorem lw_p76 : lw_okq (⟨"StayPlayModel", "nextOf", "([IIII)I"⟩, 54) := ⟨⟨by decide +kernel, by decide +kernel⟩, List.mem_of_getElem? (i := 1085) (by decide +kernel), List.mem_of_getElem? (i := 1619) (by decide +kernel), List.mem_of_getElem? (i := 1620) (by decide +kernel)⟩
theorem lw_p77 : lw_okq (⟨"StayPlayModel", "lessOf", "([JI[J)I"⟩, 54) := ⟨⟨by decide +kernel, by decide +kernel⟩, List.mem_of_getElem? (i := 1085) (by decide +kernel), List.mem_of_getElem? (i := 1635) (by decide +kernel), List.mem_of_getElem? (i := 1636) (by decide +kernel)⟩
theorem lw_p78 : lw_okq (⟨"StayPlayModel", "liken", "(I)V"⟩, 54) := ⟨⟨by decide +kernel, by decide +kernel⟩, List.mem_of_getElem? (i := 1085) (by decide +kernel), List.mem_of_getElem? (i := 1664) (by decide +kernel), List.mem_of_getElem? (i := 1665) (by decide +kernel)⟩
theorem lw_p79 : lw_okq (⟨"StayPlayModel", "pass", "(IIII)V"⟩, 54) := ⟨⟨by decide +kernel, by decide +kernel⟩, List.mem_of_getElem? (i := 1085) (by decide +kernel), List.mem_of_getElem? (i := 1668) (by decide +kernel), List.mem_of_getElem? (i := 1669) (by decide +kernel)⟩
def lw_privs_5 : List (MethodName × Nat) := [(⟨"StayPlayModel", "isState", "(II)Z"⟩, 54), (⟨"StayPlayModel", "mostBehind", "(IIII)I"⟩, 54), (⟨"StayPlayModel", "chance", "(IIIIII)I"⟩, 54), (⟨"StayPlayModel", "reckon", "(IZ)V"⟩, 54), (⟨"StayPlayModel", "reckonState", "(IZIIII)V"⟩, 54), (⟨"StayPlayModel", "reckonScene", "(IIIIII)V"⟩, 54), (⟨"StayPlayModel", "brings", "(IIIIII)J"⟩, 54), (⟨"StayPlayModel", "findStays", "(III)V"⟩, 54), (⟨"StayPlayModel", "findFixed", "()V"⟩, 54), (⟨"StayPlayModel", "weighRow", "()V"⟩, 54), (⟨"StayPlayModel", "reckonRow", "([III)V"⟩, 54), (⟨"StayPlayModel", "rootAt", "()I"⟩, 54), (⟨"StayPlayModel", "nextOf", "([IIII)I"⟩, 54), (⟨"StayPlayModel", "lessOf", "([JI[J)I"⟩, 54), (⟨"StayPlayModel", "liken", "(I)V"⟩, 54), (⟨"StayPlayModel", "pass", "(IIII)V"⟩, 54)]
theorem lw_r5 : ∀ q ∈ lw_privs_5, lw_okq q := List.forall_mem_cons.mpr ⟨lw_p64, List.forall_mem_cons.mpr ⟨lw_p65, List.forall_mem_cons.mpr ⟨lw_p66, List.forall_mem_cons.mpr ⟨lw_p67, List.forall_mem_cons.mpr ⟨lw_p68, List.forall_mem_cons.mpr ⟨lw_p69, List.forall_mem_cons.mpr ⟨lw_p70, List.forall_mem_cons.mpr ⟨lw_p71, List.forall_mem_cons.mpr ⟨lw_p72, List.forall_mem_cons.mpr ⟨lw_p73, List.forall_mem_cons.mpr ⟨lw_p74, List.forall_mem_cons.mpr ⟨lw_p75, List.forall_mem_cons.mpr ⟨lw_p76, List.forall_mem_cons.mpr ⟨lw_p77, List.forall_mem_cons.mpr ⟨lw_p78, List.forall_mem_cons.mpr ⟨lw_p79, fun _ h => absurd h List.not_mem_nil⟩⟩⟩⟩⟩⟩⟩⟩⟩⟩⟩⟩⟩⟩⟩⟩
theorem lw_p80 : lw_okq (⟨"StayPlayModel", "ratio", "()I"⟩, 54) := ⟨⟨by decide +kernel, by decide +kernel⟩, List.mem_of_getElem? (i := 1085) (by decide +kernel), List.mem_of_getElem? (i := 1672) (by decide +kernel), List.mem_of_getElem? (i := 1673) (by decide +kernel)⟩
theorem lw_p81 : lw_okq (⟨"StayPlayModel", "goThrough", "(III)V"⟩, 54) := ⟨⟨by decide +kernel, by decide +kernel⟩, List.mem_of_getElem? (i := 1085) (by decide +kernel), List.mem_of_getElem? (i := 1684) (by decide +kernel), List.mem_of_getElem? (i := 1685) (by decide +kernel)⟩
theorem lw_p82 : lw_okq (⟨"StayPlayModel", "play", "(IIIII)I"⟩, 54) := ⟨⟨by decide +kernel, by decide +kernel⟩, List.mem_of_getElem? (i := 1085) (by decide +kernel), List.mem_of_getElem? (i := 1688) (by decide +kernel), List.mem_of_getElem? (i := 1689) (by decide +kernel)⟩
theorem lw_p83 : lw_okq (⟨"StayPlayModel", "staying", "(II)I"⟩, 54) := ⟨⟨by decide +kernel, by decide +kernel⟩, List.mem_of_getElem? (i := 1085) (by decide +kernel), List.mem_of_getElem? (i := 1692) (by decide +kernel), List.mem_of_getElem? (i := 1693) (by decide +kernel)⟩
theorem lw_p84 : lw_okq (⟨"StayPlayModel", "draw", "(I)I"⟩, 54) := ⟨⟨by decide +kernel, by decide +kernel⟩, List.mem_of_getElem? (i := 1085) (by decide +kernel), List.mem_of_getElem? (i := 1696) (by decide +kernel), List.mem_of_getElem? (i := 1697) (by decide +kernel)⟩
def lw_privs_6 : List (MethodName × Nat) := [(⟨"StayPlayModel", "ratio", "()I"⟩, 54), (⟨"StayPlayModel", "goThrough", "(III)V"⟩, 54), (⟨"StayPlayModel", "play", "(IIIII)I"⟩, 54), (⟨"StayPlayModel", "staying", "(II)I"⟩, 54), (⟨"StayPlayModel", "draw", "(I)I"⟩, 54)]
theorem lw_r6 : ∀ q ∈ lw_privs_6, lw_okq q := List.forall_mem_cons.mpr ⟨lw_p80, List.forall_mem_cons.mpr ⟨lw_p81, List.forall_mem_cons.mpr ⟨lw_p82, List.forall_mem_cons.mpr ⟨lw_p83, List.forall_mem_cons.mpr ⟨lw_p84, fun _ h => absurd h List.not_mem_nil⟩⟩⟩⟩⟩
def lw_privs : List (MethodName × Nat) := lw_privs_1 ++ (lw_privs_2 ++ (lw_privs_3 ++ (lw_privs_4 ++ (lw_privs_5 ++ (lw_privs_6)))))
def lw_tbl : List Cond := k2_sels lw_privs ++ tables_1
theorem lw_privs_ok : ∀ q ∈ lw_privs, lw_okq q := by
  show ∀ q ∈ lw_privs_1 ++ (lw_privs_2 ++ (lw_privs_3 ++ (lw_privs_4 ++ (lw_privs_5 ++ (lw_privs_6))))), lw_okq q
  exact List.forall_mem_append.mpr ⟨lw_r1, List.forall_mem_append.mpr ⟨lw_r2, List.forall_mem_append.mpr ⟨lw_r3, List.forall_mem_append.mpr ⟨lw_r4, List.forall_mem_append.mpr ⟨lw_r5, lw_r6⟩⟩⟩⟩⟩
end
section
def RX0 : String := "StayPlay$Asker"
def TX0 : u_T := fun k => match k with
  | 0 => ("StayPlay$Asker", "house", "LStayPlay$House;", true)
  | 1 => ("StayPlay$Asker", "facts", "[I", true)
  | _ => ("StayPlay$Asker", "stack", "[J", true)
def tyX0 : Nat → FieldType := fun k => match k with
  | 0 => .object "StayPlay$House"
  | 1 => .array .int
  | _ => .array .long
theorem nmX0 : ∀ a, a < 3 → ∀ b, b < 3 → a ≠ b → (TX0 a).2.1 ≠ (TX0 b).2.1 := by decide +kernel
theorem tyX0_ok : ∀ k, k < 3 → parseFieldDescriptor (TX0 k).2.2.1 = some (tyX0 k) := by decide +kernel
abbrev cX0_init : ByteArray := prog_2_method_1_code
def yX0_init : MethodName := ⟨RX0, "<init>", "(LStayPlay$House;)V"⟩
abbrev cX0_about : ByteArray := prog_2_method_2_code
def yX0_about : MethodName := ⟨RX0, "about", "(IIIIIII)V"⟩
abbrev cX0_tells : ByteArray := prog_2_method_3_code
def yX0_tells : MethodName := ⟨RX0, "tells", "(I)I"⟩
abbrev cX0_holds : ByteArray := prog_2_method_4_code
def yX0_holds : MethodName := ⟨RX0, "holds", "([III)Z"⟩
abbrev cX0_joined : ByteArray := prog_2_method_5_code
def yX0_joined : MethodName := ⟨RX0, "joined", "(IJJ)J"⟩
def RX1 : String := "StayPlay$Counted"
def TX1 : u_T := fun k => match k with
  | 0 => ("StayPlay$Counted", "house", "LStayPlay$House;", true)
  | 1 => ("StayPlay$Counted", "asker", "LStayPlay$Asker;", true)
  | 2 => ("StayPlay$Counted", "here", "[J", true)
  | 3 => ("StayPlay$Counted", "behind", "[J", true)
  | 4 => ("StayPlay$Counted", "sum", "[J", true)
  | 5 => ("StayPlay$Counted", "part", "[J", true)
  | 6 => ("StayPlay$Counted", "total", "[J", true)
  | 7 => ("StayPlay$Counted", "spreadZero", "[J", true)
  | _ => ("StayPlay$Counted", "spreadOne", "[J", true)
def tyX1 : Nat → FieldType := fun k => match k with
  | 0 => .object "StayPlay$House"
  | 1 => .object "StayPlay$Asker"
  | 2 => .array .long
  | 3 => .array .long
  | 4 => .array .long
  | 5 => .array .long
  | 6 => .array .long
  | 7 => .array .long
  | _ => .array .long
theorem nmX1 : ∀ a, a < 9 → ∀ b, b < 9 → a ≠ b → (TX1 a).2.1 ≠ (TX1 b).2.1 := by decide +kernel
theorem tyX1_ok : ∀ k, k < 9 → parseFieldDescriptor (TX1 k).2.2.1 = some (tyX1 k) := by decide +kernel
abbrev cX1_init : ByteArray := prog_3_method_1_code
def yX1_init : MethodName := ⟨RX1, "<init>", "(LStayPlay$House;LStayPlay$Asker;)V"⟩
abbrev cX1_likely : ByteArray := prog_3_method_2_code
def yX1_likely : MethodName := ⟨RX1, "likely", "(I)I"⟩
abbrev cX1_isWay : ByteArray := prog_3_method_3_code
def yX1_isWay : MethodName := ⟨RX1, "isWay", "(II)Z"⟩
abbrev cX1_begin : ByteArray := prog_3_method_4_code
def yX1_begin : MethodName := ⟨RX1, "begin", "(I)V"⟩
abbrev cX1_stepBack : ByteArray := prog_3_method_5_code
def yX1_stepBack : MethodName := ⟨RX1, "stepBack", "(I)V"⟩
abbrev cX1_addWays : ByteArray := prog_3_method_6_code
def yX1_addWays : MethodName := ⟨RX1, "addWays", "(III)V"⟩
abbrev cX1_millionths : ByteArray := prog_3_method_7_code
def yX1_millionths : MethodName := ⟨RX1, "millionths", "()I"⟩
def RX2 : String := "StayPlay$Digits"
def TX2 : u_T := fun k => match k with
  | _ => ("", "", "", false)
def tyX2 : Nat → FieldType := fun k => match k with
  | _ => .int
theorem nmX2 : ∀ a, a < 0 → ∀ b, b < 0 → a ≠ b → (TX2 a).2.1 ≠ (TX2 b).2.1 := by decide +kernel
theorem tyX2_ok : ∀ k, k < 0 → parseFieldDescriptor (TX2 k).2.2.1 = some (tyX2 k) := by decide +kernel
abbrev cX2_addTimes : ByteArray := prog_4_method_2_code
def yX2_addTimes : MethodName := ⟨RX2, "addTimes", "([J[JIIJ)V"⟩
abbrev cX2_addAt : ByteArray := prog_4_method_3_code
def yX2_addAt : MethodName := ⟨RX2, "addAt", "([JIJ)V"⟩
abbrev cX2_carry : ByteArray := prog_4_method_4_code
def yX2_carry : MethodName := ⟨RX2, "carry", "([J)V"⟩
abbrev cX2_compare : ByteArray := prog_4_method_5_code
def yX2_compare : MethodName := ⟨RX2, "compare", "([J[JII)I"⟩
abbrev cX2_subtract : ByteArray := prog_4_method_6_code
def yX2_subtract : MethodName := ⟨RX2, "subtract", "([J[J)V"⟩
abbrev cX2_figure : ByteArray := prog_4_method_7_code
def yX2_figure : MethodName := ⟨RX2, "figure", "([JI)I"⟩
abbrev cX2_nine : ByteArray := prog_4_method_8_code
def yX2_nine : MethodName := ⟨RX2, "nine", "([JI)I"⟩
abbrev cX2_above : ByteArray := prog_4_method_9_code
def yX2_above : MethodName := ⟨RX2, "above", "([JI)I"⟩
abbrev cX2_spread : ByteArray := prog_4_method_10_code
def yX2_spread : MethodName := ⟨RX2, "spread", "([JII)V"⟩
def RX3 : String := "StayPlay$Guide"
def TX3 : u_T := fun k => match k with
  | 0 => ("StayPlay$Guide", "house", "LStayPlay$House;", true)
  | 1 => ("StayPlay$Guide", "steps", "LStayPlay$Steps;", true)
  | 2 => ("StayPlay$Guide", "ahead", "LStayPlay$Table;", true)
  | 3 => ("StayPlay$Guide", "fixedRow", "[I", true)
  | _ => ("StayPlay$Guide", "fixedSize", "I", false)
def tyX3 : Nat → FieldType := fun k => match k with
  | 0 => .object "StayPlay$House"
  | 1 => .object "StayPlay$Steps"
  | 2 => .object "StayPlay$Table"
  | 3 => .array .int
  | _ => .int
theorem nmX3 : ∀ a, a < 5 → ∀ b, b < 5 → a ≠ b → (TX3 a).2.1 ≠ (TX3 b).2.1 := by decide +kernel
theorem tyX3_ok : ∀ k, k < 5 → parseFieldDescriptor (TX3 k).2.2.1 = some (tyX3 k) := by decide +kernel
abbrev cX3_init : ByteArray := prog_5_method_1_code
def yX3_init : MethodName := ⟨RX3, "<init>", "(LStayPlay$House;LStayPlay$Steps;)V"⟩
abbrev cX3_choose : ByteArray := prog_5_method_2_code
def yX3_choose : MethodName := ⟨RX3, "choose", "(IIIII)I"⟩
abbrev cX3_takeRow : ByteArray := prog_5_method_3_code
def yX3_takeRow : MethodName := ⟨RX3, "takeRow", "(I)V"⟩
abbrev cX3_ofRow : ByteArray := prog_5_method_4_code
def yX3_ofRow : MethodName := ⟨RX3, "ofRow", "([III)I"⟩
def RX4 : String := "StayPlay$House"
def TX4 : u_T := fun k => match k with
  | 0 => ("StayPlay$House", "scenes", "I", false)
  | 1 => ("StayPlay$House", "minutes", "[I", true)
  | 2 => ("StayPlay$House", "needs", "[I", true)
  | 3 => ("StayPlay$House", "ends", "[I", true)
  | 4 => ("StayPlay$House", "people", "[I", true)
  | 5 => ("StayPlay$House", "weight", "[I", true)
  | 6 => ("StayPlay$House", "fresh", "[I", true)
  | 7 => ("StayPlay$House", "terms", "[I", true)
  | 8 => ("StayPlay$House", "laws", "[LStayPlay$Law;", true)
  | 9 => ("StayPlay$House", "lawCount", "I", false)
  | 10 => ("StayPlay$House", "inForce", "I", false)
  | 11 => ("StayPlay$House", "book", "[I", true)
  | 12 => ("StayPlay$House", "bookSize", "I", false)
  | 13 => ("StayPlay$House", "headsTold", "Z", false)
  | 14 => ("StayPlay$House", "counts", "[I", true)
  | 15 => ("StayPlay$House", "headScenes", "[I", true)
  | _ => ("StayPlay$House", "headRow", "I", false)
def tyX4 : Nat → FieldType := fun k => match k with
  | 0 => .int
  | 1 => .array .int
  | 2 => .array .int
  | 3 => .array .int
  | 4 => .array .int
  | 5 => .array .int
  | 6 => .array .int
  | 7 => .array .int
  | 8 => .array (.object "StayPlay$Law")
  | 9 => .int
  | 10 => .int
  | 11 => .array .int
  | 12 => .int
  | 13 => .boolean
  | 14 => .array .int
  | 15 => .array .int
  | _ => .int
theorem nmX4 : ∀ a, a < 17 → ∀ b, b < 17 → a ≠ b → (TX4 a).2.1 ≠ (TX4 b).2.1 := by decide +kernel
theorem tyX4_ok : ∀ k, k < 17 → parseFieldDescriptor (TX4 k).2.2.1 = some (tyX4 k) := by decide +kernel
abbrev cX4_init : ByteArray := prog_6_method_1_code
def yX4_init : MethodName := ⟨RX4, "<init>", "()V"⟩
abbrev cX4_becomes : ByteArray := prog_6_method_2_code
def yX4_becomes : MethodName := ⟨RX4, "becomes", "(LStayPlay$House;)V"⟩
abbrev cX4_holds : ByteArray := prog_6_method_3_code
def yX4_holds : MethodName := ⟨RX4, "holds", "(II)Z"⟩
abbrev cX4_fitsScene : ByteArray := prog_6_method_4_code
def yX4_fitsScene : MethodName := ⟨RX4, "fitsScene", "(II)Z"⟩
abbrev cX4_couldBe : ByteArray := prog_6_method_5_code
def yX4_couldBe : MethodName := ⟨RX4, "couldBe", "(III)Z"⟩
abbrev cX4_addScene : ByteArray := prog_6_method_6_code
def yX4_addScene : MethodName := ⟨RX4, "addScene", "(III)V"⟩
abbrev cX4_hasScene : ByteArray := prog_6_method_7_code
def yX4_hasScene : MethodName := ⟨RX4, "hasScene", "(I)Z"⟩
abbrev cX4_isEnd : ByteArray := prog_6_method_8_code
def yX4_isEnd : MethodName := ⟨RX4, "isEnd", "(I)Z"⟩
abbrev cX4_isSet : ByteArray := prog_6_method_9_code
def yX4_isSet : MethodName := ⟨RX4, "isSet", "(I)Z"⟩
abbrev cX4_endWithin : ByteArray := prog_6_method_10_code
def yX4_endWithin : MethodName := ⟨RX4, "endWithin", "(I)Z"⟩
abbrev cX4_minutesOf : ByteArray := prog_6_method_11_code
def yX4_minutesOf : MethodName := ⟨RX4, "minutesOf", "(I)I"⟩
abbrev cX4_open : ByteArray := prog_6_method_12_code
def yX4_open : MethodName := ⟨RX4, "open", "(I)I"⟩
abbrev cX4_booked : ByteArray := prog_6_method_13_code
def yX4_booked : MethodName := ⟨RX4, "booked", "(I)Z"⟩
abbrev cX4_headsCould : ByteArray := prog_6_method_14_code
def yX4_headsCould : MethodName := ⟨RX4, "headsCould", "(II)Z"⟩
abbrev cX4_lawInForce : ByteArray := prog_6_method_15_code
def yX4_lawInForce : MethodName := ⟨RX4, "lawInForce", "()LStayPlay$Law;"⟩
def RX5 : String := "StayPlay$Law"
def TX5 : u_T := fun k => match k with
  | 0 => ("StayPlay$Law", "clauses", "I", true)
  | 1 => ("StayPlay$Law", "heads", "[I", true)
  | 2 => ("StayPlay$Law", "starts", "[I", true)
  | _ => ("StayPlay$Law", "code", "[I", true)
def tyX5 : Nat → FieldType := fun k => match k with
  | 0 => .int
  | 1 => .array .int
  | 2 => .array .int
  | _ => .array .int
theorem nmX5 : ∀ a, a < 4 → ∀ b, b < 4 → a ≠ b → (TX5 a).2.1 ≠ (TX5 b).2.1 := by decide +kernel
theorem tyX5_ok : ∀ k, k < 4 → parseFieldDescriptor (TX5 k).2.2.1 = some (tyX5 k) := by decide +kernel
abbrev cX5_init : ByteArray := prog_7_method_1_code
def yX5_init : MethodName := ⟨RX5, "<init>", "(LStayPlay$Reader;)V"⟩
def RX6 : String := "StayPlay$Plan"
def TX6 : u_T := fun k => match k with
  | 0 => ("StayPlay$Plan", "house", "LStayPlay$House;", true)
  | 1 => ("StayPlay$Plan", "steps", "LStayPlay$Steps;", true)
  | 2 => ("StayPlay$Plan", "guide", "LStayPlay$Guide;", true)
  | 3 => ("StayPlay$Plan", "other", "LStayPlay$Table;", true)
  | 4 => ("StayPlay$Plan", "otherKnown", "Z", false)
  | 5 => ("StayPlay$Plan", "rowList", "[I", true)
  | 6 => ("StayPlay$Plan", "rowCount", "I", false)
  | 7 => ("StayPlay$Plan", "rowsKnown", "Z", false)
  | 8 => ("StayPlay$Plan", "fixKnown", "Z", false)
  | 9 => ("StayPlay$Plan", "fixedWorth", "[J", true)
  | 10 => ("StayPlay$Plan", "answer", "[J", true)
  | _ => ("StayPlay$Plan", "lesser", "[J", true)
def tyX6 : Nat → FieldType := fun k => match k with
  | 0 => .object "StayPlay$House"
  | 1 => .object "StayPlay$Steps"
  | 2 => .object "StayPlay$Guide"
  | 3 => .object "StayPlay$Table"
  | 4 => .boolean
  | 5 => .array .int
  | 6 => .int
  | 7 => .boolean
  | 8 => .boolean
  | 9 => .array .long
  | 10 => .array .long
  | _ => .array .long
theorem nmX6 : ∀ a, a < 12 → ∀ b, b < 12 → a ≠ b → (TX6 a).2.1 ≠ (TX6 b).2.1 := by decide +kernel
theorem tyX6_ok : ∀ k, k < 12 → parseFieldDescriptor (TX6 k).2.2.1 = some (tyX6 k) := by decide +kernel
abbrev cX6_init : ByteArray := prog_8_method_1_code
def yX6_init : MethodName := ⟨RX6, "<init>", "(LStayPlay$House;LStayPlay$Steps;LStayPlay$Guide;)V"⟩
abbrev cX6_lawsChanged : ByteArray := prog_8_method_2_code
def yX6_lawsChanged : MethodName := ⟨RX6, "lawsChanged", "()V"⟩
abbrev cX6_valuesChanged : ByteArray := prog_8_method_3_code
def yX6_valuesChanged : MethodName := ⟨RX6, "valuesChanged", "()V"⟩
abbrev cX6_bookChanged : ByteArray := prog_8_method_4_code
def yX6_bookChanged : MethodName := ⟨RX6, "bookChanged", "()V"⟩
abbrev cX6_tells : ByteArray := prog_8_method_5_code
def yX6_tells : MethodName := ⟨RX6, "tells", "(II)[J"⟩
abbrev cX6_fix : ByteArray := prog_8_method_6_code
def yX6_fix : MethodName := ⟨RX6, "fix", "()V"⟩
abbrev cX6_listed : ByteArray := prog_8_method_7_code
def yX6_listed : MethodName := ⟨RX6, "listed", "()I"⟩
abbrev cX6_list : ByteArray := prog_8_method_8_code
def yX6_list : MethodName := ⟨RX6, "list", "(III)V"⟩
abbrev cX6_seeingGap : ByteArray := prog_8_method_9_code
def yX6_seeingGap : MethodName := ⟨RX6, "seeingGap", "()I"⟩
abbrev cX6_lossGap : ByteArray := prog_8_method_10_code
def yX6_lossGap : MethodName := ⟨RX6, "lossGap", "(I)I"⟩
abbrev cX6_gap : ByteArray := prog_8_method_11_code
def yX6_gap : MethodName := ⟨RX6, "gap", "()I"⟩
def RX7 : String := "StayPlay$Reader"
def TX7 : u_T := fun k => match k with
  | 0 => ("StayPlay$Reader", "kinds", "[I", true)
  | 1 => ("StayPlay$Reader", "places", "[I", true)
  | 2 => ("StayPlay$Reader", "at", "I", false)
  | 3 => ("StayPlay$Reader", "parts", "I", false)
  | 4 => ("StayPlay$Reader", "clauses", "I", false)
  | 5 => ("StayPlay$Reader", "heads", "[I", true)
  | 6 => ("StayPlay$Reader", "starts", "[I", true)
  | 7 => ("StayPlay$Reader", "code", "[I", true)
  | _ => ("StayPlay$Reader", "size", "I", false)
def tyX7 : Nat → FieldType := fun k => match k with
  | 0 => .array .int
  | 1 => .array .int
  | 2 => .int
  | 3 => .int
  | 4 => .int
  | 5 => .array .int
  | 6 => .array .int
  | 7 => .array .int
  | _ => .int
theorem nmX7 : ∀ a, a < 9 → ∀ b, b < 9 → a ≠ b → (TX7 a).2.1 ≠ (TX7 b).2.1 := by decide +kernel
theorem tyX7_ok : ∀ k, k < 9 → parseFieldDescriptor (TX7 k).2.2.1 = some (tyX7 k) := by decide +kernel
abbrev cX7_init : ByteArray := prog_9_method_1_code
def yX7_init : MethodName := ⟨RX7, "<init>", "()V"⟩
abbrev cX7_reads : ByteArray := prog_9_method_2_code
def yX7_reads : MethodName := ⟨RX7, "reads", "([II)I"⟩
abbrev cX7_split : ByteArray := prog_9_method_3_code
def yX7_split : MethodName := ⟨RX7, "split", "([II)V"⟩
abbrev cX7_tokenEnd : ByteArray := prog_9_method_4_code
def yX7_tokenEnd : MethodName := ⟨RX7, "tokenEnd", "([III)I"⟩
abbrev cX7_kindOf : ByteArray := prog_9_method_5_code
def yX7_kindOf : MethodName := ⟨RX7, "kindOf", "([III)I"⟩
abbrev cX7_wordOf : ByteArray := prog_9_method_6_code
def yX7_wordOf : MethodName := ⟨RX7, "wordOf", "([III)I"⟩
abbrev cX7_clause : ByteArray := prog_9_method_7_code
def yX7_clause : MethodName := ⟨RX7, "clause", "()Z"⟩
abbrev cX7_tests : ByteArray := prog_9_method_8_code
def yX7_tests : MethodName := ⟨RX7, "tests", "(II)Z"⟩
abbrev cX7_plain : ByteArray := prog_9_method_9_code
def yX7_plain : MethodName := ⟨RX7, "plain", "(I)Z"⟩
abbrev cX7_sums : ByteArray := prog_9_method_10_code
def yX7_sums : MethodName := ⟨RX7, "sums", "(II)Z"⟩
abbrev cX7_part : ByteArray := prog_9_method_11_code
def yX7_part : MethodName := ⟨RX7, "part", "(I)Z"⟩
abbrev cX7_emit : ByteArray := prog_9_method_12_code
def yX7_emit : MethodName := ⟨RX7, "emit", "(II)V"⟩
def RX8 : String := "StayPlay$Steps"
def TX8 : u_T := fun k => match k with
  | 0 => ("StayPlay$Steps", "house", "LStayPlay$House;", true)
  | 1 => ("StayPlay$Steps", "asker", "LStayPlay$Asker;", true)
  | 2 => ("StayPlay$Steps", "firstStep", "[I", true)
  | 3 => ("StayPlay$Steps", "firstLimb", "[I", true)
  | 4 => ("StayPlay$Steps", "firstSlot", "[I", true)
  | 5 => ("StayPlay$Steps", "kept", "[I", true)
  | _ => ("StayPlay$Steps", "stale", "Z", false)
def tyX8 : Nat → FieldType := fun k => match k with
  | 0 => .object "StayPlay$House"
  | 1 => .object "StayPlay$Asker"
  | 2 => .array .int
  | 3 => .array .int
  | 4 => .array .int
  | 5 => .array .int
  | _ => .boolean
theorem nmX8 : ∀ a, a < 7 → ∀ b, b < 7 → a ≠ b → (TX8 a).2.1 ≠ (TX8 b).2.1 := by decide +kernel
theorem tyX8_ok : ∀ k, k < 7 → parseFieldDescriptor (TX8 k).2.2.1 = some (tyX8 k) := by decide +kernel
abbrev cX8_init : ByteArray := prog_10_method_1_code
def yX8_init : MethodName := ⟨RX8, "<init>", "(LStayPlay$House;LStayPlay$Asker;)V"⟩
abbrev cX8_nodeOf : ByteArray := prog_10_method_2_code
def yX8_nodeOf : MethodName := ⟨RX8, "nodeOf", "(II)I"⟩
abbrev cX8_crowdOf : ByteArray := prog_10_method_3_code
def yX8_crowdOf : MethodName := ⟨RX8, "crowdOf", "(II)I"⟩
abbrev cX8_told : ByteArray := prog_10_method_4_code
def yX8_told : MethodName := ⟨RX8, "told", "(IIIII)I"⟩
abbrev cX8_chanceOf : ByteArray := prog_10_method_5_code
def yX8_chanceOf : MethodName := ⟨RX8, "chanceOf", "(II)I"⟩
abbrev cX8_pricesOf : ByteArray := prog_10_method_6_code
def yX8_pricesOf : MethodName := ⟨RX8, "pricesOf", "(I)I"⟩
def RX9 : String := "StayPlay$Table"
def TX9 : u_T := fun k => match k with
  | 0 => ("StayPlay$Table", "house", "LStayPlay$House;", true)
  | 1 => ("StayPlay$Table", "steps", "LStayPlay$Steps;", true)
  | 2 => ("StayPlay$Table", "guide", "LStayPlay$Guide;", true)
  | 3 => ("StayPlay$Table", "values", "[J", true)
  | 4 => ("StayPlay$Table", "settled", "[I", true)
  | 5 => ("StayPlay$Table", "sum", "[J", true)
  | 6 => ("StayPlay$Table", "part", "[J", true)
  | 7 => ("StayPlay$Table", "spreadZero", "[J", true)
  | 8 => ("StayPlay$Table", "spreadOne", "[J", true)
  | 9 => ("StayPlay$Table", "turn", "I", false)
  | 10 => ("StayPlay$Table", "chooser", "I", false)
  | _ => ("StayPlay$Table", "kind", "I", false)
def tyX9 : Nat → FieldType := fun k => match k with
  | 0 => .object "StayPlay$House"
  | 1 => .object "StayPlay$Steps"
  | 2 => .object "StayPlay$Guide"
  | 3 => .array .long
  | 4 => .array .int
  | 5 => .array .long
  | 6 => .array .long
  | 7 => .array .long
  | 8 => .array .long
  | 9 => .int
  | 10 => .int
  | _ => .int
theorem nmX9 : ∀ a, a < 12 → ∀ b, b < 12 → a ≠ b → (TX9 a).2.1 ≠ (TX9 b).2.1 := by decide +kernel
theorem tyX9_ok : ∀ k, k < 12 → parseFieldDescriptor (TX9 k).2.2.1 = some (tyX9 k) := by decide +kernel
abbrev cX9_init : ByteArray := prog_11_method_1_code
def yX9_init : MethodName := ⟨RX9, "<init>", "(LStayPlay$House;LStayPlay$Steps;LStayPlay$Guide;)V"⟩
abbrev cX9_begins : ByteArray := prog_11_method_2_code
def yX9_begins : MethodName := ⟨RX9, "begins", "(II)V"⟩
abbrev cX9_bestAt : ByteArray := prog_11_method_3_code
def yX9_bestAt : MethodName := ⟨RX9, "bestAt", "(IIII)I"⟩
abbrev cX9_copyRoot : ByteArray := prog_11_method_4_code
def yX9_copyRoot : MethodName := ⟨RX9, "copyRoot", "(II[J)V"⟩
abbrev cX9_limbAt : ByteArray := prog_11_method_5_code
def yX9_limbAt : MethodName := ⟨RX9, "limbAt", "(IIII)I"⟩
abbrev cX9_settle : ByteArray := prog_11_method_6_code
def yX9_settle : MethodName := ⟨RX9, "settle", "(IIIII)V"⟩
abbrev cX9_bring : ByteArray := prog_11_method_7_code
def yX9_bring : MethodName := ⟨RX9, "bring", "(IIIII)V"⟩
abbrev cX9_visit : ByteArray := prog_11_method_8_code
def yX9_visit : MethodName := ⟨RX9, "visit", "(IIIII)V"⟩
abbrev cX9_startSum : ByteArray := prog_11_method_9_code
def yX9_startSum : MethodName := ⟨RX9, "startSum", "(IJ)V"⟩
abbrev cX9_expect : ByteArray := prog_11_method_10_code
def yX9_expect : MethodName := ⟨RX9, "expect", "(IIIII)V"⟩
abbrev cX9_gain : ByteArray := prog_11_method_11_code
def yX9_gain : MethodName := ⟨RX9, "gain", "(IIII)I"⟩
def RX10 : String := "StayPlay$World"
def TX10 : u_T := fun k => match k with
  | 0 => ("StayPlay$World", "house", "LStayPlay$House;", true)
  | 1 => ("StayPlay$World", "steps", "LStayPlay$Steps;", true)
  | 2 => ("StayPlay$World", "guide", "LStayPlay$Guide;", true)
  | 3 => ("StayPlay$World", "seed", "I", false)
  | 4 => ("StayPlay$World", "scenes", "[I", true)
  | 5 => ("StayPlay$World", "zeros", "[I", true)
  | 6 => ("StayPlay$World", "ones", "[I", true)
  | 7 => ("StayPlay$World", "size", "I", false)
  | 8 => ("StayPlay$World", "sawZero", "I", false)
  | 9 => ("StayPlay$World", "sawOne", "I", false)
  | 10 => ("StayPlay$World", "came", "I", false)
  | 11 => ("StayPlay$World", "saw", "I", false)
  | _ => ("StayPlay$World", "sat", "I", false)
def tyX10 : Nat → FieldType := fun k => match k with
  | 0 => .object "StayPlay$House"
  | 1 => .object "StayPlay$Steps"
  | 2 => .object "StayPlay$Guide"
  | 3 => .int
  | 4 => .array .int
  | 5 => .array .int
  | 6 => .array .int
  | 7 => .int
  | 8 => .int
  | 9 => .int
  | 10 => .int
  | 11 => .int
  | _ => .int
theorem nmX10 : ∀ a, a < 13 → ∀ b, b < 13 → a ≠ b → (TX10 a).2.1 ≠ (TX10 b).2.1 := by decide +kernel
theorem tyX10_ok : ∀ k, k < 13 → parseFieldDescriptor (TX10 k).2.2.1 = some (tyX10 k) := by decide +kernel
abbrev cX10_init : ByteArray := prog_12_method_1_code
def yX10_init : MethodName := ⟨RX10, "<init>", "(LStayPlay$House;LStayPlay$Steps;LStayPlay$Guide;)V"⟩
abbrev cX10_plays : ByteArray := prog_12_method_2_code
def yX10_plays : MethodName := ⟨RX10, "plays", "(III)V"⟩
abbrev cX10_playsNights : ByteArray := prog_12_method_3_code
def yX10_playsNights : MethodName := ⟨RX10, "playsNights", "(II)V"⟩
abbrev cX10_staying : ByteArray := prog_12_method_4_code
def yX10_staying : MethodName := ⟨RX10, "staying", "(II)I"⟩
abbrev cX10_draw : ByteArray := prog_12_method_5_code
def yX10_draw : MethodName := ⟨RX10, "draw", "(I)I"⟩
def RX11 : String := "StayPlay"
def TX11 : u_T := fun k => match k with
  | 0 => ("StayPlay", "now", "LStayPlay$House;", true)
  | 1 => ("StayPlay", "images", "[LStayPlay$House;", true)
  | 2 => ("StayPlay", "tape", "[I", true)
  | 3 => ("StayPlay", "taped", "I", false)
  | 4 => ("StayPlay", "cutRows", "I", false)
  | 5 => ("StayPlay", "faultPlace", "I", false)
  | 6 => ("StayPlay", "refusals", "[I", true)
  | 7 => ("StayPlay", "latestRefusal", "I", false)
  | 8 => ("StayPlay", "reader", "LStayPlay$Reader;", true)
  | 9 => ("StayPlay", "asker", "LStayPlay$Asker;", true)
  | 10 => ("StayPlay", "steps", "LStayPlay$Steps;", true)
  | 11 => ("StayPlay", "guide", "LStayPlay$Guide;", true)
  | 12 => ("StayPlay", "plan", "LStayPlay$Plan;", true)
  | 13 => ("StayPlay", "counted", "LStayPlay$Counted;", true)
  | 14 => ("StayPlay", "latestWorld", "LStayPlay$World;", true)
  | _ => ("StayPlay", "town", "LStayPlay$World;", true)
def tyX11 : Nat → FieldType := fun k => match k with
  | 0 => .object "StayPlay$House"
  | 1 => .array (.object "StayPlay$House")
  | 2 => .array .int
  | 3 => .int
  | 4 => .int
  | 5 => .int
  | 6 => .array .int
  | 7 => .int
  | 8 => .object "StayPlay$Reader"
  | 9 => .object "StayPlay$Asker"
  | 10 => .object "StayPlay$Steps"
  | 11 => .object "StayPlay$Guide"
  | 12 => .object "StayPlay$Plan"
  | 13 => .object "StayPlay$Counted"
  | 14 => .object "StayPlay$World"
  | _ => .object "StayPlay$World"
theorem nmX11 : ∀ a, a < 16 → ∀ b, b < 16 → a ≠ b → (TX11 a).2.1 ≠ (TX11 b).2.1 := by decide +kernel
theorem tyX11_ok : ∀ k, k < 16 → parseFieldDescriptor (TX11 k).2.2.1 = some (tyX11 k) := by decide +kernel
abbrev cX11_init : ByteArray := prog_1_method_1_code
def yX11_init : MethodName := ⟨RX11, "<init>", "()V"⟩
abbrev cX11_scene : ByteArray := prog_1_method_2_code
def yX11_scene : MethodName := ⟨RX11, "scene", "(III)I"⟩
abbrev cX11_put : ByteArray := prog_1_method_3_code
def yX11_put : MethodName := ⟨RX11, "put", "(III)I"⟩
abbrev cX11_sort : ByteArray := prog_1_method_4_code
def yX11_sort : MethodName := ⟨RX11, "sort", "(III)I"⟩
abbrev cX11_terms : ByteArray := prog_1_method_5_code
def yX11_terms : MethodName := ⟨RX11, "terms", "(II)I"⟩
abbrev cX11_feed : ByteArray := prog_1_method_6_code
def yX11_feed : MethodName := ⟨RX11, "feed", "(IIIII)I"⟩
abbrev cX11_end : ByteArray := prog_1_method_7_code
def yX11_end : MethodName := ⟨RX11, "end", "(I)I"⟩
abbrev cX11_row : ByteArray := prog_1_method_8_code
def yX11_row : MethodName := ⟨RX11, "row", "()I"⟩
abbrev cX11_cut : ByteArray := prog_1_method_9_code
def yX11_cut : MethodName := ⟨RX11, "cut", "()I"⟩
abbrev cX11_law : ByteArray := prog_1_method_10_code
def yX11_law : MethodName := ⟨RX11, "law", "()I"⟩
abbrev cX11_fault : ByteArray := prog_1_method_11_code
def yX11_fault : MethodName := ⟨RX11, "fault", "()I"⟩
abbrev cX11_force : ByteArray := prog_1_method_12_code
def yX11_force : MethodName := ⟨RX11, "force", "(I)I"⟩
abbrev cX11_asks : ByteArray := prog_1_method_13_code
def yX11_asks : MethodName := ⟨RX11, "asks", "(IIIIIIII)I"⟩
abbrev cX11_can : ByteArray := prog_1_method_14_code
def yX11_can : MethodName := ⟨RX11, "can", "(I)I"⟩
abbrev cX11_book : ByteArray := prog_1_method_15_code
def yX11_book : MethodName := ⟨RX11, "book", "(I)I"⟩
abbrev cX11_tear : ByteArray := prog_1_method_16_code
def yX11_tear : MethodName := ⟨RX11, "tear", "()I"⟩
abbrev cX11_worth : ByteArray := prog_1_method_17_code
def yX11_worth : MethodName := ⟨RX11, "worth", "(I)I"⟩
abbrev cX11_figures : ByteArray := prog_1_method_18_code
def yX11_figures : MethodName := ⟨RX11, "figures", "(II)I"⟩
abbrev cX11_next : ByteArray := prog_1_method_19_code
def yX11_next : MethodName := ⟨RX11, "next", "(IIIII)I"⟩
abbrev cX11_fixed : ByteArray := prog_1_method_20_code
def yX11_fixed : MethodName := ⟨RX11, "fixed", "(I)I"⟩
abbrev cX11_rows : ByteArray := prog_1_method_21_code
def yX11_rows : MethodName := ⟨RX11, "rows", "()I"⟩
abbrev cX11_seeing : ByteArray := prog_1_method_22_code
def yX11_seeing : MethodName := ⟨RX11, "seeing", "()I"⟩
abbrev cX11_loss : ByteArray := prog_1_method_23_code
def yX11_loss : MethodName := ⟨RX11, "loss", "(I)I"⟩
abbrev cX11_evening : ByteArray := prog_1_method_24_code
def yX11_evening : MethodName := ⟨RX11, "evening", "(I)I"⟩
abbrev cX11_odds : ByteArray := prog_1_method_25_code
def yX11_odds : MethodName := ⟨RX11, "odds", "(II)I"⟩
abbrev cX11_heads : ByteArray := prog_1_method_26_code
def yX11_heads : MethodName := ⟨RX11, "heads", "(I)I"⟩
abbrev cX11_stayed : ByteArray := prog_1_method_27_code
def yX11_stayed : MethodName := ⟨RX11, "stayed", "(II)I"⟩
abbrev cX11_were : ByteArray := prog_1_method_28_code
def yX11_were : MethodName := ⟨RX11, "were", "(I)I"⟩
abbrev cX11_run : ByteArray := prog_1_method_29_code
def yX11_run : MethodName := ⟨RX11, "run", "(II)I"⟩
abbrev cX11_ran : ByteArray := prog_1_method_30_code
def yX11_ran : MethodName := ⟨RX11, "ran", "(II)I"⟩
abbrev cX11_nights : ByteArray := prog_1_method_31_code
def yX11_nights : MethodName := ⟨RX11, "nights", "(IIII)I"⟩
abbrev cX11_image : ByteArray := prog_1_method_32_code
def yX11_image : MethodName := ⟨RX11, "image", "(I)I"⟩
abbrev cX11_back : ByteArray := prog_1_method_33_code
def yX11_back : MethodName := ⟨RX11, "back", "(I)I"⟩
abbrev cX11_count : ByteArray := prog_1_method_34_code
def yX11_count : MethodName := ⟨RX11, "count", "(I)I"⟩
abbrev cX11_status : ByteArray := prog_1_method_35_code
def yX11_status : MethodName := ⟨RX11, "status", "()I"⟩
abbrev cX11_accept : ByteArray := prog_1_method_36_code
def yX11_accept : MethodName := ⟨RX11, "accept", "(I)I"⟩
abbrev cX11_refuse : ByteArray := prog_1_method_37_code
def yX11_refuse : MethodName := ⟨RX11, "refuse", "(I)I"⟩
abbrev cX11_takeBytes : ByteArray := prog_1_method_38_code
def yX11_takeBytes : MethodName := ⟨RX11, "takeBytes", "(I)V"⟩
abbrev cX11_isSort : ByteArray := prog_1_method_39_code
def yX11_isSort : MethodName := ⟨RX11, "isSort", "(I)Z"⟩
abbrev cX11_isChooser : ByteArray := prog_1_method_40_code
def yX11_isChooser : MethodName := ⟨RX11, "isChooser", "(I)Z"⟩
abbrev cX11_isCrowd : ByteArray := prog_1_method_41_code
def yX11_isCrowd : MethodName := ⟨RX11, "isCrowd", "(II)Z"⟩
abbrev cX11_isLatest : ByteArray := prog_1_method_42_code
def yX11_isLatest : MethodName := ⟨RX11, "isLatest", "(II)Z"⟩
def RX12 : String := "StayPlayModel"
def TX12 : u_T := fun k => match k with
  | 0 => ("StayPlayModel", "thrown", "I", false)
  | 1 => ("StayPlayModel", "status", "I", false)
  | 2 => ("StayPlayModel", "refusals", "[I", true)
  | 3 => ("StayPlayModel", "row", "[I", true)
  | 4 => ("StayPlayModel", "images", "[I", true)
  | 5 => ("StayPlayModel", "isKept", "[Z", true)
  | 6 => ("StayPlayModel", "cut", "I", false)
  | 7 => ("StayPlayModel", "tape", "[I", true)
  | 8 => ("StayPlayModel", "taped", "I", false)
  | 9 => ("StayPlayModel", "from", "I", false)
  | 10 => ("StayPlayModel", "to", "I", false)
  | 11 => ("StayPlayModel", "sort", "I", false)
  | 12 => ("StayPlayModel", "worth", "J", false)
  | 13 => ("StayPlayModel", "fault", "I", false)
  | 14 => ("StayPlayModel", "bad", "Z", false)
  | 15 => ("StayPlayModel", "nClauses", "I", false)
  | 16 => ("StayPlayModel", "nClause", "[I", true)
  | 17 => ("StayPlayModel", "nCode", "I", false)
  | 18 => ("StayPlayModel", "nOp", "[I", true)
  | 19 => ("StayPlayModel", "nArg", "[I", true)
  | 20 => ("StayPlayModel", "nLeaves", "I", false)
  | 21 => ("StayPlayModel", "pile", "[I", true)
  | 22 => ("StayPlayModel", "pileAt", "[I", true)
  | 23 => ("StayPlayModel", "piled", "I", false)
  | 24 => ("StayPlayModel", "opened", "I", false)
  | 25 => ("StayPlayModel", "words", "[J", true)
  | 26 => ("StayPlayModel", "law", "I", false)
  | 27 => ("StayPlayModel", "set", "[J", true)
  | 28 => ("StayPlayModel", "rest", "[J", true)
  | 29 => ("StayPlayModel", "broken", "Z", false)
  | 30 => ("StayPlayModel", "value", "J", false)
  | 31 => ("StayPlayModel", "sum", "J", false)
  | 32 => ("StayPlayModel", "values", "[J", true)
  | 33 => ("StayPlayModel", "choices", "[I", true)
  | 34 => ("StayPlayModel", "tried", "[J", true)
  | 35 => ("StayPlayModel", "inner", "[J", true)
  | 36 => ("StayPlayModel", "root", "[J", true)
  | 37 => ("StayPlayModel", "other", "[J", true)
  | 38 => ("StayPlayModel", "stays", "[J", true)
  | 39 => ("StayPlayModel", "only", "I", false)
  | 40 => ("StayPlayModel", "tale", "[I", true)
  | 41 => ("StayPlayModel", "tales", "I", false)
  | 42 => ("StayPlayModel", "fixed", "[I", true)
  | 43 => ("StayPlayModel", "fixedMany", "I", false)
  | 44 => ("StayPlayModel", "nRows", "I", false)
  | 45 => ("StayPlayModel", "now", "[J", true)
  | 46 => ("StayPlayModel", "then", "[J", true)
  | 47 => ("StayPlayModel", "state", "J", false)
  | 48 => ("StayPlayModel", "wents", "I", false)
  | 49 => ("StayPlayModel", "went", "[I", true)
  | 50 => ("StayPlayModel", "saw0", "I", false)
  | 51 => ("StayPlayModel", "saw1", "I", false)
  | 52 => ("StayPlayModel", "ranMany", "I", false)
  | _ => ("StayPlayModel", "ran", "[I", true)
def tyX12 : Nat → FieldType := fun k => match k with
  | 0 => .int
  | 1 => .int
  | 2 => .array .int
  | 3 => .array .int
  | 4 => .array .int
  | 5 => .array .boolean
  | 6 => .int
  | 7 => .array .int
  | 8 => .int
  | 9 => .int
  | 10 => .int
  | 11 => .int
  | 12 => .long
  | 13 => .int
  | 14 => .boolean
  | 15 => .int
  | 16 => .array .int
  | 17 => .int
  | 18 => .array .int
  | 19 => .array .int
  | 20 => .int
  | 21 => .array .int
  | 22 => .array .int
  | 23 => .int
  | 24 => .int
  | 25 => .array .long
  | 26 => .int
  | 27 => .array .long
  | 28 => .array .long
  | 29 => .boolean
  | 30 => .long
  | 31 => .long
  | 32 => .array .long
  | 33 => .array .int
  | 34 => .array .long
  | 35 => .array .long
  | 36 => .array .long
  | 37 => .array .long
  | 38 => .array .long
  | 39 => .int
  | 40 => .array .int
  | 41 => .int
  | 42 => .array .int
  | 43 => .int
  | 44 => .int
  | 45 => .array .long
  | 46 => .array .long
  | 47 => .long
  | 48 => .int
  | 49 => .array .int
  | 50 => .int
  | 51 => .int
  | 52 => .int
  | _ => .array .int
theorem nmX12 : ∀ a, a < 54 → ∀ b, b < 54 → a ≠ b → (TX12 a).2.1 ≠ (TX12 b).2.1 := by decide +kernel
theorem tyX12_ok : ∀ k, k < 54 → parseFieldDescriptor (TX12 k).2.2.1 = some (tyX12 k) := by decide +kernel
abbrev cX12_init : ByteArray := prog_14_method_1_code
def yX12_init : MethodName := ⟨RX12, "<init>", "()V"⟩
abbrev cX12_in : ByteArray := prog_14_method_3_code
def yX12_in : MethodName := ⟨RX12, "in", "(JJJ)Z"⟩
abbrev cX12_tell : ByteArray := prog_14_method_4_code
def yX12_tell : MethodName := ⟨RX12, "tell", "(I)I"⟩
abbrev cX12_was : ByteArray := prog_14_method_5_code
def yX12_was : MethodName := ⟨RX12, "was", "(I)I"⟩
abbrev cX12_change : ByteArray := prog_14_method_6_code
def yX12_change : MethodName := ⟨RX12, "change", "(II)I"⟩
abbrev cX12_image : ByteArray := prog_14_method_7_code
def yX12_image : MethodName := ⟨RX12, "image", "(I)I"⟩
abbrev cX12_back : ByteArray := prog_14_method_8_code
def yX12_back : MethodName := ⟨RX12, "back", "(I)I"⟩
abbrev cX12_is : ByteArray := prog_14_method_9_code
def yX12_is : MethodName := ⟨RX12, "is", "(II)Z"⟩
abbrev cX12_isScene : ByteArray := prog_14_method_10_code
def yX12_isScene : MethodName := ⟨RX12, "isScene", "(I)Z"⟩
abbrev cX12_ofScene : ByteArray := prog_14_method_11_code
def yX12_ofScene : MethodName := ⟨RX12, "ofScene", "(II)I"⟩
abbrev cX12_fits : ByteArray := prog_14_method_12_code
def yX12_fits : MethodName := ⟨RX12, "fits", "(III)Z"⟩
abbrev cX12_addScene : ByteArray := prog_14_method_13_code
def yX12_addScene : MethodName := ⟨RX12, "addScene", "(III)V"⟩
abbrev cX12_scene : ByteArray := prog_14_method_14_code
def yX12_scene : MethodName := ⟨RX12, "scene", "(III)I"⟩
abbrev cX12_put : ByteArray := prog_14_method_15_code
def yX12_put : MethodName := ⟨RX12, "put", "(III)I"⟩
abbrev cX12_sort : ByteArray := prog_14_method_16_code
def yX12_sort : MethodName := ⟨RX12, "sort", "(III)I"⟩
abbrev cX12_terms : ByteArray := prog_14_method_17_code
def yX12_terms : MethodName := ⟨RX12, "terms", "(II)I"⟩
abbrev cX12_row : ByteArray := prog_14_method_18_code
def yX12_row : MethodName := ⟨RX12, "row", "()I"⟩
abbrev cX12_cut : ByteArray := prog_14_method_19_code
def yX12_cut : MethodName := ⟨RX12, "cut", "()I"⟩
abbrev cX12_four : ByteArray := prog_14_method_20_code
def yX12_four : MethodName := ⟨RX12, "four", "(I)V"⟩
abbrev cX12_feed : ByteArray := prog_14_method_21_code
def yX12_feed : MethodName := ⟨RX12, "feed", "(IIIII)I"⟩
abbrev cX12_end : ByteArray := prog_14_method_22_code
def yX12_end : MethodName := ⟨RX12, "end", "(I)I"⟩
abbrev cX12_isSmall : ByteArray := prog_14_method_23_code
def yX12_isSmall : MethodName := ⟨RX12, "isSmall", "(I)Z"⟩
abbrev cX12_isDigit : ByteArray := prog_14_method_24_code
def yX12_isDigit : MethodName := ⟨RX12, "isDigit", "(I)Z"⟩
abbrev cX12_begin : ByteArray := prog_14_method_25_code
def yX12_begin : MethodName := ⟨RX12, "begin", "()V"⟩
abbrev cX12_goOn : ByteArray := prog_14_method_26_code
def yX12_goOn : MethodName := ⟨RX12, "goOn", "()V"⟩
abbrev cX12_isWord : ByteArray := prog_14_method_27_code
def yX12_isWord : MethodName := ⟨RX12, "isWord", "(J)Z"⟩
abbrev cX12_isSign : ByteArray := prog_14_method_28_code
def yX12_isSign : MethodName := ⟨RX12, "isSign", "(I)Z"⟩
abbrev cX12_must : ByteArray := prog_14_method_29_code
def yX12_must : MethodName := ⟨RX12, "must", "(Z)V"⟩
abbrev cX12_fault : ByteArray := prog_14_method_31_code
def yX12_fault : MethodName := ⟨RX12, "fault", "()I"⟩
abbrev cX12_emit : ByteArray := prog_14_method_32_code
def yX12_emit : MethodName := ⟨RX12, "emit", "(II)V"⟩
abbrev cX12_push : ByteArray := prog_14_method_33_code
def yX12_push : MethodName := ⟨RX12, "push", "(II)V"⟩
abbrev cX12_binds : ByteArray := prog_14_method_34_code
def yX12_binds : MethodName := ⟨RX12, "binds", "(I)I"⟩
abbrev cX12_settle : ByteArray := prog_14_method_35_code
def yX12_settle : MethodName := ⟨RX12, "settle", "(I)V"⟩
abbrev cX12_inner : ByteArray := prog_14_method_36_code
def yX12_inner : MethodName := ⟨RX12, "inner", "()I"⟩
abbrev cX12_isCompared : ByteArray := prog_14_method_37_code
def yX12_isCompared : MethodName := ⟨RX12, "isCompared", "()Z"⟩
abbrev cX12_partAt : ByteArray := prog_14_method_38_code
def yX12_partAt : MethodName := ⟨RX12, "partAt", "()I"⟩
abbrev cX12_openBracket : ByteArray := prog_14_method_39_code
def yX12_openBracket : MethodName := ⟨RX12, "openBracket", "(I)V"⟩
abbrev cX12_leaf : ByteArray := prog_14_method_40_code
def yX12_leaf : MethodName := ⟨RX12, "leaf", "(ZII)V"⟩
abbrev cX12_readPart : ByteArray := prog_14_method_41_code
def yX12_readPart : MethodName := ⟨RX12, "readPart", "()I"⟩
abbrev cX12_readPlain : ByteArray := prog_14_method_42_code
def yX12_readPlain : MethodName := ⟨RX12, "readPlain", "()I"⟩
abbrev cX12_behindSum : ByteArray := prog_14_method_43_code
def yX12_behindSum : MethodName := ⟨RX12, "behindSum", "(Z)I"⟩
abbrev cX12_behindTest : ByteArray := prog_14_method_44_code
def yX12_behindTest : MethodName := ⟨RX12, "behindTest", "()I"⟩
abbrev cX12_readExpression : ByteArray := prog_14_method_45_code
def yX12_readExpression : MethodName := ⟨RX12, "readExpression", "(Z)V"⟩
abbrev cX12_readClause : ByteArray := prog_14_method_46_code
def yX12_readClause : MethodName := ⟨RX12, "readClause", "()V"⟩
abbrev cX12_law : ByteArray := prog_14_method_47_code
def yX12_law : MethodName := ⟨RX12, "law", "()I"⟩
abbrev cX12_force : ByteArray := prog_14_method_48_code
def yX12_force : MethodName := ⟨RX12, "force", "(I)I"⟩
abbrev cX12_reckon : ByteArray := prog_14_method_49_code
def yX12_reckon : MethodName := ⟨RX12, "reckon", "(IJJ)J"⟩
abbrev cX12_reckonAll : ByteArray := prog_14_method_50_code
def yX12_reckonAll : MethodName := ⟨RX12, "reckonAll", "(II)V"⟩
abbrev cX12_isSo : ByteArray := prog_14_method_51_code
def yX12_isSo : MethodName := ⟨RX12, "isSo", "(I)Z"⟩
abbrev cX12_tells : ByteArray := prog_14_method_52_code
def yX12_tells : MethodName := ⟨RX12, "tells", "(III)I"⟩
abbrev cX12_ask : ByteArray := prog_14_method_53_code
def yX12_ask : MethodName := ⟨RX12, "ask", "(IIIIIIII)I"⟩
abbrev cX12_asks : ByteArray := prog_14_method_54_code
def yX12_asks : MethodName := ⟨RX12, "asks", "(IIIIIIII)I"⟩
abbrev cX12_minutesOf : ByteArray := prog_14_method_55_code
def yX12_minutesOf : MethodName := ⟨RX12, "minutesOf", "(I)I"⟩
abbrev cX12_bits : ByteArray := prog_14_method_56_code
def yX12_bits : MethodName := ⟨RX12, "bits", "(I)I"⟩
abbrev cX12_canBe : ByteArray := prog_14_method_57_code
def yX12_canBe : MethodName := ⟨RX12, "canBe", "(I)I"⟩
abbrev cX12_can : ByteArray := prog_14_method_58_code
def yX12_can : MethodName := ⟨RX12, "can", "(I)I"⟩
abbrev cX12_book : ByteArray := prog_14_method_59_code
def yX12_book : MethodName := ⟨RX12, "book", "(I)I"⟩
abbrev cX12_tear : ByteArray := prog_14_method_60_code
def yX12_tear : MethodName := ⟨RX12, "tear", "()I"⟩
abbrev cX12_stateOf : ByteArray := prog_14_method_61_code
def yX12_stateOf : MethodName := ⟨RX12, "stateOf", "(IIII)I"⟩
abbrev cX12_clear : ByteArray := prog_14_method_62_code
def yX12_clear : MethodName := ⟨RX12, "clear", "([JI)V"⟩
abbrev cX12_add : ByteArray := prog_14_method_63_code
def yX12_add : MethodName := ⟨RX12, "add", "([JI[JIJ)V"⟩
abbrev cX12_addNumber : ByteArray := prog_14_method_64_code
def yX12_addNumber : MethodName := ⟨RX12, "addNumber", "([JJI)V"⟩
abbrev cX12_compare : ByteArray := prog_14_method_65_code
def yX12_compare : MethodName := ⟨RX12, "compare", "([JI[JI)I"⟩
abbrev cX12_digits : ByteArray := prog_14_method_66_code
def yX12_digits : MethodName := ⟨RX12, "digits", "([JI)J"⟩
abbrev cX12_digit : ByteArray := prog_14_method_67_code
def yX12_digit : MethodName := ⟨RX12, "digit", "([JI)I"⟩
abbrev cX12_brings : ByteArray := prog_14_method_68_code
def yX12_brings : MethodName := ⟨RX12, "brings", "(IIIIII)J"⟩
abbrev cX12_chance : ByteArray := prog_14_method_69_code
def yX12_chance : MethodName := ⟨RX12, "chance", "(IIIIII)I"⟩
abbrev cX12_over : ByteArray := prog_14_method_70_code
def yX12_over : MethodName := ⟨RX12, "over", "(II)J"⟩
abbrev cX12_findStays : ByteArray := prog_14_method_71_code
def yX12_findStays : MethodName := ⟨RX12, "findStays", "(III)V"⟩
abbrev cX12_reckonScene : ByteArray := prog_14_method_72_code
def yX12_reckonScene : MethodName := ⟨RX12, "reckonScene", "(IIIIII)V"⟩
abbrev cX12_isState : ByteArray := prog_14_method_73_code
def yX12_isState : MethodName := ⟨RX12, "isState", "(II)Z"⟩
abbrev cX12_reckon_ : ByteArray := prog_14_method_74_code
def yX12_reckon_ : MethodName := ⟨RX12, "reckon", "(IZ)V"⟩
abbrev cX12_reckonState : ByteArray := prog_14_method_75_code
def yX12_reckonState : MethodName := ⟨RX12, "reckonState", "(IZIIII)V"⟩
abbrev cX12_chooseRow : ByteArray := prog_14_method_76_code
def yX12_chooseRow : MethodName := ⟨RX12, "chooseRow", "([III)V"⟩
abbrev cX12_chooseMost : ByteArray := prog_14_method_77_code
def yX12_chooseMost : MethodName := ⟨RX12, "chooseMost", "()V"⟩
abbrev cX12_mostBehind : ByteArray := prog_14_method_78_code
def yX12_mostBehind : MethodName := ⟨RX12, "mostBehind", "(IIII)I"⟩
abbrev cX12_rootAt : ByteArray := prog_14_method_79_code
def yX12_rootAt : MethodName := ⟨RX12, "rootAt", "()I"⟩
abbrev cX12_weighRow : ByteArray := prog_14_method_80_code
def yX12_weighRow : MethodName := ⟨RX12, "weighRow", "()V"⟩
abbrev cX12_reckonRow : ByteArray := prog_14_method_81_code
def yX12_reckonRow : MethodName := ⟨RX12, "reckonRow", "([III)V"⟩
abbrev cX12_findFixed : ByteArray := prog_14_method_82_code
def yX12_findFixed : MethodName := ⟨RX12, "findFixed", "()V"⟩
abbrev cX12_isChooser : ByteArray := prog_14_method_83_code
def yX12_isChooser : MethodName := ⟨RX12, "isChooser", "(I)Z"⟩
abbrev cX12_choose : ByteArray := prog_14_method_84_code
def yX12_choose : MethodName := ⟨RX12, "choose", "(I)V"⟩
abbrev cX12_findRoot : ByteArray := prog_14_method_85_code
def yX12_findRoot : MethodName := ⟨RX12, "findRoot", "(II)V"⟩
abbrev cX12_worth : ByteArray := prog_14_method_86_code
def yX12_worth : MethodName := ⟨RX12, "worth", "(I)I"⟩
abbrev cX12_figures : ByteArray := prog_14_method_87_code
def yX12_figures : MethodName := ⟨RX12, "figures", "(II)I"⟩
abbrev cX12_next : ByteArray := prog_14_method_88_code
def yX12_next : MethodName := ⟨RX12, "next", "(IIIII)I"⟩
abbrev cX12_nextOf : ByteArray := prog_14_method_89_code
def yX12_nextOf : MethodName := ⟨RX12, "nextOf", "([IIII)I"⟩
abbrev cX12_fixed : ByteArray := prog_14_method_90_code
def yX12_fixed : MethodName := ⟨RX12, "fixed", "(I)I"⟩
abbrev cX12_rows : ByteArray := prog_14_method_91_code
def yX12_rows : MethodName := ⟨RX12, "rows", "()I"⟩
abbrev cX12_lessOf : ByteArray := prog_14_method_92_code
def yX12_lessOf : MethodName := ⟨RX12, "lessOf", "([JI[J)I"⟩
abbrev cX12_seeing : ByteArray := prog_14_method_93_code
def yX12_seeing : MethodName := ⟨RX12, "seeing", "()I"⟩
abbrev cX12_loss : ByteArray := prog_14_method_94_code
def yX12_loss : MethodName := ⟨RX12, "loss", "(I)I"⟩
abbrev cX12_evening : ByteArray := prog_14_method_95_code
def yX12_evening : MethodName := ⟨RX12, "evening", "(I)I"⟩
abbrev cX12_odds : ByteArray := prog_14_method_96_code
def yX12_odds : MethodName := ⟨RX12, "odds", "(II)I"⟩
abbrev cX12_heads : ByteArray := prog_14_method_97_code
def yX12_heads : MethodName := ⟨RX12, "heads", "(I)I"⟩
abbrev cX12_stayed : ByteArray := prog_14_method_98_code
def yX12_stayed : MethodName := ⟨RX12, "stayed", "(II)I"⟩
abbrev cX12_liken : ByteArray := prog_14_method_99_code
def yX12_liken : MethodName := ⟨RX12, "liken", "(I)V"⟩
abbrev cX12_pass : ByteArray := prog_14_method_100_code
def yX12_pass : MethodName := ⟨RX12, "pass", "(IIII)V"⟩
abbrev cX12_were : ByteArray := prog_14_method_101_code
def yX12_were : MethodName := ⟨RX12, "were", "(I)I"⟩
abbrev cX12_ratio : ByteArray := prog_14_method_102_code
def yX12_ratio : MethodName := ⟨RX12, "ratio", "()I"⟩
abbrev cX12_draw : ByteArray := prog_14_method_103_code
def yX12_draw : MethodName := ⟨RX12, "draw", "(I)I"⟩
abbrev cX12_staying : ByteArray := prog_14_method_104_code
def yX12_staying : MethodName := ⟨RX12, "staying", "(II)I"⟩
abbrev cX12_play : ByteArray := prog_14_method_105_code
def yX12_play : MethodName := ⟨RX12, "play", "(IIIII)I"⟩
abbrev cX12_goThrough : ByteArray := prog_14_method_106_code
def yX12_goThrough : MethodName := ⟨RX12, "goThrough", "(III)V"⟩
abbrev cX12_isSeed : ByteArray := prog_14_method_107_code
def yX12_isSeed : MethodName := ⟨RX12, "isSeed", "(I)Z"⟩
abbrev cX12_run : ByteArray := prog_14_method_108_code
def yX12_run : MethodName := ⟨RX12, "run", "(II)I"⟩
abbrev cX12_ran : ByteArray := prog_14_method_109_code
def yX12_ran : MethodName := ⟨RX12, "ran", "(II)I"⟩
abbrev cX12_nights : ByteArray := prog_14_method_110_code
def yX12_nights : MethodName := ⟨RX12, "nights", "(IIII)I"⟩
abbrev cX12_count : ByteArray := prog_14_method_111_code
def yX12_count : MethodName := ⟨RX12, "count", "(I)I"⟩
abbrev cX12_status : ByteArray := prog_14_method_112_code
def yX12_status : MethodName := ⟨RX12, "status", "()I"⟩
def RJ6 : String := "java/lang/Integer"
abbrev cJ6_bitCount_0f7a4 : ByteArray := prog_16_method_49_code
def yJ6_bitCount_0f7a4 : MethodName := ⟨RJ6, "bitCount", "(I)I"⟩
def RJ9 : String := "java/lang/Math"
abbrev cJ9_max_f86c9 : ByteArray := prog_17_method_66_code
def yJ9_max_f86c9 : MethodName := ⟨RJ9, "max", "(JJ)J"⟩
abbrev cJ9_min_7cf53 : ByteArray := prog_17_method_69_code
def yJ9_min_7cf53 : MethodName := ⟨RJ9, "min", "(II)I"⟩
abbrev cJ9_min_f86c9 : ByteArray := prog_17_method_70_code
def yJ9_min_f86c9 : MethodName := ⟨RJ9, "min", "(JJ)J"⟩
def RJ0 : String := "java/lang/String"
abbrev cJ0_length_8abf5 : ByteArray := prog_18_method_54_code
def yJ0_length_8abf5 : MethodName := ⟨RJ0, "length", "()I"⟩
abbrev cJ0_charAt_5068e : ByteArray := prog_18_method_56_code
def yJ0_charAt_5068e : MethodName := ⟨RJ0, "charAt", "(I)C"⟩
abbrev cJ0_coder_7d493 : ByteArray := prog_18_method_152_code
def yJ0_coder_7d493 : MethodName := ⟨RJ0, "coder", "()B"⟩
abbrev cJ0_isLatin1_aae02 : ByteArray := prog_18_method_154_code
def yJ0_isLatin1_aae02 : MethodName := ⟨RJ0, "isLatin1", "()Z"⟩
abbrev cJ0_checkIndex_df160 : ByteArray := prog_18_method_155_code
def yJ0_checkIndex_df160 : MethodName := ⟨RJ0, "checkIndex", "(II)V"⟩
def RJ1 : String := "java/lang/StringLatin1"
abbrev cJ1_charAt_3b067 : ByteArray := prog_19_method_2_code
def yJ1_charAt_3b067 : MethodName := ⟨RJ1, "charAt", "([BI)C"⟩
def RJ2 : String := "java/lang/StringUTF16"
abbrev cJ2_getChar_3b067 : ByteArray := prog_20_method_5_code
def yJ2_getChar_3b067 : MethodName := ⟨RJ2, "getChar", "([BI)C"⟩
abbrev cJ2_length_9d52b : ByteArray := prog_20_method_6_code
def yJ2_length_9d52b : MethodName := ⟨RJ2, "length", "([B)I"⟩
abbrev cJ2_charAt_3b067 : ByteArray := prog_20_method_83_code
def yJ2_charAt_3b067 : MethodName := ⟨RJ2, "charAt", "([BI)C"⟩
abbrev cJ2_checkIndex_2214a : ByteArray := prog_20_method_91_code
def yJ2_checkIndex_2214a : MethodName := ⟨RJ2, "checkIndex", "(I[B)V"⟩
def RJ10 : String := "java/lang/System"
def RJ7 : String := "java/util/Arrays"
abbrev cJ7_rangeCheck_23922 : ByteArray := prog_22_method_30_code
def yJ7_rangeCheck_23922 : MethodName := ⟨RJ7, "rangeCheck", "(III)V"⟩
abbrev cJ7_fill_d0a16 : ByteArray := prog_22_method_101_code
def yJ7_fill_d0a16 : MethodName := ⟨RJ7, "fill", "([JJ)V"⟩
abbrev cJ7_fill_bad5a : ByteArray := prog_22_method_102_code
def yJ7_fill_bad5a : MethodName := ⟨RJ7, "fill", "([JIIJ)V"⟩
abbrev cJ7_fill_53178 : ByteArray := prog_22_method_103_code
def yJ7_fill_53178 : MethodName := ⟨RJ7, "fill", "([II)V"⟩
abbrev cJ7_copyOf_59c91 : ByteArray := prog_22_method_123_code
def yJ7_copyOf_59c91 : MethodName := ⟨RJ7, "copyOf", "([II)[I"⟩
def RJ3 : String := "jdk/internal/util/Preconditions"
abbrev cJ3_checkIndex_8e157 : ByteArray := prog_23_method_11_code
def yJ3_checkIndex_8e157 : MethodName := ⟨RJ3, "checkIndex", "(IILjava/util/function/BiFunction;)I"⟩
def RL : String := "StayPlayLaw"
abbrev cL_law : ByteArray := code
def yL_law : MethodName := ⟨RL, "law", "([I)Z"⟩
abbrev vwCl : List vw_C := [(RX0, TX0, 3), (RX1, TX1, 9), (RX3, TX3, 5), (RX4, TX4, 17), (RX5, TX5, 4), (RX6, TX6, 12), (RX7, TX7, 9), (RX8, TX8, 7), (RX9, TX9, 12), (RX10, TX10, 13), (RX11, TX11, 16), (RX12, TX12, 54)]
end
section
/-! ===== a small calculus over the machine: values are plain integers, the heap is a function ===== -/
def lw_g : List Cond := lw_tbl.filter goodWord
theorem lw_in {w : Cond} (h : w ∈ lw_tbl) (hg : goodWord w = true) : w ∈ lw_g := List.mem_filter.mpr ⟨h, hg⟩
theorem lw_gg : ∀ w ∈ lw_g, w ∈ lw_g ∧ ((w.onTables && w.keeps) = true ∨ ∃ ty, w = .arrayClass ty) := fun w h => ⟨h, good_of_word (List.mem_filter.mp h).2⟩
/-- a value: an int, a long, a reference (-1: null), or nothing -/
abbrev PV : Type := Int ⊕ (Int ⊕ (Int ⊕ Unit))
abbrev vI (a : Int) : PV := Sum.inl a
abbrev vL (a : Int) : PV := Sum.inr (Sum.inl a)
abbrev vA (a : Int) : PV := Sum.inr (Sum.inr (Sum.inl a))
abbrev vU : PV := Sum.inr (Sum.inr (Sum.inr ()))
/-- base address, special addresses, classes, slots, array classes -/
abbrev GG : Type := Nat × (Nat → Nat) × (Nat → ClassId) × (Nat → Nat → Nat) × (Nat → ClassId) × Nat × (Nat → Int)
def gB (G : GG) : Nat := G.1
def gS (G : GG) : Nat → Nat := G.2.1
def gC (G : GG) : Nat → ClassId := G.2.2.1
def gI (G : GG) : Nat → Nat → Nat := G.2.2.2.1
def gA (G : GG) : Nat → ClassId := G.2.2.2.2.1
def gL (G : GG) : Nat := G.2.2.2.2.2.1
def gX (G : GG) : Nat → Int := G.2.2.2.2.2.2
def gR (G : GG) : Nat → Prop := fun q => gB G ≤ q
def gad (G : GG) (r : Int) : Nat := if r < 0 then gS G (-r).toNat else gB G + r.toNat
def rfV (G : GG) (r : Int) : Value := if r = -1 then .null else .ref (gad G r)
def tV (G : GG) : PV → Value
  | Sum.inl a => .int (Int32.ofInt a)
  | Sum.inr (Sum.inl a) => .long (Int64.ofInt a)
  | Sum.inr (Sum.inr (Sum.inl r)) => rfV G r
  | Sum.inr (Sum.inr (Sum.inr _)) => .null
def oV (G : GG) : PV → Option Value
  | Sum.inr (Sum.inr (Sum.inr _)) => none
  | x => some (tV G x)
def isU : PV → Bool
  | Sum.inr (Sum.inr (Sum.inr _)) => true
  | _ => false
def isL : PV → Bool
  | Sum.inr (Sum.inl _) => true
  | _ => false
theorem tV_cat (G : GG) (x : PV) : (tV G x).category = if isL x then 2 else 1 := by
  rcases x with a | a | a | a
  · rfl
  · rfl
  · simp only [tV, rfV, isL]
    split <;> rfl
  · rfl
/-- locals -/
def prs (G : GG) : Nat → List PV → List (Nat × Value)
  | _, [] => []
  | i, x :: xs => if isU x then prs G (i + 1) xs else (i, tV G x) :: prs G (i + 1) xs
def LV (G : GG) (ls : Array Slot) (n : Nat) (xs : List PV) : Prop := lv_has ls n (prs G 0 xs)
theorem prs_mem (G : GG) : ∀ (xs : List PV) (i k : Nat) (x : PV), xs[i]? = some x → isU x = false → (k + i, tV G x) ∈ prs G k xs
  | [], i, k, x, h, _ => by simp at h
  | y :: xs, 0, k, x, h, hu => by
    simp only [List.getElem?_cons_zero, Option.some.injEq] at h
    subst h
    simp [prs, hu]
  | y :: xs, i + 1, k, x, h, hu => by
    rw [List.getElem?_cons_succ] at h
    have h2 := prs_mem G xs i (k + 1) x h hu
    rw [show k + (i + 1) = k + 1 + i by omega]
    simp only [prs]
    split
    · exact h2
    · exact List.mem_cons_of_mem _ h2
theorem LV.at {G : GG} {ls : Array Slot} {n : Nat} {xs : List PV} (h : LV G ls n xs) {i : Nat} {x : PV} (hx : xs[i]? = some x) (hu : isU x = false) : ls[i]? = some (.val (tV G x)) := by
  have h1 := prs_mem G xs i 0 x hx hu
  rw [Nat.zero_add] at h1
  exact h.2.2 _ h1
theorem LV.sub {G : GG} {ls : Array Slot} {n : Nat} {xs : List PV} {lv : List (Nat × Value)} (h : lv_has ls n lv) (hs : ∀ q ∈ prs G 0 xs, q ∈ lv) : LV G ls n xs := ⟨h.1, h.2.1, fun q hq => h.2.2 q (hs q hq)⟩
def kL (x : PV) : PV := if isL x then vU else x
def stx : List PV → Nat → PV → List PV
  | [], _, _ => []
  | _ :: xs, 0, v => v :: xs
  | x :: xs, 1, v => kL x :: stx xs 0 v
  | x :: xs, i + 2, v => x :: stx xs (i + 1) v
theorem prs_ge (G : GG) : ∀ (xs : List PV) (k : Nat) (q : Nat × Value), q ∈ prs G k xs → k ≤ q.1
  | [], _, q, h => by simp [prs] at h
  | x :: xs, k, q, h => by
    simp only [prs] at h
    split at h
    · have := prs_ge G xs (k + 1) q h; omega
    · rcases List.mem_cons.mp h with rfl | h
      · exact Nat.le_refl _
      · have := prs_ge G xs (k + 1) q h; omega
theorem prs_stx (G : GG) : ∀ (xs : List PV) (i k : Nat) (v : PV) (q : Nat × Value), q ∈ prs G k (stx xs i v) → q = (k + i, tV G v) ∨ (q ∈ prs G k xs ∧ q.1 ≠ k + i ∧ ¬ (q.1 + 1 = k + i ∧ q.2.category = 2))
  | [], i, k, v, q, h => by simp [stx, prs] at h
  | x :: xs, 0, k, v, q, h => by
    simp only [stx, prs] at h
    have key : q ∈ prs G (k + 1) xs → q ∈ prs G k (x :: xs) ∧ q.1 ≠ k + 0 ∧ ¬ (q.1 + 1 = k + 0 ∧ q.2.category = 2) := by
      intro h1
      have := prs_ge G xs (k + 1) q h1
      refine ⟨?_, by omega, by omega⟩
      simp only [prs]
      split
      · exact h1
      · exact List.mem_cons_of_mem _ h1
    split at h
    · exact Or.inr (key h)
    · rcases List.mem_cons.mp h with rfl | h
      · exact Or.inl rfl
      · exact Or.inr (key h)
  | x :: xs, 1, k, v, q, h => by
    have key : q ∈ prs G (k + 1) (stx xs 0 v) → q = (k + 1, tV G v) ∨ (q ∈ prs G k (x :: xs) ∧ q.1 ≠ k + 1 ∧ ¬ (q.1 + 1 = k + 1 ∧ q.2.category = 2)) := by
      intro h1
      rcases prs_stx G xs 0 (k + 1) v q h1 with h2 | ⟨h2, h3, h4⟩
      · exact Or.inl h2
      · have := prs_ge G xs (k + 1) q h2
        refine Or.inr ⟨?_, h3, by omega⟩
        simp only [prs]
        split
        · exact h2
        · exact List.mem_cons_of_mem _ h2
    simp only [stx, prs, kL] at h
    by_cases hL : isL x = true
    · simp only [hL, if_true, isU] at h
      exact key h
    · simp only [hL, Bool.false_eq_true, if_false] at h
      split at h
      · exact key h
      · rename_i hu
        rcases List.mem_cons.mp h with rfl | h
        · refine Or.inr ⟨?_, by simp, ?_⟩
          · simp [prs, hu]
          · rw [tV_cat]; simp [hL]
        · exact key h
  | x :: xs, i + 2, k, v, q, h => by
    have key : q ∈ prs G (k + 1) (stx xs (i + 1) v) → q = (k + (i + 2), tV G v) ∨ (q ∈ prs G k (x :: xs) ∧ q.1 ≠ k + (i + 2) ∧ ¬ (q.1 + 1 = k + (i + 2) ∧ q.2.category = 2)) := by
      intro h1
      rcases prs_stx G xs (i + 1) (k + 1) v q h1 with h2 | ⟨h2, h3, h4⟩
      · exact Or.inl (by rw [h2, show k + 1 + (i + 1) = k + (i + 2) by omega])
      · refine Or.inr ⟨?_, by omega, by omega⟩
        simp only [prs]
        split
        · exact h2
        · exact List.mem_cons_of_mem _ h2
    simp only [stx, prs] at h
    split at h
    · exact key h
    · rename_i hu
      rcases List.mem_cons.mp h with rfl | h
      · refine Or.inr ⟨by simp [prs, hu], by simp, by simp⟩
      · exact key h
/-- a value of one slot is stored -/
theorem LV.st1 {G : GG} {ls' : Array Slot} {n i : Nat} {xs : List PV} {v : PV} (h : lv_has ls' n ((i, tV G v) :: (prs G 0 xs).filter (fun q => !(q.1 == i) && !(q.1 + 1 == i && q.2.category == 2)))) : LV G ls' n (stx xs i v) := by
  refine LV.sub h fun q hq => ?_
  rcases prs_stx G xs i 0 v q hq with h1 | ⟨h1, h2, h3⟩
  · rw [h1, Nat.zero_add]; exact List.mem_cons_self
  · refine List.mem_cons_of_mem _ (List.mem_filter.mpr ⟨h1, ?_⟩)
    rw [Nat.zero_add] at h2 h3
    simp [h2]
    omega
/-- a value of two slots is stored -/
theorem LV.st2 {G : GG} {ls' : Array Slot} {n i : Nat} {xs : List PV} {v : PV} (h : lv_has ls' n ((i, tV G v) :: (prs G 0 xs).filter (fun q => !(q.1 == i) && (!(q.1 == i + 1) && !(q.1 + 1 == i && q.2.category == 2))))) : LV G ls' n (stx (stx xs (i + 1) vU) i v) := by
  refine LV.sub h fun q hq => ?_
  rcases prs_stx G _ i 0 v q hq with h1 | ⟨h1, h2, h3⟩
  · rw [h1, Nat.zero_add]; exact List.mem_cons_self
  · have h1' := h1
    rw [Nat.zero_add] at h2 h3
    rcases prs_stx G xs (i + 1) 0 vU q h1 with h4 | ⟨h4, h5, h6⟩
    · exfalso
      have hne : ∀ (xs : List PV) (j k : Nat) (w : Value), (k + j, w) ∉ prs G k (stx xs j vU) := by
        intro xs
        induction xs with
        | nil => intro j k w; simp [stx, prs]
        | cons x xs ih =>
          intro j k w hm
          match j with
          | 0 =>
            simp only [stx, prs, isU, if_true] at hm
            have := prs_ge G xs (k + 1) _ hm
            simp at this; omega
          | 1 =>
            simp only [stx, prs] at hm
            have := ih 0 (k + 1) w
            split at hm
            · exact this hm
            · rcases List.mem_cons.mp hm with e | hm
              · have := congrArg Prod.fst e; simp at this
              · exact this hm
          | j + 2 =>
            simp only [stx, prs] at hm
            have := ih (j + 1) (k + 1) w
            rw [show k + 1 + (j + 1) = k + (j + 2) by omega] at this
            split at hm
            · exact this hm
            · rcases List.mem_cons.mp hm with e | hm
              · have := congrArg Prod.fst e; simp at this
              · exact this hm
      rw [h4] at h1'
      exact hne xs (i + 1) 0 _ h1'
    · rw [Nat.zero_add] at h5 h6
      refine List.mem_cons_of_mem _ (List.mem_filter.mpr ⟨h4, ?_⟩)
      simp [h2, h5]
      omega
end
section
/-! ===== the memory: how many cells, their kinds and lengths, what they hold ===== -/
abbrev MM : Type := Int × (Int → Nat × Int) × (Int → Int → Int)
def mN (M : MM) : Int := M.1
def mT (M : MM) (a : Int) : Nat × Int := M.2.1 a
def rd (M : MM) (a i : Int) : Int := M.2.2 a i
def wr (M : MM) (a i v : Int) : MM := (M.1, M.2.1, fun b j => if b = a ∧ j = i then v else M.2.2 b j)
def al (M : MM) (kd : Nat) (n : Int) (f : Int → Int) : MM := (M.1 + 1, fun b => if b = M.1 then (kd, n) else M.2.1 b, fun b j => if b = M.1 then f j else M.2.2 b j)
def cpM (M : MM) (a i b j n : Int) : MM := (M.1, M.2.1, fun c q => if c = b ∧ j ≤ q ∧ q < j + n then M.2.2 a (i + (q - j)) else M.2.2 c q)
/-- kinds: objects 0 .. 11 as vwCl lists them; 20 int[], 21 long[], 22 boolean[], 23 House[], 24 Law[] -/
def fT (kd : Nat) : Nat → FieldType := match kd with
  | 0 => tyX0 | 1 => tyX1 | 2 => tyX3 | 3 => tyX4 | 4 => tyX5 | 5 => tyX6 | 6 => tyX7 | 7 => tyX8 | 8 => tyX9 | 9 => tyX10 | 10 => tyX11 | _ => tyX12
def kN (kd : Nat) : Nat := match kd with
  | 0 => 3 | 1 => 9 | 2 => 5 | 3 => 17 | 4 => 4 | 5 => 12 | 6 => 9 | 7 => 7 | 8 => 12 | 9 => 13 | 10 => 16 | _ => 54
def fV (G : GG) (t : FieldType) (x : Int) : Value := match t with
  | .long => .long (Int64.ofInt x)
  | .object _ => rfV G x
  | .array _ => rfV G x
  | _ => .int (Int32.ofInt x)
def aT (kd : Nat) : FieldType := match kd with
  | 20 => .int | 21 => .long | 22 => .boolean | 23 => .object "StayPlay$House" | _ => .object "StayPlay$Law"
def dV (t : FieldType) : Int := match t with
  | .object _ => -1
  | .array _ => -1
  | _ => 0
def cOK (G : GG) (H : Heap) (a : Nat) (kn : Nat × Int) (f : Int → Int) : Prop :=
  if kn.1 < 12 then t_OB a (gC G kn.1) (kN kn.1) (gI G kn.1) H (fun j => fV G (fT kn.1 j) (f j))
  else 20 ≤ kn.1 ∧ kn.1 < 25 ∧ 0 ≤ kn.2 ∧ kn.2 < 2147483648 ∧ H[a]? = some (arrV (gA G kn.1) kn.2.toNat (fun j => fV G (aT kn.1) (f j)))
def KT (G : GG) : List (ClassId × FieldType) := [(gA G 20, aT 20), (gA G 21, aT 21), (gA G 22, aT 22), (gA G 23, aT 23), (gA G 24, aT 24)]
def limF (j : Nat) : Int := match j with
  | 0 => 14 | 1 => 11 | 2 => 9 | 3 => 6 | 4 => 4 | _ => 1
def tenF (j : Nat) : Int := match j with
  | 0 => 1 | 1 => 10 | 2 => 100 | 3 => 1000 | 4 => 10000 | 5 => 100000 | 6 => 1000000 | _ => 10000000
def wordsT : String := "stays price if or and not sort scene before heads own minute played "
def wordsB : List Int32 := [115, 116, 97, 121, 115, 32, 112, 114, 105, 99, 101, 32, 105, 102, 32, 111, 114, 32, 97, 110, 100, 32, 110, 111, 116, 32, 115, 111, 114, 116, 32, 115, 99, 101, 110, 101, 32, 98, 101, 102, 111, 114, 101, 32, 104, 101, 97, 100, 115, 32, 111, 119, 110, 32, 109, 105, 110, 117, 116, 101, 32, 112, 108, 97, 121, 101, 100, 32]
/-- what stands outside the room: the script (2), two tables (3, 4), a text and its bytes (5, 6) -/
def ST (G : GG) (U : State) (H : Heap) : Prop :=
  va_Z "StayPlay$Steps" "LIMBS" "[I" (.ref (gS G 3)) (gR G) U H ∧ va_T .int (gS G 3) 6 (fun j => .int (Int32.ofInt (limF j))) (gR G) U H ∧
  va_Z "StayPlay$Digits" "TENS" "[J" (.ref (gS G 4)) (gR G) U H ∧ va_T .long (gS G 4) 8 (fun j => .long (Int64.ofInt (tenF j))) (gR G) U H ∧
  va_Z "java/lang/String" "COMPACT_STRINGS" "Z" (.int 1) (gR G) U H ∧ vk_S 1 [68] [wordsB] (fun _ => gS G 5) (fun _ => gS G 6) (gR G) U H ∧
  va_T .int (gS G 2) (gL G) (fun j => .int (Int32.ofInt (gX G j))) (gR G) U H
theorem ST.kept {G : GG} {U : State} {H H1 : Heap} (h : ST G U H) (hq : ∀ a : Nat, a < H.size → ¬ gR G a → H1[a]? = H[a]?) : ST G U H1 := by
  obtain ⟨h1, h2, h3, h4, h5, h6, h7⟩ := h
  exact ⟨h1.kept hq, h2.kept hq, h3.kept hq, h4.kept hq, h5.kept hq, h6.kept hq, h7.kept hq⟩
theorem ST.moved {G : GG} {u U : State} {H : Heap} (hvm : u.vm.Alike U.vm) (h : ST G u H) : ST G U H := by
  obtain ⟨h1, h2, h3, h4, h5, h6, h7⟩ := h
  exact ⟨h1.moved hvm, h2.moved hvm, h3.moved hvm, h4.moved hvm, h5.moved hvm, h6.moved hvm, h7.moved hvm⟩
def Rep (G : GG) (M : MM) (U : State) (H : Heap) : Prop :=
  0 ≤ mN M ∧ H.size = gB G + (mN M).toNat ∧ (∀ a : Int, 0 ≤ a → a < mN M → cOK G H (gB G + a.toNat) (mT M a) (rd M a)) ∧ va_K (gC G, gI G) vwCl (KT G) U ∧ ST G U H
theorem Rep.moved {G : GG} {M : MM} {u U : State} {H : Heap} (hvm : u.vm.Alike U.vm) (h : Rep G M u H) : Rep G M U H := by
  obtain ⟨h1, h2, h3, h4, h5⟩ := h
  exact ⟨h1, h2, h3, h4.moved hvm, h5.moved hvm⟩
/-- words that warmer tables keep -/
def NN (G : GG) (U : State) : Prop :=
  va_Nw (.methodLinkNest "StayPlay" 11 yX4_init "StayPlay") U ∧ va_Nw (.methodLinkNest "StayPlay" 240 yX9_settle "StayPlay") U ∧ va_Nw (.methodLinkNest "StayPlay" 42 yX7_init "StayPlay") U ∧
  va_Nw (.methodLinkNest "StayPlay$Plan" 84 yX9_settle "StayPlay") U ∧ va_Nw (.methodLinkNest "StayPlay$World" 98 yX9_settle "StayPlay") U ∧
  va_AO "StayPlay$House" U ∧ va_AO "StayPlay$Law" U ∧ vk_R "StayPlay$Reader" 64 wordsT (gS G 5) U
theorem NN.warm {G : GG} {s U : State} (hW : s.WarmedH U.vm) (h : NN G s) : NN G U := by
  obtain ⟨h1, h2, h3, h4, h5, h6, h7, h8⟩ := h
  exact ⟨h1.warmM hW, h2.warmM hW, h3.warmM hW, h4.warmM hW, h5.warmM hW, h6.moved hW.alike, h7.moved hW.alike, h8.warm hW⟩
theorem NN.same {G : GG} {u U : State} (hv : U.vm = u.vm) (h : NN G u) : NN G U := by
  obtain ⟨h1, h2, h3, h4, h5, h6, h7, h8⟩ := h
  have hA : u.vm.Alike U.vm := by rw [hv]; exact Vm.Alike.refl _
  exact ⟨h1.same rfl hv.symm, h2.same rfl hv.symm, h3.same rfl hv.symm, h4.same rfl hv.symm, h5.same rfl hv.symm, h6.moved hA, h7.moved hA, h8.same hv⟩
/-! ===== the two judgements ===== -/
/-- a method: its name, code, locals, kind of answer -/
abbrev YY : Type := MethodName × ByteArray × Nat × Option FieldType
def wsO (y : YY) : List Cond := Cond.code y.1 y.2.1 y.2.2.1 y.2.2.2 :: lw_g
def Fx (G : GG) (y : YY) (p : Program) (s : State) (m : MethodId) (args : Array Value) (meth : Method) (c : Code) : Prop :=
  p.tables.exec = Jvm.exec ∧ c.code = y.2.1 ∧ meth.sig.returnType = y.2.2.2 ∧ c.maxLocals = y.2.2.1 ∧ s.vm.findClass y.1.cls = some m.cls ∧ (∀ w ∈ lw_g, w.before args s = true) ∧ meth.locks = false ∧ meth.name = y.1.name ∧ NN G s ∧ gB G ≤ s.heap.size
def rmD (d k n : Nat) : Room := { frames := d, cells := k, slots := n, locals := 64 * d }
def QQ (G : GG) (Q : PV → MM → Prop) : Array Value → State → Outcome → State → Prop := fun _ st o t => (∃ (v : PV) (M : MM), o = .returned (oV G v) ∧ Q v M ∧ Rep G M t t.heap) ∧ va_F (gR G) st t
def X (G : GG) (y : YY) (d k n pc : Nat) (xs st : List PV) (M : MM) (Q : PV → MM → Prop) : Prop :=
  ∀ (p : Program) (l : Launch) (e : Env) (s : State) (m : MethodId) (args : Array Value) (below : List Frame) (meth : Method) (c : Code) (H : Heap) (locs : List Loc) (cells slots mc ms : Nat) (ls : Array Slot),
    Fx G y p s m args meth c → cells + k ≤ mc → slots + n ≤ ms → LV G ls y.2.2.1 xs → Rep G M s H → va_S (gR G) s.heap H locs →
    W p l e (rmD d mc ms) s m args below meth c H locs cells slots (MQ below (QQ G Q) args s mc ms (gR G)) (F0 m pc ls (st.map (tV G)))
/-- the method z, called with the values as: it ends, and Q holds of its answer and the memory then -/
def C (G : GG) (z : YY) (d k n : Nat) (as : List PV) (M : MM) (Q : PV → MM → Prop) : Prop :=
  ∀ l : Launch, Met l z.1 (wsO z) (rmD d k n) (va_Pc (as.map (tV G)) (fun U => Rep G M U U.heap ∧ NN G U)) (QQ G Q) k n (gR G)
/-- an answer's kind -/
def rI (P : Int → MM → Prop) : PV → MM → Prop := fun r M => match r with
  | Sum.inl a => P a M
  | _ => False
def rL (P : Int → MM → Prop) : PV → MM → Prop := fun r M => match r with
  | Sum.inr (Sum.inl a) => P a M
  | _ => False
def rA (P : Int → MM → Prop) : PV → MM → Prop := fun r M => match r with
  | Sum.inr (Sum.inr (Sum.inl a)) => P a M
  | _ => False
def rU (P : MM → Prop) : PV → MM → Prop := fun r M => match r with
  | Sum.inr (Sum.inr (Sum.inr _)) => P M
  | _ => False
def inR (a : Int) : Prop := -2147483648 ≤ a ∧ a < 2147483648
def inL (a : Int) : Prop := -9223372036854775808 ≤ a ∧ a < 9223372036854775808
theorem inR_to {a : Int} (h : inR a) : (Int32.ofInt a).toInt = a := by
  obtain ⟨h1, h2⟩ := h
  rw [Int32.toInt_ofInt, show Int32.size = 4294967296 from rfl]
  exact Int.bmod_eq_of_le (by omega) (by omega)
theorem inL_to {a : Int} (h : inL a) : (Int64.ofInt a).toInt = a := by
  obtain ⟨h1, h2⟩ := h
  rw [Int64.toInt_ofInt, show Int64.size = 18446744073709551616 from rfl]
  exact Int.bmod_eq_of_le (by omega) (by omega)
/-! ===== entry ===== -/
/-- the locals at the start -/
def ent (as : List PV) : List PV := as.flatMap (fun x => if isL x then [x, vU] else [x])
theorem X.entry {G : GG} {y : YY} {d k n : Nat} {as xs : List PV} {M : MM} {Q : PV → MM → Prop} (hp : plainName y.1.cls = true) (hn : (ent as).length ≤ y.2.2.1) (hu : as.all (fun x => !isU x) = true)
    (hx : (ent as) = xs.take (ent as).length) (hx2 : (xs.drop (ent as).length).all isU = true) (h : X G y d k n 0 xs [] M Q) : C G y d k n as M Q := by
  intro l
  refine Met.ofW (cc := y.2.1) (maxL := y.2.2.1) (ret := y.2.2.2) hp rfl ?_
  intro p e s m args below meth c s₁ B hml hv
  obtain ⟨rfl, hR, hN⟩ := hv
  have hlen : ∀ (as : List PV), (lg_sl (as.map (tV G))).length = (ent as).length := by
    intro as
    induction as with
    | nil => rfl
    | cons x as ih =>
      simp only [lg_sl, ent, List.map_cons, List.flatMap_cons, List.length_append] at ih ⊢
      rw [ih, tV_cat]
      cases isL x <;> simp
  have hl := lv_entry (as.map (tV G)) (n := y.2.2.1) (by rw [hlen]; exact hn)
  rw [lg_entry_eq]
  have hmem : ∀ (as : List PV) (i : Nat), as.all (fun x => !isU x) = true → ∀ q ∈ prs G i (ent as), q ∈ lv_args i (as.map (tV G)) := by
    intro as
    induction as with
    | nil => intro i _ q h; simp [ent, prs] at h
    | cons x as ih =>
      intro i ha q h
      simp only [List.all_cons, Bool.and_eq_true, Bool.not_eq_true'] at ha
      simp only [ent, List.flatMap_cons, List.map_cons, lv_args, tV_cat] at h ⊢
      by_cases hL : isL x = true
      · simp only [hL, if_true, List.cons_append, List.nil_append, prs, ha.1, Bool.false_eq_true, if_false] at h ⊢
        simp only [isU, if_true] at h
        rcases List.mem_cons.mp h with rfl | h
        · exact List.mem_cons_self
        · exact List.mem_cons_of_mem _ (ih (i + 2) ha.2 q h)
      · simp only [hL, Bool.false_eq_true, if_false, List.cons_append, List.nil_append, prs, ha.1] at h ⊢
        rcases List.mem_cons.mp h with rfl | h
        · exact List.mem_cons_self
        · exact List.mem_cons_of_mem _ (ih (i + 1) ha.2 q h)
  have happ : ∀ (a b : List PV) (i : Nat), b.all isU = true → ∀ q ∈ prs G i (a ++ b), q ∈ prs G i a := by
    intro a
    induction a with
    | nil =>
      intro b
      induction b with
      | nil => intro i _ q h; exact h
      | cons x b ih =>
        intro i hb q h
        simp only [List.all_cons, Bool.and_eq_true] at hb
        simp only [List.nil_append, prs, hb.1, if_true] at h
        have := ih (i + 1) hb.2 q h
        simp [prs] at this
    | cons x a ih =>
      intro b i hb q h
      simp only [List.cons_append, prs] at h ⊢
      split at h
      · rename_i hu; rw [if_pos hu]; exact ih b (i + 1) hb q h
      · rename_i hu; rw [if_neg hu]
        rcases List.mem_cons.mp h with rfl | h
        · exact List.mem_cons_self
        · exact List.mem_cons_of_mem _ (ih b (i + 1) hb q h)
  have hLV : LV G _ y.2.2.1 xs := LV.sub (G := G) hl (fun q hq => by
    refine hmem as 0 hu q ?_
    rw [← List.take_append_drop (ent as).length xs, ← hx] at hq
    exact happ _ _ 0 hx2 q hq)
  refine h p l e s m _ below meth c s.heap [] 0 0 k n _ ⟨B.exec, B.bytes, B.returns, hml, findClass_of_methodNamed B.named, fun w hw => atoms_spec (ws := wsO y) B.pre w (List.mem_cons_of_mem _ hw), B.notSynchronized, (name_of_methodNamed B.named B.method).1, hN, ?_⟩ (by omega) (by omega) hLV hR va_S.rf
  have := hR.2.1
  omega
end
section
/-! ===== rows without the memory ===== -/
section R1
variable {G : GG} {y : YY} {d k n pc pc2 pc3 : Nat} {xs xs' st st2 : List PV} {M : MM} {Q : PV → MM → Prop}
theorem X.same (h : ∀ {p : Program} {l : Launch} {e : Env} {R : Room} {s : State} {m : MethodId} {args : Array Value} {below : List Frame} {meth : Method} {c : Code} {H : Heap} {locs : List Loc} {cells slots : Nat} {Qm : State → Prop} {ls : Array Slot},
      Fx G y p s m args meth c → LV G ls y.2.2.1 xs → Rep G M s H → va_S (gR G) s.heap H locs → W p l e R s m args below meth c H locs cells slots Qm (F0 m pc2 ls (st2.map (tV G))) → W p l e R s m args below meth c H locs cells slots Qm (F0 m pc ls (st.map (tV G))))
    (kk : X G y d k n pc2 xs st2 M Q) : X G y d k n pc xs st M Q := by
  intro p l e s m args below meth c H locs cells slots mc ms ls hF hk hn hl hR hS
  exact h hF hl hR hS (kk p l e s m args below meth c H locs cells slots mc ms ls hF hk hn hl hR hS)
theorem X.two {cnd : Prop} (h : ∀ {p : Program} {l : Launch} {e : Env} {R : Room} {s : State} {m : MethodId} {args : Array Value} {below : List Frame} {meth : Method} {c : Code} {H : Heap} {locs : List Loc} {cells slots : Nat} {Qm : State → Prop} {ls : Array Slot},
      Fx G y p s m args meth c → (cnd → W p l e R s m args below meth c H locs cells slots Qm (F0 m pc2 ls (st2.map (tV G)))) → (¬ cnd → W p l e R s m args below meth c H locs cells slots Qm (F0 m pc3 ls (st2.map (tV G)))) → W p l e R s m args below meth c H locs cells slots Qm (F0 m pc ls (st.map (tV G))))
    (kk : (cnd → X G y d k n pc2 xs st2 M Q) ∧ (¬ cnd → X G y d k n pc3 xs st2 M Q)) : X G y d k n pc xs st M Q := by
  intro p l e s m args below meth c H locs cells slots mc ms ls hF hk hn hl hR hS
  exact h hF (fun q => kk.1 q p l e s m args below meth c H locs cells slots mc ms ls hF hk hn hl hR hS) (fun q => kk.2 q p l e s m args below meth c H locs cells slots mc ms ls hF hk hn hl hR hS)
theorem X.store {x : PV} {i : Nat} (h : ∀ {p : Program} {l : Launch} {e : Env} {R : Room} {s : State} {m : MethodId} {args : Array Value} {below : List Frame} {meth : Method} {c : Code} {H : Heap} {locs : List Loc} {cells slots : Nat} {Qm : State → Prop} {ls : Array Slot},
      Fx G y p s m args meth c → LV G ls y.2.2.1 xs → (∀ ls' : Array Slot, lv_has ls' y.2.2.1 ((i, tV G x) :: (prs G 0 xs).filter (fun q => !(q.1 == i) && !(q.1 + 1 == i && q.2.category == 2))) → W p l e R s m args below meth c H locs cells slots Qm (F0 m pc2 ls' (st2.map (tV G)))) → W p l e R s m args below meth c H locs cells slots Qm (F0 m pc ls (st.map (tV G))))
    (hx : stx xs i x = xs') (kk : X G y d k n pc2 xs' st2 M Q) : X G y d k n pc xs st M Q := by
  subst hx
  intro p l e s m args below meth c H locs cells slots mc ms ls hF hk hn hl hR hS
  exact h hF hl (fun ls' hl' => kk p l e s m args below meth c H locs cells slots mc ms ls' hF hk hn (LV.st1 hl') hR hS)
theorem X.store2 {x : PV} {i : Nat} (h : ∀ {p : Program} {l : Launch} {e : Env} {R : Room} {s : State} {m : MethodId} {args : Array Value} {below : List Frame} {meth : Method} {c : Code} {H : Heap} {locs : List Loc} {cells slots : Nat} {Qm : State → Prop} {ls : Array Slot},
      Fx G y p s m args meth c → LV G ls y.2.2.1 xs → (∀ ls' : Array Slot, lv_has ls' y.2.2.1 ((i, tV G x) :: (prs G 0 xs).filter (fun q => !(q.1 == i) && (!(q.1 == i + 1) && !(q.1 + 1 == i && q.2.category == 2)))) → W p l e R s m args below meth c H locs cells slots Qm (F0 m pc2 ls' (st2.map (tV G)))) → W p l e R s m args below meth c H locs cells slots Qm (F0 m pc ls (st.map (tV G))))
    (hx : stx (stx xs (i + 1) vU) i x = xs') (kk : X G y d k n pc2 xs' st2 M Q) : X G y d k n pc xs st M Q := by
  subst hx
  intro p l e s m args below meth c H locs cells slots mc ms ls hF hk hn hl hR hS
  exact h hF hl (fun ls' hl' => kk p l e s m args below meth c H locs cells slots mc ms ls' hF hk hn (LV.st2 hl') hR hS)
theorem i8_eq {v : Int} (h1 : -128 ≤ v) (h2 : v < 128) : (Int8.ofInt v).toInt32 = Int32.ofInt v := by
  apply Int32.toInt_inj.mp
  rw [inR_to ⟨by omega, by omega⟩, Int8.toInt_toInt32, Int8.toInt_ofInt, show Int8.size = 256 from rfl]
  exact Int.bmod_eq_of_le (by omega) (by omega)
theorem i16_eq {v : Int} (h1 : -32768 ≤ v) (h2 : v < 32768) : (Int16.ofInt v).toInt32 = Int32.ofInt v := by
  apply Int32.toInt_inj.mp
  rw [inR_to ⟨by omega, by omega⟩, Int16.toInt_toInt32, Int16.toInt_ofInt, show Int16.size = 65536 from rfl]
  exact Int.bmod_eq_of_le (by omega) (by omega)
theorem x_iconst {v : Int} (hd : decode y.2.1 pc = .ok (.iconst v, 1)) (kk : X G y d k n (pc + 1) xs (vI v :: st) M Q) : X G y d k n pc xs st M Q := X.same (fun hF _ _ _ w => lv_iconst hF.1 hF.2.1 hd rfl w) kk
theorem x_bipush {v : Int} (hd : decode y.2.1 pc = .ok (.bipush v, 2)) (h1 : -128 ≤ v) (h2 : v < 128) (kk : X G y d k n (pc + 2) xs (vI v :: st) M Q) : X G y d k n pc xs st M Q := X.same (fun hF _ _ _ w => lv_bipush hF.1 hF.2.1 hd (i8_eq h1 h2) w) kk
theorem x_sipush {v : Int} (hd : decode y.2.1 pc = .ok (.sipush v, 3)) (h1 : -32768 ≤ v) (h2 : v < 32768) (kk : X G y d k n (pc + 3) xs (vI v :: st) M Q) : X G y d k n pc xs st M Q := X.same (fun hF _ _ _ w => lv_sipush hF.1 hF.2.1 hd (i16_eq h1 h2) w) kk
theorem x_lconst {v : Fin 2} {a : Int} (hd : decode y.2.1 pc = .ok (.lconst v, 1)) (ha : Int64.ofNat (v : Nat) = Int64.ofInt a) (kk : X G y d k n (pc + 1) xs (vL a :: st) M Q) : X G y d k n pc xs st M Q := X.same (fun hF _ _ _ w => lv_lconst hF.1 hF.2.1 hd ha w) kk
theorem x_ldc {i : Nat} {v : Int32} {a : Int} (hd : decode y.2.1 pc = .ok (.ldc i, 2)) (hw : Cond.constant y.1.cls i v ∈ lw_g) (ha : v = Int32.ofInt a) (kk : X G y d k n (pc + 2) xs (vI a :: st) M Q) : X G y d k n pc xs st M Q := by
  subst ha
  exact X.same (fun hF _ _ _ w => lv_ldc hF.1 hF.2.1 hF.2.2.2.2.1 (hF.2.2.2.2.2.1 _ hw) hd w) kk
theorem x_ldc2 {i : Nat} {v : Int64} {a : Int} (hd : decode y.2.1 pc = .ok (.ldc2_w i, 3)) (hw : Cond.constantLong y.1.cls i v ∈ lw_g) (ha : v = Int64.ofInt a) (kk : X G y d k n (pc + 3) xs (vL a :: st) M Q) : X G y d k n pc xs st M Q := by
  subst ha
  exact X.same (fun hF _ _ _ w => lv_ldc2 hF.1 hF.2.1 hF.2.2.2.2.1 (hF.2.2.2.2.2.1 _ hw) hd w) kk
theorem x_null (hd : decode y.2.1 pc = .ok (.aconst_null, 1)) (kk : X G y d k n (pc + 1) xs (vA (-1) :: st) M Q) : X G y d k n pc xs st M Q := X.same (fun hF _ _ _ w => lv_null hF.1 hF.2.1 hd w) kk
theorem x_iload_n {i : Fin 4} {a : Int} (hd : decode y.2.1 pc = .ok (.iload_n i, 1)) (hx : xs[(i : Nat)]? = some (vI a)) (kk : X G y d k n (pc + 1) xs (vI a :: st) M Q) : X G y d k n pc xs st M Q := X.same (fun hF hl _ _ w => lv_iload_n hF.1 hF.2.1 hd rfl (hl.at hx rfl) w) kk
theorem x_iload {i : Nat} {a : Int} (hd : decode y.2.1 pc = .ok (.iload i, 2)) (hx : xs[i]? = some (vI a)) (kk : X G y d k n (pc + 2) xs (vI a :: st) M Q) : X G y d k n pc xs st M Q := X.same (fun hF hl _ _ w => lv_iload hF.1 hF.2.1 hd (hl.at hx rfl) w) kk
theorem x_lload_n {i : Fin 4} {a : Int} (hd : decode y.2.1 pc = .ok (.lload_n i, 1)) (hx : xs[(i : Nat)]? = some (vL a)) (kk : X G y d k n (pc + 1) xs (vL a :: st) M Q) : X G y d k n pc xs st M Q := X.same (fun hF hl _ _ w => lv_lload_n hF.1 hF.2.1 hd rfl (hl.at hx rfl) w) kk
theorem x_lload {i : Nat} {a : Int} (hd : decode y.2.1 pc = .ok (.lload i, 2)) (hx : xs[i]? = some (vL a)) (kk : X G y d k n (pc + 2) xs (vL a :: st) M Q) : X G y d k n pc xs st M Q := X.same (fun hF hl _ _ w => lv_lload hF.1 hF.2.1 hd (hl.at hx rfl) w) kk
theorem x_aload_n {i : Fin 4} {a : Int} (hd : decode y.2.1 pc = .ok (.aload_n i, 1)) (hx : xs[(i : Nat)]? = some (vA a)) (kk : X G y d k n (pc + 1) xs (vA a :: st) M Q) : X G y d k n pc xs st M Q := X.same (fun hF hl _ _ w => by
  have h1 := hl.at hx rfl
  simp only [List.map_cons, tV, rfV] at h1 w
  split at h1
  · rename_i h; rw [if_pos h] at w; exact lv_aload_nN hF.1 hF.2.1 hd rfl h1 w
  · rename_i h; rw [if_neg h] at w; exact lv_aload_n hF.1 hF.2.1 hd rfl h1 w) kk
theorem x_aload {i : Nat} {a : Int} (hd : decode y.2.1 pc = .ok (.aload i, 2)) (hx : xs[i]? = some (vA a)) (kk : X G y d k n (pc + 2) xs (vA a :: st) M Q) : X G y d k n pc xs st M Q := X.same (fun hF hl _ _ w => by
  have h1 := hl.at hx rfl
  simp only [List.map_cons, tV, rfV] at h1 w
  split at h1
  · rename_i h; rw [if_pos h] at w; exact lv_aloadN hF.1 hF.2.1 hd h1 w
  · rename_i h; rw [if_neg h] at w; exact lv_aload hF.1 hF.2.1 hd h1 w) kk
theorem x_istore_n {i : Fin 4} {a : Int} (hd : decode y.2.1 pc = .ok (.istore_n i, 1)) (hi : (i : Nat) < y.2.2.1) (hx : stx xs (i : Nat) (vI a) = xs') (kk : X G y d k n (pc + 1) xs' st M Q) : X G y d k n pc xs (vI a :: st) M Q :=
  X.store (fun hF hl w => lv_istore_n hF.1 hF.2.1 hd rfl hl hi rfl w) hx kk
theorem x_istore {i : Nat} {a : Int} (hd : decode y.2.1 pc = .ok (.istore i, 2)) (hi : i < y.2.2.1) (hx : stx xs i (vI a) = xs') (kk : X G y d k n (pc + 2) xs' st M Q) : X G y d k n pc xs (vI a :: st) M Q :=
  X.store (fun hF hl w => lv_istore hF.1 hF.2.1 hd hl hi rfl w) hx kk
theorem x_astore_n {i : Fin 4} {a : Int} (hd : decode y.2.1 pc = .ok (.astore_n i, 1)) (hi : (i : Nat) < y.2.2.1) (hx : stx xs (i : Nat) (vA a) = xs') (kk : X G y d k n (pc + 1) xs' st M Q) : X G y d k n pc xs (vA a :: st) M Q :=
  X.store (fun hF hl w => by
    simp only [List.map_cons, tV, rfV] at w ⊢
    by_cases h : a = -1
    · rw [if_pos h] at w ⊢; exact lv_astore_nN hF.1 hF.2.1 hd rfl hl hi rfl w
    · rw [if_neg h] at w ⊢; exact lv_astore_n hF.1 hF.2.1 hd rfl hl hi rfl w) hx kk
theorem x_astore {i : Nat} {a : Int} (hd : decode y.2.1 pc = .ok (.astore i, 2)) (hi : i < y.2.2.1) (hx : stx xs i (vA a) = xs') (kk : X G y d k n (pc + 2) xs' st M Q) : X G y d k n pc xs (vA a :: st) M Q :=
  X.store (fun hF hl w => by
    simp only [List.map_cons, tV, rfV] at w ⊢
    by_cases h : a = -1
    · rw [if_pos h] at w ⊢; exact lv_astoreN hF.1 hF.2.1 hd hl hi rfl w
    · rw [if_neg h] at w ⊢; exact lv_astore hF.1 hF.2.1 hd hl hi rfl w) hx kk
theorem x_lstore_n {i : Fin 4} {a : Int} (hd : decode y.2.1 pc = .ok (.lstore_n i, 1)) (hi : (i : Nat) + 1 < y.2.2.1) (hx : stx (stx xs ((i : Nat) + 1) vU) (i : Nat) (vL a) = xs') (kk : X G y d k n (pc + 1) xs' st M Q) : X G y d k n pc xs (vL a :: st) M Q :=
  X.store2 (fun hF hl w => lv_lstore_n hF.1 hF.2.1 hd rfl hl hi rfl w) hx kk
theorem x_lstore {i : Nat} {a : Int} (hd : decode y.2.1 pc = .ok (.lstore i, 2)) (hi : i + 1 < y.2.2.1) (hx : stx (stx xs (i + 1) vU) i (vL a) = xs') (kk : X G y d k n (pc + 2) xs' st M Q) : X G y d k n pc xs (vL a :: st) M Q :=
  X.store2 (fun hF hl w => lv_lstore hF.1 hF.2.1 hd hl hi rfl w) hx kk
theorem prs_ix (G : GG) : ∀ (xs : List PV) (i k : Nat) (x : PV), xs[i]? = some x → isU x = false → ∃ q : Nat, (prs G k xs)[q]? = some (k + i, tV G x) := fun xs i k x h hu => List.getElem?_of_mem (prs_mem G xs i k x h hu)
theorem x_iinc {i : Nat} {v a : Int} (hd : decode y.2.1 pc = .ok (.iinc i v, 3)) (ha : xs[i]? = some (vI a)) (hi : i < y.2.2.1) (hx : stx xs i (vI (a + v)) = xs') (kk : X G y d k n (pc + 3) xs' st M Q) : X G y d k n pc xs st M Q := by
  obtain ⟨q, hq⟩ := prs_ix G xs i 0 _ ha rfl
  rw [Nat.zero_add] at hq
  exact X.store (x := vI (a + v)) (i := i) (fun hF hl w => lv_iinc (x := Int32.ofInt a) hF.1 hF.2.1 hd hl hq (Int32.ofInt_add (a := a) (b := v)).symm hi rfl w) hx kk
theorem x_iadd {a b : Int} (hd : decode y.2.1 pc = .ok (.iadd, 1)) (kk : X G y d k n (pc + 1) xs (vI (a + b) :: st) M Q) : X G y d k n pc xs (vI b :: vI a :: st) M Q := X.same (fun hF _ _ _ w => lv_iadd hF.1 hF.2.1 hd (by rw [← Int32.ofInt_add]; exact w)) kk
theorem x_isub {a b : Int} (hd : decode y.2.1 pc = .ok (.isub, 1)) (kk : X G y d k n (pc + 1) xs (vI (a - b) :: st) M Q) : X G y d k n pc xs (vI b :: vI a :: st) M Q := X.same (fun hF _ _ _ w => lv_isub hF.1 hF.2.1 hd (by rw [← Int32.ofInt_sub]; exact w)) kk
theorem x_imul {a b : Int} (hd : decode y.2.1 pc = .ok (.imul, 1)) (kk : X G y d k n (pc + 1) xs (vI (a * b) :: st) M Q) : X G y d k n pc xs (vI b :: vI a :: st) M Q := X.same (fun hF _ _ _ w => lv_imul hF.1 hF.2.1 hd (by rw [← Int32.ofInt_mul]; exact w)) kk
theorem x_ineg {a : Int} (hd : decode y.2.1 pc = .ok (.ineg, 1)) (kk : X G y d k n (pc + 1) xs (vI (-a) :: st) M Q) : X G y d k n pc xs (vI a :: st) M Q := X.same (fun hF _ _ _ w => lv_ineg hF.1 hF.2.1 hd (by rw [← Int32.ofInt_neg]; exact w)) kk
def iAnd (a b : Int) : Int := (Int32.ofInt a &&& Int32.ofInt b).toInt
def iOr (a b : Int) : Int := (Int32.ofInt a ||| Int32.ofInt b).toInt
def iXor (a b : Int) : Int := (Int32.ofInt a ^^^ Int32.ofInt b).toInt
def iShl (a b : Int) : Int := (Int32.ofInt a <<< (Int32.ofInt b &&& 31)).toInt
def iShr (a b : Int) : Int := (Int32.ofInt a >>> (Int32.ofInt b &&& 31)).toInt
def iUshr (a b : Int) : Int := (((Int32.ofInt a).toUInt32 >>> ((Int32.ofInt b).toUInt32 &&& Int32.toUInt32 31)).toInt32).toInt
theorem x_iand {a b : Int} (hd : decode y.2.1 pc = .ok (.iand, 1)) (kk : X G y d k n (pc + 1) xs (vI (iAnd a b) :: st) M Q) : X G y d k n pc xs (vI b :: vI a :: st) M Q := X.same (fun hF _ _ _ w => lv_iand hF.1 hF.2.1 hd (by simp only [List.map_cons, tV, iAnd, Int32.ofInt_toInt] at w; exact w)) kk
theorem x_ior {a b : Int} (hd : decode y.2.1 pc = .ok (.ior, 1)) (kk : X G y d k n (pc + 1) xs (vI (iOr a b) :: st) M Q) : X G y d k n pc xs (vI b :: vI a :: st) M Q := X.same (fun hF _ _ _ w => lv_ior hF.1 hF.2.1 hd (by simp only [List.map_cons, tV, iOr, Int32.ofInt_toInt] at w; exact w)) kk
theorem x_ixor {a b : Int} (hd : decode y.2.1 pc = .ok (.ixor, 1)) (kk : X G y d k n (pc + 1) xs (vI (iXor a b) :: st) M Q) : X G y d k n pc xs (vI b :: vI a :: st) M Q := X.same (fun hF _ _ _ w => lv_ixor hF.1 hF.2.1 hd (by simp only [List.map_cons, tV, iXor, Int32.ofInt_toInt] at w; exact w)) kk
theorem x_ishl {a b : Int} (hd : decode y.2.1 pc = .ok (.ishl, 1)) (kk : X G y d k n (pc + 1) xs (vI (iShl a b) :: st) M Q) : X G y d k n pc xs (vI b :: vI a :: st) M Q := X.same (fun hF _ _ _ w => lv_ishl hF.1 hF.2.1 hd (by simp only [List.map_cons, tV, iShl, Int32.ofInt_toInt] at w; exact w)) kk
theorem x_ishr {a b : Int} (hd : decode y.2.1 pc = .ok (.ishr, 1)) (kk : X G y d k n (pc + 1) xs (vI (iShr a b) :: st) M Q) : X G y d k n pc xs (vI b :: vI a :: st) M Q := X.same (fun hF _ _ _ w => lv_ishr hF.1 hF.2.1 hd (by simp only [List.map_cons, tV, iShr, Int32.ofInt_toInt] at w; exact w)) kk
theorem x_iushr {a b : Int} (hd : decode y.2.1 pc = .ok (.iushr, 1)) (kk : X G y d k n (pc + 1) xs (vI (iUshr a b) :: st) M Q) : X G y d k n pc xs (vI b :: vI a :: st) M Q := X.same (fun hF _ _ _ w => lv_iushr (v := Int32.ofInt (iUshr a b)) hF.1 hF.2.1 hd (by rw [iUshr, Int32.ofInt_toInt]) w) kk
theorem ne0_32 {b : Int} (hb : inR b) (h : b ≠ 0) : ¬ Int32.ofInt b = 0 := fun q => h (by rw [← inR_to hb, q]; rfl)
theorem ne0_64 {b : Int} (hb : inL b) (h : b ≠ 0) : ¬ Int64.ofInt b = 0 := fun q => h (by rw [← inL_to hb, q]; rfl)
theorem div_32 {a b : Int} (ha : inR a) (hb : inR b) : Int32.ofInt a / Int32.ofInt b = Int32.ofInt (a.tdiv b) := by
  apply Int32.toInt_inj.mp
  rw [Int32.toInt_div, inR_to ha, inR_to hb, Int32.toInt_ofInt]
theorem div_64 {a b : Int} (ha : inL a) (hb : inL b) : Int64.ofInt a / Int64.ofInt b = Int64.ofInt (a.tdiv b) := by
  apply Int64.toInt_inj.mp
  rw [Int64.toInt_div, inL_to ha, inL_to hb, Int64.toInt_ofInt]
theorem tmod_def' (a b : Int) : a.tmod b = a - a.tdiv b * b := by rw [Int.tmod_def, Int.mul_comm]
theorem x_idiv {a b : Int} (hd : decode y.2.1 pc = .ok (.idiv, 1)) (ha : inR a) (hb : inR b) (h0 : b ≠ 0) (kk : X G y d k n (pc + 1) xs (vI (a.tdiv b) :: st) M Q) : X G y d k n pc xs (vI b :: vI a :: st) M Q :=
  X.same (fun hF _ _ _ w => lv_idiv hF.1 hF.2.1 hd (ne0_32 hb h0) (by rw [div_32 ha hb]; exact w)) kk
theorem x_irem {a b : Int} (hd : decode y.2.1 pc = .ok (.irem, 1)) (ha : inR a) (hb : inR b) (h0 : b ≠ 0) (kk : X G y d k n (pc + 1) xs (vI (a.tmod b) :: st) M Q) : X G y d k n pc xs (vI b :: vI a :: st) M Q :=
  X.same (fun hF _ _ _ w => lv_irem hF.1 hF.2.1 hd (ne0_32 hb h0) (by rw [div_32 ha hb, ← Int32.ofInt_mul, ← Int32.ofInt_sub, ← tmod_def']; exact w)) kk
theorem x_ladd {a b : Int} (hd : decode y.2.1 pc = .ok (.ladd, 1)) (kk : X G y d k n (pc + 1) xs (vL (a + b) :: st) M Q) : X G y d k n pc xs (vL b :: vL a :: st) M Q := X.same (fun hF _ _ _ w => lv_ladd hF.1 hF.2.1 hd (by rw [← Int64.ofInt_add]; exact w)) kk
theorem x_lsub {a b : Int} (hd : decode y.2.1 pc = .ok (.lsub, 1)) (kk : X G y d k n (pc + 1) xs (vL (a - b) :: st) M Q) : X G y d k n pc xs (vL b :: vL a :: st) M Q := X.same (fun hF _ _ _ w => lv_lsub hF.1 hF.2.1 hd (by rw [← Int64.ofInt_sub]; exact w)) kk
theorem x_lmul {a b : Int} (hd : decode y.2.1 pc = .ok (.lmul, 1)) (kk : X G y d k n (pc + 1) xs (vL (a * b) :: st) M Q) : X G y d k n pc xs (vL b :: vL a :: st) M Q := X.same (fun hF _ _ _ w => lv_lmul hF.1 hF.2.1 hd (by rw [← Int64.ofInt_mul]; exact w)) kk
theorem x_ldiv {a b : Int} (hd : decode y.2.1 pc = .ok (.ldiv, 1)) (ha : inL a) (hb : inL b) (h0 : b ≠ 0) (kk : X G y d k n (pc + 1) xs (vL (a.tdiv b) :: st) M Q) : X G y d k n pc xs (vL b :: vL a :: st) M Q :=
  X.same (fun hF _ _ _ w => lv_ldiv hF.1 hF.2.1 hd (ne0_64 hb h0) (by rw [div_64 ha hb]; exact w)) kk
theorem x_lrem {a b : Int} (hd : decode y.2.1 pc = .ok (.lrem, 1)) (ha : inL a) (hb : inL b) (h0 : b ≠ 0) (kk : X G y d k n (pc + 1) xs (vL (a.tmod b) :: st) M Q) : X G y d k n pc xs (vL b :: vL a :: st) M Q :=
  X.same (fun hF _ _ _ w => lv_lrem hF.1 hF.2.1 hd (ne0_64 hb h0) (by rw [div_64 ha hb, ← Int64.ofInt_mul, ← Int64.ofInt_sub, ← tmod_def']; exact w)) kk
theorem x_i2l {a : Int} (hd : decode y.2.1 pc = .ok (.i2l, 1)) (ha : inR a) (kk : X G y d k n (pc + 1) xs (vL a :: st) M Q) : X G y d k n pc xs (vI a :: st) M Q :=
  X.same (fun hF _ _ _ w => lv_i2l hF.1 hF.2.1 hd (by
    apply Int64.toInt_inj.mp
    rw [Int32.toInt_toInt64, inR_to ha, inL_to ⟨by have := ha.1; omega, by have := ha.2; omega⟩]) w) kk
theorem x_l2i {a : Int} (hd : decode y.2.1 pc = .ok (.l2i, 1)) (kk : X G y d k n (pc + 1) xs (vI a :: st) M Q) : X G y d k n pc xs (vL a :: st) M Q :=
  X.same (fun hF _ _ _ w => lv_l2i hF.1 hF.2.1 hd (by
    apply Int32.toInt_inj.mp
    rw [Int64.toInt_toInt32, Int64.toInt_ofInt, Int32.toInt_ofInt, show Int64.size = 18446744073709551616 from rfl, show Int32.size = 4294967296 from rfl]
    exact Int.bmod_bmod_of_dvd (by decide)) w) kk
theorem cat1_I (G : GG) (a : Int) : (tV G (vI a)).category = 1 := rfl
theorem x_dup {x : PV} (hd : decode y.2.1 pc = .ok (.dup, 1)) (hL : isL x = false) (kk : X G y d k n (pc + 1) xs (x :: x :: st) M Q) : X G y d k n pc xs (x :: st) M Q := X.same (fun hF _ _ _ w => lv_dup hF.1 hF.2.1 hd (by rw [tV_cat, hL]; rfl) w) kk
theorem x_pop {x : PV} (hd : decode y.2.1 pc = .ok (.pop, 1)) (hL : isL x = false) (kk : X G y d k n (pc + 1) xs st M Q) : X G y d k n pc xs (x :: st) M Q := X.same (fun hF _ _ _ w => lv_pop hF.1 hF.2.1 hd (by rw [tV_cat, hL]; rfl) w) kk
theorem x_dup2 {x z : PV} (hd : decode y.2.1 pc = .ok (.dup2, 1)) (hL : isL x = false) (hZ : isL z = false) (kk : X G y d k n (pc + 1) xs (x :: z :: x :: z :: st) M Q) : X G y d k n pc xs (x :: z :: st) M Q := X.same (fun hF _ _ _ w => lv_dup2_11 hF.1 hF.2.1 hd (by rw [tV_cat, hL]; rfl) (by rw [tV_cat, hZ]; rfl) w) kk
theorem x_goto {off : Int} {tgt : Nat} (hd : decode y.2.1 pc = .ok (.goto off, 3)) (ht : (pc : Int) + off = (tgt : Int)) (kk : X G y d k n tgt xs st M Q) : X G y d k n pc xs st M Q := X.same (fun hF _ _ _ w => lv_goto hF.1 hF.2.1 hd ht w) kk
theorem lt_32 {a b : Int} (ha : inR a) (hb : inR b) : Int32.ofInt a < Int32.ofInt b ↔ a < b := by rw [Int32.lt_iff_toInt_lt, inR_to ha, inR_to hb]
theorem le_32 {a b : Int} (ha : inR a) (hb : inR b) : Int32.ofInt a ≤ Int32.ofInt b ↔ a ≤ b := by rw [Int32.le_iff_toInt_le, inR_to ha, inR_to hb]
theorem eq_32 {a b : Int} (ha : inR a) (hb : inR b) : Int32.ofInt a = Int32.ofInt b ↔ a = b := ⟨fun h => by rw [← inR_to ha, h, inR_to hb], fun h => by rw [h]⟩
theorem inR_0 : inR 0 := ⟨by decide, by decide⟩
theorem x_icmp_eq {a b : Int} {off : Int} {tgt : Nat} (hd : decode y.2.1 pc = .ok (.if_icmp .eq off, 3)) (ht : (pc : Int) + off = (tgt : Int)) (ha : inR a) (hb : inR b) (kk : (a = b → X G y d k n tgt xs st M Q) ∧ (¬ (a = b) → X G y d k n (pc + 3) xs st M Q)) : X G y d k n pc xs (vI b :: vI a :: st) M Q := X.two (fun hF w1 w2 => lv_icmp_eq hF.1 hF.2.1 hd ht (fun q => w1 ((eq_32 ha hb).mp q)) (fun q => w2 (fun z => q ((eq_32 ha hb).mpr z)))) kk
theorem x_if_eq {a : Int} {off : Int} {tgt : Nat} (hd : decode y.2.1 pc = .ok (.ifCond .eq off, 3)) (ht : (pc : Int) + off = (tgt : Int)) (ha : inR a) (kk : (a = 0 → X G y d k n tgt xs st M Q) ∧ (¬ (a = 0) → X G y d k n (pc + 3) xs st M Q)) : X G y d k n pc xs (vI a :: st) M Q := X.two (fun hF w1 w2 => lv_if_eq hF.1 hF.2.1 hd ht (fun q => w1 ((eq_32 ha inR_0).mp q)) (fun q => w2 (fun z => q ((eq_32 ha inR_0).mpr z)))) kk
theorem x_icmp_ne {a b : Int} {off : Int} {tgt : Nat} (hd : decode y.2.1 pc = .ok (.if_icmp .ne off, 3)) (ht : (pc : Int) + off = (tgt : Int)) (ha : inR a) (hb : inR b) (kk : (a ≠ b → X G y d k n tgt xs st M Q) ∧ (¬ (a ≠ b) → X G y d k n (pc + 3) xs st M Q)) : X G y d k n pc xs (vI b :: vI a :: st) M Q := X.two (fun hF w1 w2 => lv_icmp_ne hF.1 hF.2.1 hd ht (fun q => w1 (fun z => q ((eq_32 ha hb).mpr z))) (fun q => w2 (fun z => z ((eq_32 ha hb).mp q)))) kk
theorem x_if_ne {a : Int} {off : Int} {tgt : Nat} (hd : decode y.2.1 pc = .ok (.ifCond .ne off, 3)) (ht : (pc : Int) + off = (tgt : Int)) (ha : inR a) (kk : (a ≠ 0 → X G y d k n tgt xs st M Q) ∧ (¬ (a ≠ 0) → X G y d k n (pc + 3) xs st M Q)) : X G y d k n pc xs (vI a :: st) M Q := X.two (fun hF w1 w2 => lv_if_ne hF.1 hF.2.1 hd ht (fun q => w1 (fun z => q ((eq_32 ha inR_0).mpr z))) (fun q => w2 (fun z => z ((eq_32 ha inR_0).mp q)))) kk
theorem x_icmp_lt {a b : Int} {off : Int} {tgt : Nat} (hd : decode y.2.1 pc = .ok (.if_icmp .lt off, 3)) (ht : (pc : Int) + off = (tgt : Int)) (ha : inR a) (hb : inR b) (kk : (a < b → X G y d k n tgt xs st M Q) ∧ (¬ (a < b) → X G y d k n (pc + 3) xs st M Q)) : X G y d k n pc xs (vI b :: vI a :: st) M Q := X.two (fun hF w1 w2 => lv_icmp_lt hF.1 hF.2.1 hd ht (fun q => w1 ((lt_32 ha hb).mp q)) (fun q => w2 (fun z => q ((lt_32 ha hb).mpr z)))) kk
theorem x_if_lt {a : Int} {off : Int} {tgt : Nat} (hd : decode y.2.1 pc = .ok (.ifCond .lt off, 3)) (ht : (pc : Int) + off = (tgt : Int)) (ha : inR a) (kk : (a < 0 → X G y d k n tgt xs st M Q) ∧ (¬ (a < 0) → X G y d k n (pc + 3) xs st M Q)) : X G y d k n pc xs (vI a :: st) M Q := X.two (fun hF w1 w2 => lv_if_lt hF.1 hF.2.1 hd ht (fun q => w1 ((lt_32 ha inR_0).mp q)) (fun q => w2 (fun z => q ((lt_32 ha inR_0).mpr z)))) kk
theorem x_icmp_ge {a b : Int} {off : Int} {tgt : Nat} (hd : decode y.2.1 pc = .ok (.if_icmp .ge off, 3)) (ht : (pc : Int) + off = (tgt : Int)) (ha : inR a) (hb : inR b) (kk : (b ≤ a → X G y d k n tgt xs st M Q) ∧ (¬ (b ≤ a) → X G y d k n (pc + 3) xs st M Q)) : X G y d k n pc xs (vI b :: vI a :: st) M Q := X.two (fun hF w1 w2 => lv_icmp_ge hF.1 hF.2.1 hd ht (fun q => w1 ((le_32 hb ha).mp q)) (fun q => w2 (fun z => q ((le_32 hb ha).mpr z)))) kk
theorem x_if_ge {a : Int} {off : Int} {tgt : Nat} (hd : decode y.2.1 pc = .ok (.ifCond .ge off, 3)) (ht : (pc : Int) + off = (tgt : Int)) (ha : inR a) (kk : (0 ≤ a → X G y d k n tgt xs st M Q) ∧ (¬ (0 ≤ a) → X G y d k n (pc + 3) xs st M Q)) : X G y d k n pc xs (vI a :: st) M Q := X.two (fun hF w1 w2 => lv_if_ge hF.1 hF.2.1 hd ht (fun q => w1 ((le_32 inR_0 ha).mp q)) (fun q => w2 (fun z => q ((le_32 inR_0 ha).mpr z)))) kk
theorem x_icmp_gt {a b : Int} {off : Int} {tgt : Nat} (hd : decode y.2.1 pc = .ok (.if_icmp .gt off, 3)) (ht : (pc : Int) + off = (tgt : Int)) (ha : inR a) (hb : inR b) (kk : (b < a → X G y d k n tgt xs st M Q) ∧ (¬ (b < a) → X G y d k n (pc + 3) xs st M Q)) : X G y d k n pc xs (vI b :: vI a :: st) M Q := X.two (fun hF w1 w2 => lv_icmp_gt hF.1 hF.2.1 hd ht (fun q => w1 ((lt_32 hb ha).mp q)) (fun q => w2 (fun z => q ((lt_32 hb ha).mpr z)))) kk
theorem x_if_gt {a : Int} {off : Int} {tgt : Nat} (hd : decode y.2.1 pc = .ok (.ifCond .gt off, 3)) (ht : (pc : Int) + off = (tgt : Int)) (ha : inR a) (kk : (0 < a → X G y d k n tgt xs st M Q) ∧ (¬ (0 < a) → X G y d k n (pc + 3) xs st M Q)) : X G y d k n pc xs (vI a :: st) M Q := X.two (fun hF w1 w2 => lv_if_gt hF.1 hF.2.1 hd ht (fun q => w1 ((lt_32 inR_0 ha).mp q)) (fun q => w2 (fun z => q ((lt_32 inR_0 ha).mpr z)))) kk
theorem x_icmp_le {a b : Int} {off : Int} {tgt : Nat} (hd : decode y.2.1 pc = .ok (.if_icmp .le off, 3)) (ht : (pc : Int) + off = (tgt : Int)) (ha : inR a) (hb : inR b) (kk : (a ≤ b → X G y d k n tgt xs st M Q) ∧ (¬ (a ≤ b) → X G y d k n (pc + 3) xs st M Q)) : X G y d k n pc xs (vI b :: vI a :: st) M Q := X.two (fun hF w1 w2 => lv_icmp_le hF.1 hF.2.1 hd ht (fun q => w1 ((le_32 ha hb).mp q)) (fun q => w2 (fun z => q ((le_32 ha hb).mpr z)))) kk
theorem x_if_le {a : Int} {off : Int} {tgt : Nat} (hd : decode y.2.1 pc = .ok (.ifCond .le off, 3)) (ht : (pc : Int) + off = (tgt : Int)) (ha : inR a) (kk : (a ≤ 0 → X G y d k n tgt xs st M Q) ∧ (¬ (a ≤ 0) → X G y d k n (pc + 3) xs st M Q)) : X G y d k n pc xs (vI a :: st) M Q := X.two (fun hF w1 w2 => lv_if_le hF.1 hF.2.1 hd ht (fun q => w1 ((le_32 ha inR_0).mp q)) (fun q => w2 (fun z => q ((le_32 ha inR_0).mpr z)))) kk
theorem lcmp_eq {a b : Int} (ha : inL a) (hb : inL b) : lg_cmp (Int64.ofInt a) (Int64.ofInt b) = Int32.ofInt (if a < b then -1 else if a = b then 0 else 1) := by
  have h1 : Int64.ofInt a < Int64.ofInt b ↔ a < b := by rw [Int64.lt_iff_toInt_lt, inL_to ha, inL_to hb]
  have h2 : Int64.ofInt b < Int64.ofInt a ↔ b < a := by rw [Int64.lt_iff_toInt_lt, inL_to ha, inL_to hb]
  have h3 : Int64.ofInt a = Int64.ofInt b ↔ a = b := ⟨fun h => by rw [← inL_to ha, h, inL_to hb], fun h => by rw [h]⟩
  unfold lg_cmp
  rcases Int.lt_trichotomy a b with h | h | h
  · have n1 : ¬ b < a := by omega
    have n2 : ¬ a = b := by omega
    simp [h1, h2, h3, h, n1, n2]; try rfl
  · subst h; simp
  · have n1 : ¬ a < b := by omega
    have n2 : ¬ a = b := by omega
    simp [h1, h2, h3, h, n1, n2]; try rfl
theorem x_lcmp {a b : Int} (hd : decode y.2.1 pc = .ok (.lcmp, 1)) (ha : inL a) (hb : inL b) (kk : X G y d k n (pc + 1) xs (vI (if a < b then -1 else if a = b then 0 else 1) :: st) M Q) : X G y d k n pc xs (vL b :: vL a :: st) M Q :=
  X.same (fun hF _ _ _ w => W.lcmp hF.1 hF.2.1 hd (by rw [lcmp_eq ha hb]; exact w)) kk
theorem x_lcmp_eq {a b : Int} {off : Int} {tgt : Nat} (hd : decode y.2.1 pc = .ok (.lcmp, 1)) (hd2 : decode y.2.1 (pc + 1) = .ok (.ifCond .eq off, 3)) (ht : ((pc + 1 : Nat) : Int) + off = (tgt : Int)) (ha : inL a) (hb : inL b) (kk : (a = b → X G y d k n tgt xs st M Q) ∧ (¬ (a = b) → X G y d k n (pc + 4) xs st M Q)) : X G y d k n pc xs (vL b :: vL a :: st) M Q := by
  refine x_lcmp hd ha hb (x_if_eq hd2 ht (by split <;> (try split) <;> (constructor <;> decide)) ⟨fun h => kk.1 ?_, fun h => kk.2 ?_⟩)
  · split at h <;> (try split at h) <;> omega
  · split at h <;> (try split at h) <;> omega
theorem x_lcmp_ne {a b : Int} {off : Int} {tgt : Nat} (hd : decode y.2.1 pc = .ok (.lcmp, 1)) (hd2 : decode y.2.1 (pc + 1) = .ok (.ifCond .ne off, 3)) (ht : ((pc + 1 : Nat) : Int) + off = (tgt : Int)) (ha : inL a) (hb : inL b) (kk : (a ≠ b → X G y d k n tgt xs st M Q) ∧ (¬ (a ≠ b) → X G y d k n (pc + 4) xs st M Q)) : X G y d k n pc xs (vL b :: vL a :: st) M Q := by
  refine x_lcmp hd ha hb (x_if_ne hd2 ht (by split <;> (try split) <;> (constructor <;> decide)) ⟨fun h => kk.1 ?_, fun h => kk.2 ?_⟩)
  · split at h <;> (try split at h) <;> omega
  · split at h <;> (try split at h) <;> omega
theorem x_lcmp_lt {a b : Int} {off : Int} {tgt : Nat} (hd : decode y.2.1 pc = .ok (.lcmp, 1)) (hd2 : decode y.2.1 (pc + 1) = .ok (.ifCond .lt off, 3)) (ht : ((pc + 1 : Nat) : Int) + off = (tgt : Int)) (ha : inL a) (hb : inL b) (kk : (a < b → X G y d k n tgt xs st M Q) ∧ (¬ (a < b) → X G y d k n (pc + 4) xs st M Q)) : X G y d k n pc xs (vL b :: vL a :: st) M Q := by
  refine x_lcmp hd ha hb (x_if_lt hd2 ht (by split <;> (try split) <;> (constructor <;> decide)) ⟨fun h => kk.1 ?_, fun h => kk.2 ?_⟩)
  · split at h <;> (try split at h) <;> omega
  · split at h <;> (try split at h) <;> omega
theorem x_lcmp_ge {a b : Int} {off : Int} {tgt : Nat} (hd : decode y.2.1 pc = .ok (.lcmp, 1)) (hd2 : decode y.2.1 (pc + 1) = .ok (.ifCond .ge off, 3)) (ht : ((pc + 1 : Nat) : Int) + off = (tgt : Int)) (ha : inL a) (hb : inL b) (kk : (b ≤ a → X G y d k n tgt xs st M Q) ∧ (¬ (b ≤ a) → X G y d k n (pc + 4) xs st M Q)) : X G y d k n pc xs (vL b :: vL a :: st) M Q := by
  refine x_lcmp hd ha hb (x_if_ge hd2 ht (by split <;> (try split) <;> (constructor <;> decide)) ⟨fun h => kk.1 ?_, fun h => kk.2 ?_⟩)
  · split at h <;> (try split at h) <;> omega
  · split at h <;> (try split at h) <;> omega
theorem x_lcmp_gt {a b : Int} {off : Int} {tgt : Nat} (hd : decode y.2.1 pc = .ok (.lcmp, 1)) (hd2 : decode y.2.1 (pc + 1) = .ok (.ifCond .gt off, 3)) (ht : ((pc + 1 : Nat) : Int) + off = (tgt : Int)) (ha : inL a) (hb : inL b) (kk : (b < a → X G y d k n tgt xs st M Q) ∧ (¬ (b < a) → X G y d k n (pc + 4) xs st M Q)) : X G y d k n pc xs (vL b :: vL a :: st) M Q := by
  refine x_lcmp hd ha hb (x_if_gt hd2 ht (by split <;> (try split) <;> (constructor <;> decide)) ⟨fun h => kk.1 ?_, fun h => kk.2 ?_⟩)
  · split at h <;> (try split at h) <;> omega
  · split at h <;> (try split at h) <;> omega
theorem x_lcmp_le {a b : Int} {off : Int} {tgt : Nat} (hd : decode y.2.1 pc = .ok (.lcmp, 1)) (hd2 : decode y.2.1 (pc + 1) = .ok (.ifCond .le off, 3)) (ht : ((pc + 1 : Nat) : Int) + off = (tgt : Int)) (ha : inL a) (hb : inL b) (kk : (a ≤ b → X G y d k n tgt xs st M Q) ∧ (¬ (a ≤ b) → X G y d k n (pc + 4) xs st M Q)) : X G y d k n pc xs (vL b :: vL a :: st) M Q := by
  refine x_lcmp hd ha hb (x_if_le hd2 ht (by split <;> (try split) <;> (constructor <;> decide)) ⟨fun h => kk.1 ?_, fun h => kk.2 ?_⟩)
  · split at h <;> (try split at h) <;> omega
  · split at h <;> (try split at h) <;> omega
theorem x_ifnull {a : Int} {off : Int} {tgt : Nat} (hd : decode y.2.1 pc = .ok (.ifnull off, 3)) (ht : (pc : Int) + off = (tgt : Int)) (kk : (a = -1 → X G y d k n tgt xs st M Q) ∧ (¬ a = -1 → X G y d k n (pc + 3) xs st M Q)) : X G y d k n pc xs (vA a :: st) M Q := X.two (fun hF w1 w2 => by
  simp only [List.map_cons, tV, rfV]
  by_cases h : a = -1
  · rw [if_pos h]; exact lv_ifnullN hF.1 hF.2.1 hd ht (w1 h)
  · rw [if_neg h]; exact lv_ifnull hF.1 hF.2.1 hd (w2 h)) kk
theorem x_ifnonnull {a : Int} {off : Int} {tgt : Nat} (hd : decode y.2.1 pc = .ok (.ifnonnull off, 3)) (ht : (pc : Int) + off = (tgt : Int)) (kk : (¬ a = -1 → X G y d k n tgt xs st M Q) ∧ (¬ ¬ a = -1 → X G y d k n (pc + 3) xs st M Q)) : X G y d k n pc xs (vA a :: st) M Q := X.two (fun hF w1 w2 => by
  simp only [List.map_cons, tV, rfV]
  by_cases h : a = -1
  · rw [if_pos h]; exact lv_ifnonnullN hF.1 hF.2.1 hd (w2 (fun q => q h))
  · rw [if_neg h]; exact lv_ifnonnull hF.1 hF.2.1 hd ht (w1 h)) kk
theorem x_tblO {dflt lo hi : Int} {offs : Array Int} {len : Nat} {a : Int} {tgt : Nat} (hd : decode y.2.1 pc = .ok (.tableswitch dflt lo hi offs, len)) (ht : (pc : Int) + dflt = (tgt : Int)) (ha : inR a) (h : a < lo ∨ hi < a) (kk : X G y d k n tgt xs st M Q) : X G y d k n pc xs (vI a :: st) M Q := X.same (fun hF _ _ _ w => lv_tableOut hF.1 hF.2.1 hd (by rw [inR_to ha]; exact h) ht w) kk
theorem x_tblI {dflt lo hi : Int} {offs : Array Int} {len : Nat} {a off : Int} {tgt : Nat} (hd : decode y.2.1 pc = .ok (.tableswitch dflt lo hi offs, len)) (ha : inR a) (h1 : lo ≤ a) (h2 : a ≤ hi) (ho : offs[(a - lo).toNat]? = some off) (ht : (pc : Int) + off = (tgt : Int)) (kk : X G y d k n tgt xs st M Q) : X G y d k n pc xs (vI a :: st) M Q := X.same (fun hF _ _ _ w => lv_tableIn hF.1 hF.2.1 hd (by rw [inR_to ha]; omega) (by rw [inR_to ha]; omega) (by rw [inR_to ha]; exact ho) ht w) kk
theorem X.ret {v : PV} (h : Q v M) (hw : ∀ {p : Program} {l : Launch} {e : Env} {R : Room} {s : State} {m : MethodId} {args : Array Value} {below : List Frame} {meth : Method} {c : Code} {H : Heap} {locs : List Loc} {cells slots : Nat} {ls : Array Slot},
      Fx G y p s m args meth c → (∀ t : State, t.heap = H → s.WarmedH t.vm → QQ G Q args s (.returned (oV G v)) t) → (∀ q ∈ locs, gR G q.base) → W p l e R s m args below meth c H locs cells slots (MQ below (QQ G Q) args s cells slots (gR G)) (F0 m pc ls (st.map (tV G)))) : X G y d k n pc xs st M Q := by
  intro p l e s m args below meth c H locs cells slots mc ms ls hF hk hn hl hR hS
  refine W.widen (k := mc) (n := ms) (by omega) (by omega) (hw hF (fun t ht hW => ⟨⟨v, M, rfl, h, ?_⟩, hS.F ht⟩) hS.2.2)
  rw [ht]
  exact hR.moved hW.alike
theorem x_ireturn {a : Int} (hd : decode y.2.1 pc = .ok (.ireturn, 1)) (hr : y.2.2.2 = some .int) (h : Q (vI a) M) : X G y d k n pc xs [vI a] M Q := X.ret h (fun hF hq hf => W.iret hF.1 hF.2.1 (by rw [hF.2.2.1, hr]) hq hf hd hF.2.2.2.2.2.2.1)
theorem z_nar {a : Int} (h : a = 0 ∨ a = 1) : narrow .boolean (.int (Int32.ofInt a)) = .int (Int32.ofInt a) := by rcases h with rfl | rfl <;> rfl
theorem x_zreturn {a : Int} (hd : decode y.2.1 pc = .ok (.ireturn, 1)) (hr : y.2.2.2 = some .boolean) (h01 : a = 0 ∨ a = 1) (h : Q (vI a) M) : X G y d k n pc xs [vI a] M Q := X.ret h (fun hF hq hf => W.zret hF.1 hF.2.1 (by rw [hF.2.2.1, hr]) (z_nar h01) hq hf hd hF.2.2.2.2.2.2.1)
theorem x_lreturn {a : Int} (hd : decode y.2.1 pc = .ok (.lreturn, 1)) (hr : y.2.2.2 = some .long) (h : Q (vL a) M) : X G y d k n pc xs [vL a] M Q := X.ret h (fun hF hq hf => W.lret hF.1 hF.2.1 (by rw [hF.2.2.1, hr]) hq hf hd hF.2.2.2.2.2.2.1)
theorem x_return (hd : decode y.2.1 pc = .ok (.return_, 1)) (hr : y.2.2.2 = none) (h : Q vU M) : X G y d k n pc xs [] M Q := X.ret h (fun hF hq hf => W.vret hF.1 hF.2.1 (by rw [hF.2.2.1, hr]) hq hf hd hF.2.2.2.2.2.2.1)
theorem x_areturn {a : Int} {rt : FieldType} (hd : decode y.2.1 pc = .ok (.areturn, 1)) (hr : y.2.2.2 = some rt) (hrt : (∃ n, rt = .object n) ∨ ∃ t, rt = .array t) (h : Q (vA a) M) : X G y d k n pc xs [vA a] M Q := X.ret h (fun hF hq hf => W.aret (v := rfV G a) hF.1 hF.2.1 (by rw [hF.2.2.1, hr]) hrt (by
  unfold rfV
  split
  · exact Or.inl rfl
  · exact Or.inr ⟨_, rfl⟩) hq hf hd hF.2.2.2.2.2.2.1)
end R1
end
section
/-! ===== rows with the memory ===== -/
def okO (M : MM) (r : Int) (kd : Nat) : Prop := 0 ≤ r ∧ r < mN M ∧ (mT M r).1 = kd
def okA (M : MM) (r : Int) (kd : Nat) (i : Int) : Prop := 0 ≤ r ∧ r < mN M ∧ (mT M r).1 = kd ∧ 0 ≤ i ∧ i < (mT M r).2
theorem rd_wr (M : MM) (a i v b j : Int) : rd (wr M a i v) b j = if b = a ∧ j = i then v else rd M b j := rfl
theorem mT_wr (M : MM) (a i v b : Int) : mT (wr M a i v) b = mT M b := rfl
theorem mN_wr (M : MM) (a i v : Int) : mN (wr M a i v) = mN M := rfl
theorem rd_al (M : MM) (kd : Nat) (n : Int) (f : Int → Int) (b j : Int) : rd (al M kd n f) b j = if b = mN M then f j else rd M b j := rfl
theorem mT_al (M : MM) (kd : Nat) (n : Int) (f : Int → Int) (b : Int) : mT (al M kd n f) b = if b = mN M then (kd, n) else mT M b := rfl
theorem mN_al (M : MM) (kd : Nat) (n : Int) (f : Int → Int) : mN (al M kd n f) = mN M + 1 := rfl
theorem rd_cp (M : MM) (a i b j n c q : Int) : rd (cpM M a i b j n) c q = if c = b ∧ j ≤ q ∧ q < j + n then rd M a (i + (q - j)) else rd M c q := rfl
theorem mT_cp (M : MM) (a i b j n c : Int) : mT (cpM M a i b j n) c = mT M c := rfl
theorem mN_cp (M : MM) (a i b j n : Int) : mN (cpM M a i b j n) = mN M := rfl
theorem rfV_pos {G : GG} {r : Int} (h : 0 ≤ r) : rfV G r = .ref (gB G + r.toNat) := by
  unfold rfV gad
  rw [if_neg (by omega), if_neg (by omega)]
theorem Rep.keep {G : GG} {M M' : MM} {s : State} {H H1 : Heap} {r : Int} (hR : Rep G M s H) (h0 : 0 ≤ r) (hN : mN M' = mN M) (hT : ∀ b, mT M' b = mT M b) (hr : ∀ b : Int, b ≠ r → ∀ j, rd M' b j = rd M b j) (z : H1.size = H.size) (oq : ∀ q : Nat, q ≠ gB G + r.toNat → H1[q]? = H[q]?)
    (he : r < mN M → cOK G H1 (gB G + r.toNat) (mT M r) (rd M' r)) : Rep G M' s H1 := by
  obtain ⟨h1, h2, h3, h4, h5⟩ := hR
  refine ⟨by rw [hN]; exact h1, by rw [z, hN]; exact h2, fun a ha0 ha => ?_, h4, h5.kept (fun a _ hA => oq a (fun e => hA (by show gB G ≤ a; omega)))⟩
  rw [hN] at ha
  rw [hT]
  by_cases e : a = r
  · subst e; exact he ha
  · have hx := h3 a ha0 ha
    have hq : H1[gB G + a.toNat]? = H[gB G + a.toNat]? := oq _ (by omega)
    have hf : rd M' a = rd M a := funext (hr a e)
    rw [hf]
    unfold cOK at hx ⊢
    split
    · rename_i hk; rw [if_pos hk] at hx; exact hx.kept hq
    · rename_i hk; rw [if_neg hk] at hx; exact ⟨hx.1, hx.2.1, hx.2.2.1, hx.2.2.2.1, by rw [hq]; exact hx.2.2.2.2⟩
theorem Rep.obj {G : GG} {M : MM} {s : State} {H : Heap} {r : Int} {kd : Nat} (hR : Rep G M s H) (ok : okO M r kd) (hk : kd < 12) : t_OB (gB G + r.toNat) (gC G kd) (kN kd) (gI G kd) H (fun j => fV G (fT kd j) (rd M r j)) := by
  obtain ⟨h1, h2, h3⟩ := ok
  have hx := hR.2.2.1 r h1 h2
  unfold cOK at hx
  rw [h3, if_pos hk] at hx
  exact hx
theorem Rep.arr {G : GG} {M : MM} {s : State} {H : Heap} {r : Int} {kd : Nat} (hR : Rep G M s H) (h0 : 0 ≤ r) (h1 : r < mN M) (h2 : (mT M r).1 = kd) (hk : 20 ≤ kd) : 0 ≤ (mT M r).2 ∧ (mT M r).2 < 2147483648 ∧ H[gB G + r.toNat]? = some (arrV (gA G kd) (mT M r).2.toNat (fun j => fV G (aT kd) (rd M r j))) := by
  have hx := hR.2.2.1 r h0 h1
  unfold cOK at hx
  rw [h2, if_neg (by omega)] at hx
  exact ⟨hx.2.2.1, hx.2.2.2.1, hx.2.2.2.2⟩
section R2
variable {G : GG} {y : YY} {d k n pc pc2 pc3 : Nat} {xs xs' st st2 : List PV} {M : MM} {Q : PV → MM → Prop}
/-- a field's words: its class's number, the class, its field's number, the pool's entry -/
def fW (y : YY) (kd : Nat) (j idx : Nat) : Prop := ∃ (Cn : String) (T : u_T), vwCl[kd]? = some (Cn, T, kN kd) ∧ kd < 12 ∧ j < kN kd ∧ (∀ w ∈ u_ws Cn T (kN kd), w ∈ lw_g) ∧ Cond.fieldLink y.1.cls idx (T j).1 (T j).2.1 (T j).2.2.1 ∈ lw_g ∧ (∀ k, k < kN kd → parseFieldDescriptor (T k).2.2.1 = some (fT kd k)) ∧ (∀ a, a < kN kd → ∀ b, b < kN kd → a ≠ b → (T a).2.1 ≠ (T b).2.1)
theorem x_get {kd j idx : Nat} {r : Int} {v : PV} (hd : decode y.2.1 pc = .ok (.getfield idx, 3)) (hw : fW y kd j idx) (hv : ∀ x, fV G (fT kd j) x = fV G (fT kd j) x) (ok : okO M r kd) (hx : fV G (fT kd j) (rd M r j) = tV G v) (kk : X G y d k n (pc + 3) xs (v :: st) M Q) : X G y d k n pc xs (vA r :: st) M Q :=
  X.same (fun {p l e R s m args below meth c H locs cells slots Qm ls} hF hl hR hS w => by
    obtain ⟨Cn, T, hc, hk, hj, hin, hlk, -, -⟩ := hw
    obtain ⟨cell, q1, q2, q3, q4⟩ := hR.obj ok hk
    obtain ⟨hSl, hfc, kC, hkC, hkind⟩ := hR.2.2.2.1.1 kd _ hc
    obtain ⟨cf, kf, fi, f, hi, hsl⟩ := hSl j hj
    have hts := hF.2.2.2.2.2.1
    simp only [List.map_cons] at w ⊢
    show W p l e R s m args below meth c H locs cells slots Qm (F0 m pc ls (rfV G r :: st.map (tV G)))
    rw [rfV_pos ok.1]
    refine W.getf hF.1 hF.2.1 hF.2.2.2.2.1 (hts _ hlk) hi (u_facts hfc hkC (u_lays hts hin hj) hi).1 q1 (by rw [q3]; exact fun h => by cases h) (v := tV G v) ?_ rfl rfl hd w
    rw [hsl, q4 j hj, ← hx]) kk
theorem X.write {r j x : Int} (h0 : 0 ≤ r)
    (h : ∀ {p : Program} {l : Launch} {e : Env} {R : Room} {s : State} {m : MethodId} {args : Array Value} {below : List Frame} {meth : Method} {c : Code} {H : Heap} {locs : List Loc} {cells slots : Nat} {Qm : State → Prop} {ls : Array Slot},
      Fx G y p s m args meth c → LV G ls y.2.2.1 xs → Rep G M s H → va_S (gR G) s.heap H locs → (∀ (H1 : Heap) (sl : Nat), H1.size = H.size → (∀ q : Nat, q ≠ gB G + r.toNat → H1[q]? = H[q]?) → (r < mN M → cOK G H1 (gB G + r.toNat) (mT M r) (rd (wr M r j x) r)) →
        W p l e R s m args below meth c H1 (locs ++ [⟨gB G + r.toNat, sl⟩]) cells slots Qm (F0 m pc2 ls (st2.map (tV G)))) → W p l e R s m args below meth c H locs cells slots Qm (F0 m pc ls (st.map (tV G))))
    (kk : X G y d k n pc2 xs st2 (wr M r j x) Q) : X G y d k n pc xs st M Q := by
  intro p l e s m args below meth c H locs cells slots mc ms ls hF hk hn hl hR hS
  refine h hF hl hR hS (fun H1 sl z oq he => kk p l e s m args below meth c H1 _ cells slots mc ms ls hF hk hn hl (hR.keep h0 rfl (fun _ => rfl) (fun b hb j' => ?_) z oq he) (hS.put z oq (by show gB G ≤ _; omega)))
  rw [rd_wr, if_neg (fun q => hb q.1)]
theorem x_put {kd j idx : Nat} {r x : Int} {v : PV} (hd : decode y.2.1 pc = .ok (.putfield idx, 3)) (hw : fW y kd j idx) (hfin : ∀ Cn T, vwCl[kd]? = some (Cn, T, kN kd) → ((T j).2.2.2 = false ∨ (y.1.name = "<init>" ∧ (T j).1 = y.1.cls))) (ok : okO M r kd) (hx : fV G (fT kd j) x = tV G v) (hn : narrow (fT kd j) (tV G v) = tV G v) (hfit : fits (fT kd j) (tV G v) = true)
    (kk : X G y d k n (pc + 3) xs st (wr M r j x) Q) : X G y d k n pc xs (v :: vA r :: st) M Q :=
  X.write ok.1 (fun {p l e R s m args below meth c H locs cells slots Qm ls} hF hl hR hS w => by
    obtain ⟨Cn, T, hc, hk, hj, hin, hlk, hty, hnm⟩ := hw
    have hts := hF.2.2.2.2.2.1
    have hap := va_apart (own := y.1.cls) (D := (gC G, gI G)) hts hin (fT kd) hty hnm hR.2.2.2.1 hc
    obtain ⟨cell, q1, q2, q3, q4⟩ := hR.obj ok hk
    obtain ⟨hSl, hfc, kC, hkC, hkind⟩ := hR.2.2.2.1.1 kd _ hc
    obtain ⟨cf, kf, fi, f, hi, hsl⟩ := hSl j hj
    have hlay := hts _ (hin _ (u_in_lay hj))
    have hst := (u_facts hfc hkC (u_lays hts hin hj) hi).1
    have key : ∀ H1 : Heap, H1[gB G + r.toNat]? = some (cell.setSlot f.slot (tV G v)) → r < mN M → cOK G H1 (gB G + r.toNat) (mT M r) (rd (wr M r j x) r) := by
      intro H1 e1 _
      unfold cOK
      rw [ok.2.2, if_pos hk]
      rw [hsl] at e1
      refine t_OB.to (V := updV (fun j => fV G (fT kd j) (rd M r j)) j (tV G v)) ⟨_, e1, q2, q3, t_set q4 hap hj _⟩ (fun i _ => ?_)
      simp only [updV, rd_wr]
      by_cases hij : i = j
      · subst hij; simp [hx]
      · have : ¬ (i : Int) = (j : Int) := by omega
        simp [hij, this]
    simp only [List.map_cons] at w ⊢
    show W p l e R s m args below meth c H locs cells slots Qm (F0 m pc ls (tV G v :: rfV G r :: st.map (tV G)))
    rw [rfV_pos ok.1]
    rcases hfin Cn T hc with hf | ⟨hf1, hf2⟩
    · unfold u_lay at hlay
      rw [if_neg (by rw [hf]; decide)] at hlay
      have h6 := u_store hfc hkC hkind hlay hi (hty j hj) hn hfit
      exact W.putK hF.1 hF.2.1 (f := f) ⟨hF.2.2.2.2.1, hts _ hlk, ⟨_, _, _, hi⟩, hst⟩ (by rw [q2]; exact h6) q1 q3 (by rw [hsl]; exact k2_hasslot (q4 j hj)) rfl rfl hd (fun H1 e1 e2 e3 => w H1 _ e2 e3 (key H1 e1))
    · by_cases hff : (T j).2.2.2 = true
      · unfold u_lay at hlay
        rw [if_pos hff] at hlay
        have hcf : m.cls = cf := by
          obtain ⟨_, _, c', _, _, _, -, -, hf', -, -, -, hown2, -⟩ := Cond.laysFinal_spec hlay
          have e1 : c' = cf := by have := hi.symm.trans hf'; simp at this; exact this.1.symm
          rw [hf2] at hown2
          rw [← e1]; exact Option.some.inj (hF.2.2.2.2.1.symm.trans hown2)
        have h6 := u_fits hfc hkC hkind (Or.inr hlay) hi (hty j hj) hn hfit
        exact W.putFinK hF.1 hF.2.1 hF.2.2.2.2.1 (hts _ hlk) hi hst hcf (by rw [hF.2.2.2.2.2.2.2.1]; exact hf1) (by rw [q2]; exact h6) q1 q3 (by rw [hsl]; exact k2_hasslot (q4 j hj)) rfl rfl hd (fun H1 e1 e2 e3 => w H1 _ e2 e3 (key H1 e1))
      · unfold u_lay at hlay
        rw [if_neg hff] at hlay
        have h6 := u_store hfc hkC hkind hlay hi (hty j hj) hn hfit
        exact W.putK hF.1 hF.2.1 (f := f) ⟨hF.2.2.2.2.1, hts _ hlk, ⟨_, _, _, hi⟩, hst⟩ (by rw [q2]; exact h6) q1 q3 (by rw [hsl]; exact k2_hasslot (q4 j hj)) rfl rfl hd (fun H1 e1 e2 e3 => w H1 _ e2 e3 (key H1 e1))) kk
end R2
end
section
theorem ixN {i : Int} (h0 : 0 ≤ i) (h1 : i < 2147483648) : (Int32.ofInt i).toNatClampNeg = i.toNat := by
  have h := inR_to (a := i) ⟨by omega, by omega⟩
  show (Int32.ofInt i).toInt.toNat = i.toNat
  rw [h]
theorem ix_in {i : Int} {N : Nat} (h0 : 0 ≤ i) (h1 : i < 2147483648) (hN : i.toNat < N) : ¬ (Int32.ofInt i < 0 ∨ N ≤ (Int32.ofInt i).toNatClampNeg) := by
  rw [ixN h0 h1]
  intro q
  rcases q with q | q
  · have := (lt_32 (a := i) (b := 0) ⟨by omega, by omega⟩ inR_0).mp q
    omega
  · omega
theorem KT_at {G : GG} {s : State} (hK : va_K (gC G, gI G) vwCl (KT G) s) {kd : Nat} (h1 : 20 ≤ kd) (h2 : kd < 25) : ArrOfT s (gA G kd) (aT kd) ∧ va_RA s (gA G kd) (aT kd) := by
  have h : (KT G)[kd - 20]? = some (gA G kd, aT kd) := by
    have : kd = 20 ∨ kd = 21 ∨ kd = 22 ∨ kd = 23 ∨ kd = 24 := by omega
    rcases this with rfl | rfl | rfl | rfl | rfl <;> rfl
  exact hK.2 _ _ h
section R3
variable {G : GG} {y : YY} {d k k2 n pc pc2 pc3 : Nat} {xs xs' st st2 : List PV} {M : MM} {Q : PV → MM → Prop}
theorem Rep.elt {s : State} {H : Heap} {r i : Int} {kd : Nat} (hR : Rep G M s H) (ok : okA M r kd i) (hk : 20 ≤ kd) (hk2 : kd < 25) : ∃ cell : Cell, H[gB G + r.toNat]? = some cell ∧ s.isArrayOf cell (aT kd) ∧ cell.vm ≠ .unknown ∧ ¬ (Int32.ofInt i < 0 ∨ cell.slots.size ≤ (Int32.ofInt i).toNatClampNeg) ∧ cell.slots[(Int32.ofInt i).toNatClampNeg]? = some (fV G (aT kd) (rd M r i)) := by
  obtain ⟨h1, h2, h3, h4, h5⟩ := ok
  obtain ⟨g1, g2, g3⟩ := hR.arr h1 h2 h3 hk
  refine ⟨_, g3, (KT_at hR.2.2.2.1 hk hk2).1 _ _, (fun q => by cases q), ?_, ?_⟩
  · rw [arrV_size]; exact ix_in h4 (by omega) (by omega)
  · rw [ixN h4 (by omega), arrV_read _ _ (by omega), show ((i.toNat : Nat) : Int) = i by omega]
theorem x_iald {r i : Int} (hd : decode y.2.1 pc = .ok (.iaload, 1)) (ok : okA M r 20 i) (kk : X G y d k n (pc + 1) xs (vI (rd M r i) :: st) M Q) : X G y d k n pc xs (vI i :: vA r :: st) M Q :=
  X.same (fun {p l e R s m args below meth c H locs cells slots Qm ls} hF hl hR hS w => by
    obtain ⟨cell, h1, h2, h3, h4, h5⟩ := hR.elt ok (by decide) (by decide)
    show W p l e R s m args below meth c H locs cells slots Qm (F0 m pc ls (.int (Int32.ofInt i) :: rfV G r :: st.map (tV G)))
    rw [rfV_pos ok.1]
    exact W.iald hF.1 hF.2.1 h1 h2 h3 h4 h5 rfl rfl hd w) kk
theorem x_lald {r i : Int} (hd : decode y.2.1 pc = .ok (.laload, 1)) (ok : okA M r 21 i) (kk : X G y d k n (pc + 1) xs (vL (rd M r i) :: st) M Q) : X G y d k n pc xs (vI i :: vA r :: st) M Q :=
  X.same (fun {p l e R s m args below meth c H locs cells slots Qm ls} hF hl hR hS w => by
    obtain ⟨cell, h1, h2, h3, h4, h5⟩ := hR.elt ok (by decide) (by decide)
    show W p l e R s m args below meth c H locs cells slots Qm (F0 m pc ls (.int (Int32.ofInt i) :: rfV G r :: st.map (tV G)))
    rw [rfV_pos ok.1]
    exact W.lald hF.1 hF.2.1 h1 h2 h3 h4 h5 rfl rfl hd w) kk
theorem x_zald {r i : Int} (hd : decode y.2.1 pc = .ok (.baload, 1)) (ok : okA M r 22 i) (kk : X G y d k n (pc + 1) xs (vI (rd M r i) :: st) M Q) : X G y d k n pc xs (vI i :: vA r :: st) M Q :=
  X.same (fun {p l e R s m args below meth c H locs cells slots Qm ls} hF hl hR hS w => by
    obtain ⟨cell, h1, h2, h3, h4, h5⟩ := hR.elt ok (by decide) (by decide)
    show W p l e R s m args below meth c H locs cells slots Qm (F0 m pc ls (.int (Int32.ofInt i) :: rfV G r :: st.map (tV G)))
    rw [rfV_pos ok.1]
    exact W.zald hF.1 hF.2.1 h1 h2 h3 h4 h5 rfl rfl hd w) kk
theorem x_aald {r i : Int} (kd : Nat) (hkd : kd = 23 ∨ kd = 24) (hd : decode y.2.1 pc = .ok (.aaload, 1)) (ok : okA M r kd i) (kk : X G y d k n (pc + 1) xs (vA (rd M r i) :: st) M Q) : X G y d k n pc xs (vI i :: vA r :: st) M Q :=
  X.same (fun {p l e R s m args below meth c H locs cells slots Qm ls} hF hl hR hS w => by
    obtain ⟨cell, h1, h2, h3, h4, h5⟩ := hR.elt ok (by omega) (by omega)
    show W p l e R s m args below meth c H locs cells slots Qm (F0 m pc ls (.int (Int32.ofInt i) :: rfV G r :: st.map (tV G)))
    rw [rfV_pos ok.1]
    rcases hkd with rfl | rfl
    · exact W.aald hF.1 hF.2.1 h1 h2 rfl h3 h4 h5 rfl rfl hd w
    · exact W.aald hF.1 hF.2.1 h1 h2 rfl h3 h4 h5 rfl rfl hd w) kk
theorem x_alen {r : Int} {kd : Nat} (hk : 20 ≤ kd) (hk2 : kd < 25) (hd : decode y.2.1 pc = .ok (.arraylength, 1)) (ok : okO M r kd) (kk : X G y d k n (pc + 1) xs (vI (mT M r).2 :: st) M Q) : X G y d k n pc xs (vA r :: st) M Q :=
  X.same (fun {p l e R s m args below meth c H locs cells slots Qm ls} hF hl hR hS w => by
    obtain ⟨g1, g2, g3⟩ := hR.arr ok.1 ok.2.1 ok.2.2 hk
    show W p l e R s m args below meth c H locs cells slots Qm (F0 m pc ls (rfV G r :: st.map (tV G)))
    rw [rfV_pos ok.1]
    refine W.alen (n := Int32.ofInt (mT M r).2) hF.1 hF.2.1 g3 ((KT_at hR.2.2.2.1 hk hk2).1 _ _) ?_ rfl rfl hd w
    rw [arrV_size]
    show Int32.ofNat _ = _
    rw [← Int32.ofInt_eq_ofNat]
    congr 1
    omega) kk
theorem Rep.eltW {s : State} {H1 : Heap} {r i x : Int} {kd : Nat} {v : Value} (ok : okA M r kd i) (hk : 20 ≤ kd) (hk2 : kd < 25) (hR : 0 ≤ (mT M r).2 ∧ (mT M r).2 < 2147483648) (hv : fV G (aT kd) x = v)
    (e : H1[gB G + r.toNat]? = some ((arrV (gA G kd) (mT M r).2.toNat (fun j => fV G (aT kd) (rd M r j))).setSlot (Int32.ofInt i).toNatClampNeg v)) : cOK G H1 (gB G + r.toNat) (mT M r) (rd (wr M r i x) r) := by
  obtain ⟨h1, h2, h3, h4, h5⟩ := ok
  unfold cOK
  rw [h3, if_neg (by omega)]
  refine ⟨hk, hk2, hR.1, hR.2, ?_⟩
  rw [e, arrV_store, ixN h4 (by omega)]
  congr 2
  funext q
  simp only [updV, rd_wr]
  by_cases hq : q = i.toNat
  · have : (q : Int) = i := by omega
    rw [if_pos hq, if_pos ⟨trivial, this⟩, hv]
  · have : ¬ (q : Int) = i := by omega
    rw [if_neg hq, if_neg (fun z => this z.2)]
theorem x_iast {r i x : Int} (hd : decode y.2.1 pc = .ok (.iastore, 1)) (ok : okA M r 20 i) (kk : X G y d k n (pc + 1) xs st (wr M r i x) Q) : X G y d k n pc xs (vI x :: vI i :: vA r :: st) M Q :=
  X.write ok.1 (fun {p l e R s m args below meth c H locs cells slots Qm ls} hF hl hR hS w => by
    obtain ⟨g1, g2, g3⟩ := hR.arr ok.1 ok.2.1 ok.2.2.1 (by decide)
    show W p l e R s m args below meth c H locs cells slots Qm (F0 m pc ls (.int (Int32.ofInt x) :: .int (Int32.ofInt i) :: rfV G r :: st.map (tV G)))
    rw [rfV_pos ok.1]
    refine W.iast hF.1 hF.2.1 g3 ((KT_at hR.2.2.2.1 (kd := 20) (by decide) (by decide)).1 _ _) (fun q => by cases q) (by rw [arrV_size]; exact ix_in ok.2.2.2.1 (by have := ok.2.2.2.2; omega) (by have := ok.2.2.2.2; have := ok.2.2.2.1; omega)) rfl rfl hd (fun H1 e1 z oq => w H1 _ z oq (fun _ => Rep.eltW (s := s) ok (by decide) (by decide) ⟨g1, g2⟩ rfl e1))) kk
theorem x_last {r i x : Int} (hd : decode y.2.1 pc = .ok (.lastore, 1)) (ok : okA M r 21 i) (kk : X G y d k n (pc + 1) xs st (wr M r i x) Q) : X G y d k n pc xs (vL x :: vI i :: vA r :: st) M Q :=
  X.write ok.1 (fun {p l e R s m args below meth c H locs cells slots Qm ls} hF hl hR hS w => by
    obtain ⟨g1, g2, g3⟩ := hR.arr ok.1 ok.2.1 ok.2.2.1 (by decide)
    show W p l e R s m args below meth c H locs cells slots Qm (F0 m pc ls (.long (Int64.ofInt x) :: .int (Int32.ofInt i) :: rfV G r :: st.map (tV G)))
    rw [rfV_pos ok.1]
    refine W.last hF.1 hF.2.1 g3 ((KT_at hR.2.2.2.1 (kd := 21) (by decide) (by decide)).1 _ _) (fun q => by cases q) (by rw [arrV_size]; exact ix_in ok.2.2.2.1 (by have := ok.2.2.2.2; omega) (by have := ok.2.2.2.2; have := ok.2.2.2.1; omega)) rfl rfl hd (fun H1 e1 z oq => w H1 _ z oq (fun _ => Rep.eltW (s := s) ok (by decide) (by decide) ⟨g1, g2⟩ rfl e1))) kk
theorem x_zast {r i x : Int} (hd : decode y.2.1 pc = .ok (.bastore, 1)) (h01 : x = 0 ∨ x = 1) (ok : okA M r 22 i) (kk : X G y d k n (pc + 1) xs st (wr M r i x) Q) : X G y d k n pc xs (vI x :: vI i :: vA r :: st) M Q :=
  X.write ok.1 (fun {p l e R s m args below meth c H locs cells slots Qm ls} hF hl hR hS w => by
    obtain ⟨g1, g2, g3⟩ := hR.arr ok.1 ok.2.1 ok.2.2.1 (by decide)
    show W p l e R s m args below meth c H locs cells slots Qm (F0 m pc ls (.int (Int32.ofInt x) :: .int (Int32.ofInt i) :: rfV G r :: st.map (tV G)))
    rw [rfV_pos ok.1]
    refine W.zast hF.1 hF.2.1 g3 ((KT_at hR.2.2.2.1 (kd := 22) (by decide) (by decide)).1 _ _) (fun q => by cases q) (by rw [arrV_size]; exact ix_in ok.2.2.2.1 (by have := ok.2.2.2.2; omega) (by have := ok.2.2.2.2; have := ok.2.2.2.1; omega)) rfl rfl hd (fun H1 e1 z oq => w H1 _ z oq (fun _ => Rep.eltW (s := s) ok (by decide) (by decide) ⟨g1, g2⟩ (by rcases h01 with rfl | rfl <;> rfl) e1))) kk
/-- a cell of our own is stored in an array of references -/
theorem x_aast {r i x : Int} (kd ko : Nat) (hkd : (kd = 23 ∧ ko = 3) ∨ (kd = 24 ∧ ko = 4)) (hd : decode y.2.1 pc = .ok (.aastore, 1)) (ok : okA M r kd i) (hx : okO M x ko) (kk : X G y d k n (pc + 1) xs st (wr M r i x) Q) : X G y d k n pc xs (vA x :: vI i :: vA r :: st) M Q :=
  X.write ok.1 (fun {p l e R s m args below meth c H locs cells slots Qm ls} hF hl hR hS w => by
    obtain ⟨g1, g2, g3⟩ := hR.arr ok.1 ok.2.1 ok.2.2.1 (by omega)
    obtain ⟨cellV, q1, q2, q3, -⟩ := hR.obj hx (by omega)
    show W p l e R s m args below meth c H locs cells slots Qm (F0 m pc ls (rfV G x :: .int (Int32.ofInt i) :: rfV G r :: st.map (tV G)))
    rw [rfV_pos ok.1, rfV_pos hx.1]
    have hi := ix_in (i := i) (N := (mT M r).2.toNat) ok.2.2.2.1 (by have := ok.2.2.2.2; omega) (by have := ok.2.2.2.2; have := ok.2.2.2.1; omega)
    have fin : ∀ (kA kC : Class), s.vm.classes[gA G kd]? = some kA → (∃ nm, kA.kind = .array (gC G ko) (.object nm)) → s.vm.classes[gC G ko]? = some kC → s.vm.assignable (gC G ko) (gC G ko) = true → W p l e R s m args below meth c H locs cells slots Qm (F0 m pc ls (.ref (gB G + x.toNat) :: .int (Int32.ofInt i) :: .ref (gB G + r.toNat) :: st.map (tV G))) := by
      intro kA kC k1 ⟨nm, k2⟩ k3 k4
      refine W.aast hF.1 hF.2.1 g3 (fun q h => by cases h) (fun h => by cases h) k1 k2 rfl k3 ⟨fun q => hi (Or.inl q), by rw [arrV_size]; exact Nat.not_le.mp fun q => hi (Or.inr q)⟩ q1 (fun q h => by rw [q3] at h; cases h) (by rw [q2]; exact k3) (by rw [q2]; exact k4) rfl rfl hd (fun H1 e1 z oq => w H1 _ z oq (fun _ => Rep.eltW (s := s) ok (by omega) (by omega) ⟨g1, g2⟩ (by rcases hkd with ⟨rfl, -⟩ | ⟨rfl, -⟩ <;> exact rfV_pos hx.1) e1))
    have hK := hR.2.2.2.1
    rcases hkd with ⟨rfl, rfl⟩ | ⟨rfl, rfl⟩
    · have hcls := (hK.1 3 _ rfl).2
      obtain ⟨kA, comp, k1, k2, k3, -⟩ := (KT_at hK (kd := 23) (by decide) (by decide)).2
      have hcomp : comp = gC G 3 := Option.some.inj (k3.symm.trans hcls.1)
      obtain ⟨kC, hkC, -⟩ := hcls.2
      exact fin kA kC k1 ⟨_, by rw [← hcomp]; exact k2⟩ hkC (va_assign hcls)
    · have hcls := (hK.1 4 _ rfl).2
      obtain ⟨kA, comp, k1, k2, k3, -⟩ := (KT_at hK (kd := 24) (by decide) (by decide)).2
      have hcomp : comp = gC G 4 := Option.some.inj (k3.symm.trans hcls.1)
      obtain ⟨kC, hkC, -⟩ := hcls.2
      exact fin kA kC k1 ⟨_, by rw [← hcomp]; exact k2⟩ hkC (va_assign hcls)) kk
/-- the memory with one cell more -/
theorem Rep.grow {s : State} {H H1 : Heap} {kd : Nat} {len : Int} {f : Int → Int} (hR : Rep G M s H) (z : H1.size = H.size + 1) (oq : ∀ q : Nat, q < H.size → H1[q]? = H[q]?) (he : cOK G H1 H.size (kd, len) f) : Rep G (al M kd len f) s H1 := by
  obtain ⟨h1, h2, h3, h4, h5⟩ := hR
  refine ⟨by rw [mN_al]; omega, by rw [z, mN_al]; omega, fun a ha0 ha => ?_, h4, h5.kept (fun a hl _ => oq a hl)⟩
  rw [mN_al] at ha
  by_cases e : a = mN M
  · rw [mT_al, if_pos e, show rd (al M kd len f) a = f from funext fun j => by rw [rd_al, if_pos e], show gB G + a.toNat = H.size by rw [e]; exact h2.symm]
    exact he
  · rw [mT_al, if_neg e, show rd (al M kd len f) a = rd M a from funext fun j => by rw [rd_al, if_neg e]]
    have hx := h3 a ha0 (by omega)
    have hq : H1[gB G + a.toNat]? = H[gB G + a.toNat]? := oq _ (by omega)
    unfold cOK at hx ⊢
    split
    · rename_i hk; rw [if_pos hk] at hx; exact hx.kept hq
    · rename_i hk; rw [if_neg hk] at hx; exact ⟨hx.1, hx.2.1, hx.2.2.1, hx.2.2.2.1, by rw [hq]; exact hx.2.2.2.2⟩
theorem X.make {kd : Nat} {len : Int} {f : Int → Int} {j : Nat} (hj : j + n ≤ k2)
    (h : ∀ {p : Program} {l : Launch} {e : Env} {R : Room} {s : State} {m : MethodId} {args : Array Value} {below : List Frame} {meth : Method} {c : Code} {H : Heap} {locs : List Loc} {cells slots : Nat} {Qm : State → Prop} {ls : Array Slot},
      Fx G y p s m args meth c → Rep G M s H → cells + 1 ≤ R.cells → slots + j ≤ R.slots → (∀ (H1 : Heap), H1.size = H.size + 1 → (∀ q : Nat, q < H.size → H1[q]? = H[q]?) → cOK G H1 H.size (kd, len) f →
        W p l e R s m args below meth c H1 locs (cells + 1) (slots + j) Qm (F0 m pc2 ls (.ref H.size :: st2.map (tV G)))) → W p l e R s m args below meth c H locs cells slots Qm (F0 m pc ls (st.map (tV G))))
    (kk : X G y d k n pc2 xs (vA (mN M) :: st2) (al M kd len f) Q) : X G y d (k + 1) k2 pc xs st M Q := by
  intro p l e s m args below meth c H locs cells slots mc ms ls hF hk hn hl hR hS
  refine h hF hR (by show cells + 1 ≤ mc; omega) (by show slots + j ≤ ms; omega) (fun H1 z oq he => ?_)
  have w := kk p l e s m args below meth c H1 locs (cells + 1) (slots + j) mc ms ls hF (by omega) (by omega) hl (hR.grow z oq he) ⟨Nat.le_trans hS.1 (by omega), fun x h1 h2 => (oq x (Nat.lt_of_lt_of_le h1 hS.1)).trans (hS.2.1 x h1 h2), hS.2.2⟩
  simp only [List.map_cons] at w
  have e1 : tV G (vA (mN M)) = .ref H.size := by
    show rfV G (mN M) = _
    rw [rfV_pos hR.1, hR.2.1]
  rw [e1] at w
  exact w
end R3
end
section
section R4
variable {G : GG} {y : YY} {d k k2 n pc pc2 pc3 : Nat} {xs xs' st st2 : List PV} {M : MM} {Q : PV → MM → Prop}
theorem dV_ok (G : GG) (t : FieldType) (h : t = .int ∨ t = .long ∨ t = .boolean ∨ (∃ c, t = .object c) ∨ ∃ c, t = .array c) : fV G t (dV t) = defaultValue t := by
  rcases h with rfl | rfl | rfl | ⟨c, rfl⟩ | ⟨c, rfl⟩ <;> rfl
/-- newarray of ints, longs, booleans; its size is a number -/
theorem x_newa {kd : Nat} {at' : ArrayType} {N : Nat} (hkd : (kd = 20 ∧ at' = .int) ∨ (kd = 21 ∧ at' = .long) ∨ (kd = 22 ∧ at' = .boolean)) (hd : decode y.2.1 pc = .ok (.newarray at', 2)) (hw : Cond.arrayClass (newarray.typeOf at') ∈ lw_g) (hN : N ≤ 1000000) (hj : N + n ≤ k2)
    (kk : X G y d k n (pc + 2) xs (vA (mN M) :: st) (al M kd N (fun _ => 0)) Q) : X G y d (k + 1) k2 pc xs (vI N :: st) M Q :=
  X.make hj (fun {p l e R s m args below meth c H locs cells slots Qm ls} hF hR hc hs w => by
    have hn0 : ¬ (Int32.ofInt (N : Int)) < 0 := fun q => by
      have := (lt_32 (a := N) (b := 0) ⟨by omega, by omega⟩ inR_0).mp q
      omega
    have hNn : (Int32.ofInt (N : Int)).toNatClampNeg = N := by rw [ixN (by omega) (by omega)]; omega
    show W p l e R s m args below meth c H locs cells slots Qm (F0 m pc ls (.int (Int32.ofInt N) :: st.map (tV G)))
    refine va_newaK hF.1 hF.2.1 (hF.2.2.2.2.2.1 _ hw) rfl hd rfl hn0 hNn (by rcases hkd with ⟨-, rfl⟩ | ⟨-, rfl⟩ | ⟨-, rfl⟩ <;> simp [newarray.typeOf, componentBytes] <;> omega) hc hs rfl (fun H1 cA e1 z1 o1 hAr hNm => w H1 z1 o1 ?_)
    unfold cOK
    have hK := hR.2.2.2.1
    rcases hkd with ⟨rfl, rfl⟩ | ⟨rfl, rfl⟩ | ⟨rfl, rfl⟩
    · have h := (KT_at hK (kd := 20) (by decide) (by decide)).2
      have hcA : cA = gA G 20 := Option.some.inj (hNm.symm.trans h)
      subst hcA
      exact ⟨Nat.le_of_ble_eq_true rfl, Nat.le_of_ble_eq_true rfl, by show (0 : Int) ≤ N; omega, by show (N : Int) < _; omega, e1⟩
    · have h := (KT_at hK (kd := 21) (by decide) (by decide)).2
      have hcA : cA = gA G 21 := Option.some.inj (hNm.symm.trans h)
      subst hcA
      exact ⟨Nat.le_of_ble_eq_true rfl, Nat.le_of_ble_eq_true rfl, by show (0 : Int) ≤ N; omega, by show (N : Int) < _; omega, e1⟩
    · have h := (KT_at hK (kd := 22) (by decide) (by decide)).2
      have hcA : cA = gA G 22 := Option.some.inj (hNm.symm.trans h)
      subst hcA
      exact ⟨Nat.le_of_ble_eq_true rfl, Nat.le_of_ble_eq_true rfl, by show (0 : Int) ≤ N; omega, by show (N : Int) < _; omega, e1⟩) kk
theorem x_newq {kd : Nat} {N idx : Nat} {Cn : String} (hkd : (kd = 23 ∧ Cn = "StayPlay$House") ∨ (kd = 24 ∧ Cn = "StayPlay$Law")) (hd : decode y.2.1 pc = .ok (.anewarray idx, 3)) (hw : Cond.classLink y.1.cls idx Cn ∈ lw_g) (hN : N ≤ 1000000) (hj : N + n ≤ k2)
    (kk : X G y d k n (pc + 3) xs (vA (mN M) :: st) (al M kd N (fun _ => -1)) Q) : X G y d (k + 1) k2 pc xs (vI N :: st) M Q :=
  X.make hj (fun {p l e R s m args below meth c H locs cells slots Qm ls} hF hR hc hs w => by
    have hn0 : ¬ (Int32.ofInt (N : Int)) < 0 := fun q => by
      have := (lt_32 (a := N) (b := 0) ⟨by omega, by omega⟩ inR_0).mp q
      omega
    have hNn : (Int32.ofInt (N : Int)).toNatClampNeg = N := by rw [ixN (by omega) (by omega)]; omega
    show W p l e R s m args below meth c H locs cells slots Qm (F0 m pc ls (.int (Int32.ofInt N) :: st.map (tV G)))
    have hAO : va_AO Cn s := by
      rcases hkd with ⟨-, rfl⟩ | ⟨-, rfl⟩
      · exact hF.2.2.2.2.2.2.2.2.1.2.2.2.2.2.1
      · exact hF.2.2.2.2.2.2.2.2.1.2.2.2.2.2.2.1
    refine W.anew hF.1 hF.2.1 hF.2.2.2.2.1 (hF.2.2.2.2.2.1 _ hw) (va_AO.use hAO) rfl hd rfl hn0 (by rw [hNn]; omega) hc (by rw [hNn]; exact hs) (fun cA kA comp f1 f2 f3 f4 => ?_)
    rw [hNn]
    refine w _ (Array.size_push ..) (fun q hq => by rw [Array.getElem?_push, if_neg (Nat.ne_of_lt hq)]) ?_
    unfold cOK
    have hK := hR.2.2.2.1
    rcases hkd with ⟨rfl, rfl⟩ | ⟨rfl, rfl⟩
    · obtain ⟨-, -, -, -, -, h⟩ := (KT_at hK (kd := 23) (by decide) (by decide)).2
      have hcA : cA = gA G 23 := Option.some.inj (f1.symm.trans h)
      subst hcA
      exact ⟨Nat.le_of_ble_eq_true rfl, Nat.le_of_ble_eq_true rfl, by show (0 : Int) ≤ N; omega, by show (N : Int) < _; omega, by rw [Array.getElem?_push_size, arrV_new]; rfl⟩
    · obtain ⟨-, -, -, -, -, h⟩ := (KT_at hK (kd := 24) (by decide) (by decide)).2
      have hcA : cA = gA G 24 := Option.some.inj (f1.symm.trans h)
      subst hcA
      exact ⟨Nat.le_of_ble_eq_true rfl, Nat.le_of_ble_eq_true rfl, by show (0 : Int) ≤ N; omega, by show (N : Int) < _; omega, by rw [Array.getElem?_push_size, arrV_new]; rfl⟩) kk
/-- a class's words for 'new' -/
def nW (y : YY) (kd idx : Nat) : Prop := ∃ (Cn : String) (T : u_T), vwCl[kd]? = some (Cn, T, kN kd) ∧ kd < 12 ∧ (∀ w ∈ u_ws Cn T (kN kd), w ∈ lw_g) ∧ Cond.classLink y.1.cls idx Cn ∈ lw_g ∧ Cond.instantiable Cn (kN kd) ∈ lw_g ∧ Cond.initialized Cn ∈ lw_g ∧ (∀ k, k < kN kd → parseFieldDescriptor (T k).2.2.1 = some (fT kd k)) ∧ ∀ (G : GG) (j : Nat), j < kN kd → fV G (fT kd j) (dV (fT kd j)) = defaultValue (fT kd j)
theorem x_new {kd idx : Nat} (hd : decode y.2.1 pc = .ok (.new idx, 3)) (hw : nW y kd idx) (hj : kN kd + n ≤ k2)
    (kk : X G y d k n (pc + 3) xs (vA (mN M) :: st) (al M kd (kN kd) (fun j => dV (fT kd j.toNat))) Q) : X G y d (k + 1) k2 pc xs st M Q :=
  X.make hj (fun {p l e R s m args below meth c H locs cells slots Qm ls} hF hR hc hs w => by
    obtain ⟨Cn, T, hcl, hk, hin, hlk, hins, hini, hty, hdv⟩ := hw
    have hts := hF.2.2.2.2.2.1
    have hKn := hR.2.2.2.1.1 kd _ hcl
    refine W.newcK hF.1 hF.2.1 hF.2.2.2.2.1 (hts _ hlk) (hts _ hins) (hts _ hini) rfl hd hc hs hKn.2.1 rfl (fun H1 kC hkC e1 z1 o1 => w H1 z1 o1 ?_)
    unfold cOK
    rw [if_pos hk]
    refine (u_born (fT kd) hts hin hKn hkC e1 hty).to (fun j hj => ?_)
    show _ = fV G (fT kd j) (dV (fT kd ((j : Int).toNat)))
    rw [show ((j : Int).toNat) = j by omega, hdv G j hj]) kk
/-! ===== calls ===== -/
theorem FrameB {as : List PV} : FrameBlind (va_Pc (as.map (tV G)) (fun U => Rep G M U U.heap ∧ NN G U)) := fun a U g mk h => ⟨h.1, Rep.moved (u := U) (U := U.calling g mk a) (Vm.Alike.refl U.vm) h.2.1, NN.same (u := U) (U := U.calling g mk a) rfl h.2.2⟩
/-- what a call needs of the words -/
def cB (y z : YY) (np : Nat) : Prop := Cond.code z.1 z.2.1 z.2.2.1 z.2.2.2 ∈ lw_g ∧ Cond.initialized z.1.cls ∈ lw_g ∧ (z.1.cls ≠ "java/lang/invoke/MethodHandle" ∧ z.1.cls ≠ "java/lang/invoke/VarHandle" ∧ (parseMethodDescriptor z.1.desc).map (fun d => d.parameters.length) = some np) ∧ z.2.2.1 ≤ 45
theorem cB_ws {z : YY} (h : Cond.code z.1 z.2.1 z.2.2.1 z.2.2.2 ∈ lw_g) : GoodIn lw_g (wsO z) := fun w hw => by
  rcases List.mem_cons.mp hw with rfl | hw
  · exact lw_gg _ h
  · exact lw_gg _ hw
theorem vsum (G : GG) (r : List PV) : ((r.map (tV G)).map fun v => v.category).sum = (r.map (fun x => if isL x then 2 else 1)).sum := by
  rw [List.map_map]
  congr 1
  apply List.map_congr_left
  intro x _
  simp [tV_cat]
theorem X.call {kz nz : Nat} {rest as : List PV} {Q' : PV → MM → Prop}
    (hk : kz + k ≤ k2) {n2 : Nat} (hn : nz + n ≤ n2)
    (h : ∀ {p : Program} {l : Launch} {e : Env} {s : State} {m : MethodId} {args : Array Value} {below : List Frame} {meth : Method} {c : Code} {H : Heap} {locs : List Loc} {cells slots mc ms : Nat} {ls : Array Slot},
      Fx G y p s m args meth c → LV G ls y.2.2.1 xs → Rep G M s H → cells + kz ≤ mc → slots + nz ≤ ms → va_Run p l e (rmD d mc ms) s m args below meth c H locs cells slots kz nz (F0 m pc ls (st.map (tV G))) (rest.map (tV G)) (QQ G Q' (as.map (tV G)).toArray) (gR G))
    (kk : ∀ (v : PV) (M' : MM), Q' v M' → X G y d k n (pc + 3) xs (if isU v then rest else v :: rest) M' Q) : X G y d k2 n2 pc xs st M Q := by
  intro p l e s m args below meth c H locs cells slots mc ms ls hF hk2 hn2 hl hR hS
  intro T hT XX
  obtain ⟨v, st₀, t, T', L, h0, X', hL, e1, e2, ⟨⟨v', M', hv, hQ, hR'⟩, hz, hkp⟩, go⟩ := h hF hl hR (by omega) (by omega) T hT XX
  cases hv
  rw [h0] at hz hkp
  have hal : s.vm.Alike T'.vm := X'.warmed.alike
  have hRs : Rep G M' s T'.heap := by
    rw [e1]
    refine Rep.moved (u := t) ?_ hR'
    rw [← e2]
    exact hal.symm
  have hS' : va_S (gR G) s.heap T'.heap (locs ++ L) := ⟨Nat.le_trans hS.1 (by rw [e1]; exact hz), fun q h1 h2 => by rw [e1, hkp q (Nat.lt_of_lt_of_le h1 hS.1) h2]; exact hS.2.1 q h1 h2, fun q hq => by
    rcases List.mem_append.mp hq with h | h
    · exact hS.2.2 q h
    · exact hL q h⟩
  obtain ⟨t2, a1, b1⟩ := kk v' M' hQ p l e s m args below meth c T'.heap (locs ++ L) (cells + kz) (slots + nz) mc ms ls hF (by omega) (by omega) hl hRs hS' T' rfl X'
  refine ⟨t2, go t2 ?_, b1⟩
  have e3 : ((oV G v').toList ++ rest.map (tV G)) = (if isU v' then rest else v' :: rest).map (tV G) := by
    rcases v' with a | a | a | a <;> rfl
  rw [e3]
  exact a1
theorem C.mono {z : YY} {kz nz : Nat} {as : List PV} {Q1 Q2 : PV → MM → Prop} (h : C G z d kz nz as M Q1) (hq : ∀ v M', Q1 v M' → Q2 v M') : C G z d kz nz as M Q2 := fun l =>
  MetFree.mono (h l) (fun _ _ q => q) (fun _ _ _ _ _ q => q) (fun a st o t _ q => ⟨⟨by obtain ⟨⟨v, M', e1, e2, e3⟩, -⟩ := q.1; exact ⟨v, M', e1, hq v M' e2, e3⟩, q.1.2⟩, q.2⟩)
def cV (y z : YY) (idx np : Nat) : Prop := cB y z np ∧ Cond.methodLink y.1.cls idx z.1 ∈ lw_g ∧ Cond.instanceMethod z.1 ∈ lw_g ∧ Cond.selects z.1.cls z.1 z.1 ∈ lw_g
def cS (y z : YY) (idx np : Nat) : Prop := cB y z np ∧ Cond.methodLink y.1.cls idx z.1 ∈ lw_g ∧ Cond.static z.1 ∈ lw_g
def cI (y z : YY) (idx np : Nat) : Prop := cB y z np ∧ Cond.methodLink y.1.cls idx z.1 ∈ lw_g ∧ Cond.instanceMethod z.1 ∈ lw_g ∧ z.1.name = "<init>" ∧ z.2.2.2 = none
def cVN (y z : YY) (idx np : Nat) : Prop := cB y z np ∧ (∀ (G : GG) (U : State), NN G U → va_Nw (.methodLinkNest y.1.cls idx z.1 "StayPlay") U) ∧ Cond.instanceMethod z.1 ∈ lw_g ∧ Cond.selects z.1.cls z.1 z.1 ∈ lw_g
def cIN (y z : YY) (idx np : Nat) : Prop := cB y z np ∧ (∀ (G : GG) (U : State), NN G U → va_Nw (.methodLinkNest y.1.cls idx z.1 "StayPlay") U) ∧ Cond.instanceMethod z.1 ∈ lw_g ∧ z.1.name = "<init>" ∧ z.2.2.2 = none
theorem rm_ok {z : YY} {kz nz mc ms : Nat} (hd1 : 1 ≤ d) (hL : z.2.2.1 ≤ 45) : (rmD (d - 1) kz nz).frames + 1 ≤ (rmD d mc ms).frames ∧ 8 + (z.2.2.1 + 11) + (rmD (d - 1) kz nz).locals ≤ (rmD d mc ms).locals := by
  show d - 1 + 1 ≤ d ∧ 8 + (z.2.2.1 + 11) + 64 * (d - 1) ≤ 64 * d
  omega
theorem rvok {s : State} {H : Heap} {r : Int} {kd : Nat} {Cn : String} {T : u_T} (hR : Rep G M s H) (ok : okO M r kd) (hk : kd < 12) (hc : vwCl[kd]? = some (Cn, T, kN kd)) : ∃ cellB : Cell, H[gB G + r.toNat]? = some cellB ∧ cellB.vm.isStatics = false ∧ s.vm.findClass Cn = some cellB.cls := by
  obtain ⟨cell, q1, q2, q3, -⟩ := hR.obj ok hk
  exact ⟨cell, q1, by rw [q3]; rfl, by rw [q2]; exact (hR.2.2.2.1.1 kd _ hc).2.1⟩
theorem x_callV {z : YY} {idx np kz nz n2 : Nat} (kd : Nat) {r : Int} (as rest : List PV) {Q' : PV → MM → Prop} (hd : decode y.2.1 pc = .ok (.invokevirtual idx, 3)) (hw : cV y z idx np) (hst : st = as.reverse ++ vA r :: rest) (hnp : as.length = np) (hr8 : (rest.map (fun x => if isL x then 2 else 1)).sum ≤ 8) {T : u_T} (hk12 : kd < 12) (hc : vwCl[kd]? = some (z.1.cls, T, kN kd)) (hd1 : 1 ≤ d)
    (hk : kz + k ≤ k2) (hn : nz + n ≤ n2) (ok : okO M r kd) (hC : C G z (d - 1) kz nz (vA r :: as) M Q') (kk : ∀ (v : PV) (M' : MM), Q' v M' → X G y d k n (pc + 3) xs (if isU v then rest else v :: rest) M' Q) : X G y d k2 n2 pc xs st M Q := by
  subst hst
  refine X.call (as := vA r :: as) (rest := rest) hk hn (fun {p l e s m args below meth c H locs cells slots mc ms ls} hF hl hR hcm hsm => ?_) kk
  obtain ⟨⟨h1, h2, h3, h4⟩, h5, h6, h7⟩ := hw
  have hts := hF.2.2.2.2.2.1
  have eA : ((vA r :: as).map (tV G)) = Value.ref (gB G + r.toNat) :: as.map (tV G) := by
    rw [List.map_cons]; congr 1; exact rfV_pos ok.1
  rw [eA]
  refine va_runV (Ts := lw_g) (b := gB G + r.toNat) (As := as.map (tV G)) (nL := y.2.2.1) ⟨hF.1, hF.2.1, hF.2.2.2.1, hF.2.2.2.2.1, hts⟩ (hC l) ⟨callB_of np hts (cB_ws h1) rfl rfl rfl (hts _ h2) (hts _ h5) h3 (rm_ok hd1 h4), hts _ h6, hts _ h7⟩ ⟨FrameB, rvok hR ok hk12 hc, fun U hU hW => ⟨by rw [eA], by rw [hU]; exact hR.moved hW.alike, hF.2.2.2.2.2.2.2.2.1.warm hW⟩⟩ rfl (by rw [List.length_map]; exact hnp) hl.1 ?_ (lv_room (by rw [vsum]; exact hr8)) hd ⟨hcm, hsm⟩
  rw [List.map_append, List.map_reverse, List.map_cons]
  show (as.map (tV G)).reverse ++ rfV G r :: rest.map (tV G) = _
  rw [rfV_pos ok.1]
theorem x_callVN {z : YY} {idx np kz nz n2 : Nat} (kd : Nat) {r : Int} (as rest : List PV) {Q' : PV → MM → Prop} (hd : decode y.2.1 pc = .ok (.invokevirtual idx, 3)) (hw : cVN y z idx np) (hst : st = as.reverse ++ vA r :: rest) (hnp : as.length = np) (hr8 : (rest.map (fun x => if isL x then 2 else 1)).sum ≤ 8) {T : u_T} (hk12 : kd < 12) (hc : vwCl[kd]? = some (z.1.cls, T, kN kd)) (hd1 : 1 ≤ d)
    (hk : kz + k ≤ k2) (hn : nz + n ≤ n2) (ok : okO M r kd) (hC : C G z (d - 1) kz nz (vA r :: as) M Q') (kk : ∀ (v : PV) (M' : MM), Q' v M' → X G y d k n (pc + 3) xs (if isU v then rest else v :: rest) M' Q) : X G y d k2 n2 pc xs st M Q := by
  subst hst
  refine X.call (as := vA r :: as) (rest := rest) hk hn (fun {p l e s m args below meth c H locs cells slots mc ms ls} hF hl hR hcm hsm => ?_) kk
  obtain ⟨⟨h1, h2, h3, h4⟩, h5, h6, h7⟩ := hw
  have hts := hF.2.2.2.2.2.1
  have hNN := hF.2.2.2.2.2.2.2.2.1
  have eA : ((vA r :: as).map (tV G)) = Value.ref (gB G + r.toNat) :: as.map (tV G) := by
    rw [List.map_cons]; congr 1; exact rfV_pos ok.1
  rw [eA]
  refine va_runVN (Ts := lw_g) (b := gB G + r.toNat) (As := as.map (tV G)) (nL := y.2.2.1) ⟨hF.1, hF.2.1, hF.2.2.2.1, hF.2.2.2.2.1, hts⟩ (hC l) ⟨va_cnB np hts (cB_ws h1) rfl rfl rfl (h5 G s hNN) (hts _ h2) h3 (rm_ok hd1 h4), hts _ h6, hts _ h7⟩ ⟨FrameB, rvok hR ok hk12 hc, fun U hU hW => ⟨by rw [eA], by rw [hU]; exact hR.moved hW.alike, hNN.warm hW⟩⟩ rfl (by rw [List.length_map]; exact hnp) hl.1 ?_ (lv_room (by rw [vsum]; exact hr8)) hd ⟨hcm, hsm⟩
  rw [List.map_append, List.map_reverse, List.map_cons]
  show (as.map (tV G)).reverse ++ rfV G r :: rest.map (tV G) = _
  rw [rfV_pos ok.1]
theorem x_callS {z : YY} {idx np kz nz n2 : Nat} (as rest : List PV) {Q' : PV → MM → Prop} (hd : decode y.2.1 pc = .ok (.invokestatic idx, 3)) (hw : cS y z idx np) (hst : st = as.reverse ++ rest) (hnp : as.length = np) (hr8 : (rest.map (fun x => if isL x then 2 else 1)).sum ≤ 8) (hd1 : 1 ≤ d)
    (hk : kz + k ≤ k2) (hn : nz + n ≤ n2) (hC : C G z (d - 1) kz nz as M Q') (kk : ∀ (v : PV) (M' : MM), Q' v M' → X G y d k n (pc + 3) xs (if isU v then rest else v :: rest) M' Q) : X G y d k2 n2 pc xs st M Q := by
  subst hst
  refine X.call (as := as) (rest := rest) hk hn (fun {p l e s m args below meth c H locs cells slots mc ms ls} hF hl hR hcm hsm => ?_) kk
  obtain ⟨⟨h1, h2, h3, h4⟩, h5, h6⟩ := hw
  have hts := hF.2.2.2.2.2.1
  refine va_runS (Ts := lw_g) (As := as.map (tV G)) (nL := y.2.2.1) ⟨hF.1, hF.2.1, hF.2.2.2.1, hF.2.2.2.2.1, hts⟩ (hC l) ⟨callB_of np hts (cB_ws h1) rfl rfl rfl (hts _ h2) (hts _ h5) h3 (rm_ok hd1 h4), hts _ h6⟩ ⟨FrameB, fun U hU hW => ⟨rfl, by rw [hU]; exact hR.moved hW.alike, hF.2.2.2.2.2.2.2.2.1.warm hW⟩⟩ rfl (by rw [List.length_map]; exact hnp) hl.1 ?_ (lv_room (by rw [vsum]; exact hr8)) hd ⟨hcm, hsm⟩
  rw [List.map_append, List.map_reverse]
theorem x_callI {z : YY} {idx np kz nz n2 : Nat} {r : Int} (as rest : List PV) {Q' : PV → MM → Prop} (hd : decode y.2.1 pc = .ok (.invokespecial idx, 3)) (hw : cI y z idx np) (hst : st = as.reverse ++ vA r :: rest) (hnp : as.length = np) (hr8 : (rest.map (fun x => if isL x then 2 else 1)).sum ≤ 8) (hd1 : 1 ≤ d)
    (hk : kz + k ≤ k2) (hn : nz + n ≤ n2) (h0 : 0 ≤ r) (hC : C G z (d - 1) kz nz (vA r :: as) M Q') (kk : ∀ (v : PV) (M' : MM), Q' v M' → X G y d k n (pc + 3) xs (if isU v then rest else v :: rest) M' Q) : X G y d k2 n2 pc xs st M Q := by
  subst hst
  refine X.call (as := vA r :: as) (rest := rest) hk hn (fun {p l e s m args below meth c H locs cells slots mc ms ls} hF hl hR hcm hsm => ?_) kk
  obtain ⟨⟨h1, h2, h3, h4⟩, h5, h6, h7, h8⟩ := hw
  have hts := hF.2.2.2.2.2.1
  have eA : ((vA r :: as).map (tV G)) = Value.ref (gB G + r.toNat) :: as.map (tV G) := by
    rw [List.map_cons]; congr 1; exact rfV_pos h0
  rw [eA]
  rw [h8] at h1
  refine va_runI (Ts := lw_g) (b := gB G + r.toNat) (As := as.map (tV G)) (nL := y.2.2.1) (bytes := z.2.1) (maxL := z.2.2.1) (n := np) ⟨hF.1, hF.2.1, hF.2.2.2.1, hF.2.2.2.2.1, hts⟩ (hC l) ⟨callB_of np hts (cB_ws (by rw [h8]; exact h1)) (by rw [wsO, h8]) rfl rfl (hts _ h2) (hts _ h5) h3 (rm_ok hd1 h4), h7, hts _ h6⟩ ⟨FrameB, fun U hU hW => ⟨by rw [eA], by rw [hU]; exact hR.moved hW.alike, hF.2.2.2.2.2.2.2.2.1.warm hW⟩⟩ rfl (by rw [List.length_map]; exact hnp) hl.1 ?_ (lv_room (by rw [vsum]; exact hr8)) hd ⟨hcm, hsm⟩
  rw [List.map_append, List.map_reverse, List.map_cons]
  show (as.map (tV G)).reverse ++ rfV G r :: rest.map (tV G) = _
  rw [rfV_pos h0]
theorem x_callIN {z : YY} {idx np kz nz n2 : Nat} {r : Int} (as rest : List PV) {Q' : PV → MM → Prop} (hd : decode y.2.1 pc = .ok (.invokespecial idx, 3)) (hw : cIN y z idx np) (hst : st = as.reverse ++ vA r :: rest) (hnp : as.length = np) (hr8 : (rest.map (fun x => if isL x then 2 else 1)).sum ≤ 8) (hd1 : 1 ≤ d)
    (hk : kz + k ≤ k2) (hn : nz + n ≤ n2) (h0 : 0 ≤ r) (hC : C G z (d - 1) kz nz (vA r :: as) M Q') (kk : ∀ (v : PV) (M' : MM), Q' v M' → X G y d k n (pc + 3) xs (if isU v then rest else v :: rest) M' Q) : X G y d k2 n2 pc xs st M Q := by
  subst hst
  refine X.call (as := vA r :: as) (rest := rest) hk hn (fun {p l e s m args below meth c H locs cells slots mc ms ls} hF hl hR hcm hsm => ?_) kk
  obtain ⟨⟨h1, h2, h3, h4⟩, h5, h6, h7, h8⟩ := hw
  have hts := hF.2.2.2.2.2.1
  have hNN := hF.2.2.2.2.2.2.2.2.1
  have eA : ((vA r :: as).map (tV G)) = Value.ref (gB G + r.toNat) :: as.map (tV G) := by
    rw [List.map_cons]; congr 1; exact rfV_pos h0
  rw [eA]
  refine va_runIN (Ts := lw_g) (b := gB G + r.toNat) (As := as.map (tV G)) (nL := y.2.2.1) (bytes := z.2.1) (maxL := z.2.2.1) (n := np) (host := "StayPlay") ⟨hF.1, hF.2.1, hF.2.2.2.1, hF.2.2.2.2.1, hts⟩ (hC l) ⟨va_cnB np hts (cB_ws h1) (by rw [wsO, h8]) rfl rfl (h5 G s hNN) (hts _ h2) h3 (rm_ok hd1 h4), h7, hts _ h6⟩ ⟨FrameB, fun U hU hW => ⟨by rw [eA], by rw [hU]; exact hR.moved hW.alike, hNN.warm hW⟩⟩ rfl (by rw [List.length_map]; exact hnp) hl.1 ?_ (lv_room (by rw [vsum]; exact hr8)) hd ⟨hcm, hsm⟩
  rw [List.map_append, List.map_reverse, List.map_cons]
  show (as.map (tV G)).reverse ++ rfV G r :: rest.map (tV G) = _
  rw [rfV_pos h0]
end R4
end
section
section R5
variable {G : GG} {y : YY} {d k k2 n pc pc2 pc3 : Nat} {xs xs' st st2 : List PV} {M M' : MM} {Q : PV → MM → Prop}
theorem x_oinit {idx : Nat} {r : Int} (rest : List PV) (hd : decode y.2.1 pc = .ok (.invokespecial idx, 3)) (hw : Cond.methodLink y.1.cls idx Lib.objectInit ∈ lw_g ∧ Cond.instanceMethod Lib.objectInit ∈ lw_g ∧ Cond.code Lib.objectInit ⟨#[0xb1]⟩ 1 none ∈ lw_g) (hr8 : (rest.map (fun x => if isL x then 2 else 1)).sum ≤ 8) (hd1 : 1 ≤ d) (h0 : 0 ≤ r) (kk : X G y d k n (pc + 3) xs rest M Q) : X G y d k n pc xs (vA r :: rest) M Q := by
  intro p l e s m args below meth c H locs cells slots mc ms ls hF hk hn hl hR hS
  have w := kk p l e s m args below meth c H locs cells slots mc ms ls hF hk hn hl hR hS
  have hts := hF.2.2.2.2.2.1
  show W p l e (rmD d mc ms) s m args below meth c H locs cells slots _ (F0 m pc ls (rfV G r :: rest.map (tV G)))
  rw [rfV_pos h0]
  have hlr := lv_room (m := m) (pc := pc) (ls := ls) (rest := Value.ref (gB G + r.toNat) :: rest.map (tV G)) (st := rest.map (tV G)) (by rw [vsum]; exact hr8)
  exact W.objInit hF.1 hF.2.1 hF.2.2.2.2.1 (hts _ hw.1) (hts _ hw.2.1) (hts _ hw.2.2) rfl (hl.1.trans hF.2.2.2.1.symm) rfl hd hd1 (by show _ ≤ 64 * d; omega) w
theorem x_getsL {idx : Nat} (hd : decode y.2.1 pc = .ok (.getstatic idx, 3)) (hw : Cond.fieldLink y.1.cls idx "StayPlay$Steps" "LIMBS" "[I" ∈ lw_g) (kk : X G y d k n (pc + 3) xs (vA (-3) :: st) M Q) : X G y d k n pc xs st M Q :=
  X.same (fun {p l e R s m args below meth c H locs cells slots Qm ls} hF hl hR hS w => by
    obtain ⟨cf, kf, fi, f, a, cell, h1, h2, h3, h4, h5, h6, h7, h8⟩ := hR.2.2.2.2.1
    exact W.gets hF.1 hF.2.1 hF.2.2.2.2.1 (hF.2.2.2.2.2.1 _ hw) h1 h2 h3 h4 h5 (fun e => by rw [e] at h6; cases h6) h7 rfl hd w) kk
theorem x_getsT {idx : Nat} (hd : decode y.2.1 pc = .ok (.getstatic idx, 3)) (hw : Cond.fieldLink y.1.cls idx "StayPlay$Digits" "TENS" "[J" ∈ lw_g) (kk : X G y d k n (pc + 3) xs (vA (-4) :: st) M Q) : X G y d k n pc xs st M Q :=
  X.same (fun {p l e R s m args below meth c H locs cells slots Qm ls} hF hl hR hS w => by
    obtain ⟨cf, kf, fi, f, a, cell, h1, h2, h3, h4, h5, h6, h7, h8⟩ := hR.2.2.2.2.2.2.1
    exact W.gets hF.1 hF.2.1 hF.2.2.2.2.1 (hF.2.2.2.2.2.1 _ hw) h1 h2 h3 h4 h5 (fun e => by rw [e] at h6; cases h6) h7 rfl hd w) kk
theorem tb_in {N : Nat} {t : Nat} {ty : FieldType} {f : Nat → Value} {U : State} {H : Heap} (hT : va_T ty t N f (gR G) U H) {i : Int} (h0 : 0 ≤ i) (h1 : i < N) (hN : N < 2147483648) : ∃ cell : Cell, H[t]? = some cell ∧ U.isArrayOf cell ty ∧ cell.vm ≠ .unknown ∧ ¬ (Int32.ofInt i < 0 ∨ cell.slots.size ≤ (Int32.ofInt i).toNatClampNeg) ∧ cell.slots[(Int32.ofInt i).toNatClampNeg]? = some (f i.toNat) := by
  obtain ⟨cell, q1, q2, q3, q4, q5, q6, q7⟩ := hT
  refine ⟨cell, q1, q2, q3, ?_, ?_⟩
  · have h := ix_in (i := i) (N := N) h0 (by omega) (by omega)
    exact fun q => h (q.imp id (fun z => Nat.le_trans q4 z))
  · rw [ixN h0 (by omega)]; exact q6 _ (by omega)
theorem x_tabL {i : Int} (hd : decode y.2.1 pc = .ok (.iaload, 1)) (h0 : 0 ≤ i) (h1 : i < 6) (kk : X G y d k n (pc + 1) xs (vI (limF i.toNat) :: st) M Q) : X G y d k n pc xs (vI i :: vA (-3) :: st) M Q :=
  X.same (fun {p l e R s m args below meth c H locs cells slots Qm ls} hF hl hR hS w => by
    obtain ⟨cell, q1, q2, q3, q4, q5⟩ := tb_in hR.2.2.2.2.2.1 h0 h1 (by decide)
    exact W.iald hF.1 hF.2.1 q1 q2 q3 q4 q5 rfl rfl hd w) kk
theorem x_tabT {i : Int} (hd : decode y.2.1 pc = .ok (.laload, 1)) (h0 : 0 ≤ i) (h1 : i < 8) (kk : X G y d k n (pc + 1) xs (vL (tenF i.toNat) :: st) M Q) : X G y d k n pc xs (vI i :: vA (-4) :: st) M Q :=
  X.same (fun {p l e R s m args below meth c H locs cells slots Qm ls} hF hl hR hS w => by
    obtain ⟨cell, q1, q2, q3, q4, q5⟩ := tb_in hR.2.2.2.2.2.2.2.1 h0 h1 (by decide)
    exact W.lald hF.1 hF.2.1 q1 q2 q3 q4 q5 rfl rfl hd w) kk
theorem x_scr {i : Int} (hd : decode y.2.1 pc = .ok (.iaload, 1)) (hL : gL G < 2147483648) (h0 : 0 ≤ i) (h1 : i < gL G) (kk : X G y d k n (pc + 1) xs (vI (gX G i.toNat) :: st) M Q) : X G y d k n pc xs (vI i :: vA (-2) :: st) M Q :=
  X.same (fun {p l e R s m args below meth c H locs cells slots Qm ls} hF hl hR hS w => by
    obtain ⟨cell, q1, q2, q3, q4, q5⟩ := tb_in hR.2.2.2.2.2.2.2.2.2.2 h0 h1 hL
    exact W.iald hF.1 hF.2.1 q1 q2 q3 q4 q5 rfl rfl hd w) kk
theorem x_scrlen (hd : decode y.2.1 pc = .ok (.arraylength, 1)) (kk : X G y d k n (pc + 1) xs (vI (gL G) :: st) M Q) : X G y d k n pc xs (vA (-2) :: st) M Q :=
  X.same (fun {p l e R s m args below meth c H locs cells slots Qm ls} hF hl hR hS w => by
    obtain ⟨cell, q1, q2, q3, q4, q5, q6, q7⟩ := hR.2.2.2.2.2.2.2.2.2.2
    refine W.alen (n := Int32.ofInt (gL G)) hF.1 hF.2.1 q1 q2 ?_ rfl rfl hd w
    rw [q5, Int32.ofInt_eq_ofNat]) kk
theorem X.writeG {r : Int} (h0 : 0 ≤ r) (hN : mN M' = mN M) (hT : ∀ b, mT M' b = mT M b) (hr : ∀ b : Int, b ≠ r → ∀ j, rd M' b j = rd M b j) (hd1 : 1 ≤ d)
    (h : ∀ {p : Program} {l : Launch} {e : Env} {R : Room} {s : State} {m : MethodId} {args : Array Value} {below : List Frame} {meth : Method} {c : Code} {H : Heap} {locs : List Loc} {cells slots : Nat} {Qm : State → Prop} {ls : Array Slot},
      Fx G y p s m args meth c → LV G ls y.2.2.1 xs → Rep G M s H → va_S (gR G) s.heap H locs → 1 ≤ R.frames → 64 ≤ R.locals → (∀ (H1 : Heap) (L : List Loc), (∀ q ∈ L, q.base = gB G + r.toNat) → H1.size = H.size → (∀ q : Nat, q ≠ gB G + r.toNat → H1[q]? = H[q]?) → (r < mN M → cOK G H1 (gB G + r.toNat) (mT M r) (rd M' r)) →
        W p l e R s m args below meth c H1 (locs ++ L) cells slots Qm (F0 m pc2 ls (st2.map (tV G)))) → W p l e R s m args below meth c H locs cells slots Qm (F0 m pc ls (st.map (tV G))))
    (kk : X G y d k n pc2 xs st2 M' Q) : X G y d k n pc xs st M Q := by
  intro p l e s m args below meth c H locs cells slots mc ms ls hF hk hn hl hR hS
  refine h hF hl hR hS hd1 (by show 64 ≤ 64 * d; omega) (fun H1 L hL z oq he => kk p l e s m args below meth c H1 _ cells slots mc ms ls hF hk hn hl (hR.keep h0 hN hT hr z oq he) ⟨by rw [z]; exact hS.1, fun q h1 h2 => ?_, fun q hq => ?_⟩)
  · rw [oq q (fun e => h2 (by show gB G ≤ q; omega))]; exact hS.2.1 q h1 h2
  · rcases List.mem_append.mp hq with h | h
    · exact hS.2.2 q h
    · show gB G ≤ q.base; rw [hL q h]; omega
/-- System.arraycopy -/
theorem x_copy {idx : Nat} {a b i j c : Int} (kd : Nat) (rest : List PV) (hkd : kd = 20 ∨ kd = 21 ∨ kd = 24) (hd : decode y.2.1 pc = .ok (.invokestatic idx, 3)) (hw : Cond.methodLink y.1.cls idx arraycopyName ∈ lw_g ∧ Cond.native arraycopyName ∈ lw_g ∧ Cond.static arraycopyName ∈ lw_g ∧ Cond.initialized "java/lang/System" ∈ lw_g) (hr8 : (rest.map (fun x => if isL x then 2 else 1)).sum ≤ 8) (hd1 : 1 ≤ d)
    (oa : okO M a kd) (ob : okO M b kd) (hi : 0 ≤ i) (hj : 0 ≤ j) (hc : 0 ≤ c) (h1 : i + c ≤ (mT M a).2) (h2 : j + c ≤ (mT M b).2) (hel : kd = 24 → ∀ q, i ≤ q → q < i + c → rd M a q = -1 ∨ okO M (rd M a q) 4)
    (kk : X G y d k n (pc + 3) xs rest (cpM M a i b j c) Q) : X G y d k n pc xs (vI c :: vI j :: vA b :: vI i :: vA a :: rest) M Q :=
  X.writeG (r := b) (M' := cpM M a i b j c) ob.1 rfl (fun _ => rfl) (fun q hq j' => by rw [rd_cp, if_neg (fun z => hq z.1)]) hd1 (fun {p l e R s m args below meth cc H locs cells slots Qm ls} hF hl hR hS hfr hlo w => by
    have hts := hF.2.2.2.2.2.1
    obtain ⟨a1, a2, a3⟩ := hR.arr oa.1 oa.2.1 oa.2.2 (by omega)
    obtain ⟨b1, b2, b3⟩ := hR.arr ob.1 ob.2.1 ob.2.2 (by omega)
    have hK := hR.2.2.2.1
    have hKd := KT_at hK (kd := kd) (by omega) (by omega)
    obtain ⟨-, k0, hk0, cm0, hkk0⟩ := hKd.1 (mT M a).2.toNat (fun j => fV G (aT kd) (rd M a j))
    show W p l e R s m args below meth cc H locs cells slots Qm (F0 m pc ls (.int (Int32.ofInt c) :: .int (Int32.ofInt j) :: rfV G b :: .int (Int32.ofInt i) :: rfV G a :: rest.map (tV G)))
    rw [rfV_pos oa.1, rfV_pos ob.1]
    have ei := ixN hi (by omega)
    have ej := ixN hj (by omega)
    have ec := ixN hc (by omega)
    have ti := inR_to (a := i) ⟨by omega, by omega⟩
    have tj := inR_to (a := j) ⟨by omega, by omega⟩
    have tc := inR_to (a := c) ⟨by omega, by omega⟩
    have ng : ∀ {z : Int}, 0 ≤ z → z < 2147483648 → ¬ Int32.ofInt z < 0 := fun hz hz2 q => by
      have := (lt_32 (b := 0) ⟨by omega, by omega⟩ inR_0).mp q
      omega
    intro T hT XX
    obtain ⟨vm', X', step⟩ := XX.arraycopy hF.1 hF.2.2.2.2.1 (hts _ hw.1) (hts _ hw.2.1) (hts _ hw.2.2.1) (hts _ hw.2.2.2) (src := gB G + a.toNat) (dst := gB G + b.toNat) (cs := arrV (gA G kd) (mT M a).2.toNat (fun j => fV G (aT kd) (rd M a j))) (cd := arrV (gA G kd) (mT M b).2.toNat (fun j => fV G (aT kd) (rd M b j))) (srcPos := Int32.ofInt i) (destPos := Int32.ofInt j) (n := Int32.ofInt c) (by rw [hT]; exact a3) (by rw [hT]; exact b3)
      (fun _ h => by cases h) (fun _ h => by cases h) (fun h => by cases h) (fun h => by cases h) hk0 hk0 hkk0 hkk0 (by rcases hkd with rfl | rfl | rfl <;> rfl) (ng hi (by omega)) (ng hj (by omega)) (ng hc (by omega))
      (by rw [ti, tc, arrV_size]; omega) (by rw [tj, tc, arrV_size]; omega)
      (fun vm₁ hal q hq => by
        rw [ec] at hq
        have e : (arrV (gA G kd) (mT M a).2.toNat (fun j => fV G (aT kd) (rd M a j))).slots.getD ((Int32.ofInt i).toNatClampNeg + q) .null = fV G (aT kd) (rd M a (i + q)) := by
          rw [ei, Array.getD_eq_getD_getElem?, arrV_read _ _ (by omega)]
          show fV G (aT kd) (rd M a ((i.toNat + q : Nat) : Int)) = _
          rw [show ((i.toNat + q : Nat) : Int) = i + q by omega]
        rw [e]
        rcases hkd with rfl | rfl | rfl
        · exact ⟨rfl, trivial⟩
        · exact ⟨rfl, trivial⟩
        · rcases hel rfl (i + q) (by omega) (by omega) with z | z
          · rw [z]; exact ⟨rfl, trivial⟩
          · obtain ⟨cellV, g1, g2, g3, -⟩ := hR.obj z (by decide)
            have hcls := (hK.1 4 _ rfl).2
            obtain ⟨kA, comp, r1, r2, r3, -⟩ := hKd.2
            cases hk0.symm.trans r1
            cases hkk0.symm.trans r2
            have hcomp := Option.some.inj (r3.symm.trans hcls.1)
            obtain ⟨kC, hkC, -⟩ := hcls.2
            obtain ⟨kC', hkC', -⟩ := hal.2.2 _ _ hkC
            rw [show fV G (aT 24) (rd M a (i + q)) = rfV G (rd M a (i + q)) from rfl, rfV_pos z.1]
            refine ⟨rfl, cellV, (show T.heap[_]? = some cellV by rw [hT]; exact g1), (fun q h => by rw [g3] at h; cases h), ⟨kC', by rw [g2]; exact hkC'⟩, ⟨kC', by rw [hcomp]; exact hkC'⟩, ?_⟩
            show vm₁.assignable _ _ = true
            rw [hal.assignable, g2, hcomp]
            exact va_assign hcls)
      (g := F0 m pc ls (.int (Int32.ofInt c) :: .int (Int32.ofInt j) :: .ref (gB G + b.toNat) :: .int (Int32.ofInt i) :: .ref (gB G + a.toNat) :: rest.map (tV G))) rfl (hl.1.trans hF.2.2.2.1.symm) (rest := rest.map (tV G)) rfl (by rw [hF.2.1]; exact hd) hfr (by
        have hz : nativeFrameWords "java/lang/System" "arraycopy" 5 ≤ 40 := by decide +kernel
        rw [← vsum G] at hr8
        show 2 * 0 + _ + _ ≤ _
        omega)
    have e1 : copied (arrV (gA G kd) (mT M a).2.toNat (fun j => fV G (aT kd) (rd M a j))) (arrV (gA G kd) (mT M b).2.toNat (fun j => fV G (aT kd) (rd M b j))) (Int32.ofInt i) (Int32.ofInt j) (Int32.ofInt c) = arrV (gA G kd) (mT M b).2.toNat (fun q => fV G (aT kd) (rd (cpM M a i b j c) b q)) := by
      refine (va_copied (fun z : Int => fV G (aT kd) z) (gA G kd) (gA G kd) (fun q => rd M a q) (fun q => rd M b q) (by rw [ei, ec]; omega)).trans ?_
      congr 1
      funext q
      congr 1
      rw [ei, ej, ec, rd_cp]
      simp only [va_cpy]
      by_cases hq : j.toNat ≤ q ∧ q < j.toNat + c.toNat
      · rw [if_pos hq, if_pos ⟨trivial, by omega, by omega⟩]
        congr 1
        omega
      · rw [if_neg hq, if_neg (fun z => hq ⟨by omega, by omega⟩)]
    rw [e1] at X' step
    have hlt : gB G + b.toNat < H.size := (Array.getElem?_eq_some_iff.mp b3).1
    have hheap : ((T.setVm vm').setCell (gB G + b.toNat) (arrV (gA G kd) (mT M b).2.toNat (fun q => fV G (aT kd) (rd (cpM M a i b j c) b q)))).heap = H.setIfInBounds (gB G + b.toNat) (arrV (gA G kd) (mT M b).2.toNat (fun q => fV G (aT kd) (rd (cpM M a i b j c) b q))) := by rw [← hT]; rfl
    obtain ⟨t, t1, t2⟩ := w _ _ (fun q hq => by obtain ⟨z, -, hz⟩ := List.mem_map.mp hq; rw [← hz]) (by rw [hheap]; simp) (fun q hq => by rw [hheap]; simp [Array.getElem?_setIfInBounds, Ne.symm hq]) (fun _ => by
      unfold cOK
      rw [ob.2.2, if_neg (by omega)]
      exact ⟨by omega, by omega, b1, b2, by rw [hheap]; simp [Array.getElem?_setIfInBounds, hlt]⟩) _ rfl X'
    exact ⟨t, step t t1, t2⟩) kk
end R5
end
