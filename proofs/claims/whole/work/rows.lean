section
-- ===== PART A: goes FIRST, ahead of the names: the tables' words, and 'selects' of the private methods out of them =====
/-- a private method of a class that the tables say can be made, by its rows of tables_1 -/
def lw_okq (q : MethodName × Nat) : Prop := (q.1.cls ≠ "java/lang/invoke/MethodHandle" ∧ q.1.cls ≠ "java/lang/invoke/VarHandle") ∧ Cond.instantiable q.1.cls q.2 ∈ tables_1 ∧ Cond.privateMethod q.1 ∈ tables_1 ∧ Cond.instanceMethod q.1 ∈ tables_1
theorem lw_p0 : lw_okq (⟨"DeliveryRound", "emptySlots", "()V"⟩, 12) := ⟨⟨by decide +kernel, by decide +kernel⟩, List.mem_of_getElem? (i := 22) (by decide +kernel), List.mem_of_getElem? (i := 620) (by decide +kernel), List.mem_of_getElem? (i := 621) (by decide +kernel)⟩
theorem lw_p1 : lw_okq (⟨"DeliveryRound", "isHouse", "(I)Z"⟩, 12) := ⟨⟨by decide +kernel, by decide +kernel⟩, List.mem_of_getElem? (i := 22) (by decide +kernel), List.mem_of_getElem? (i := 652) (by decide +kernel), List.mem_of_getElem? (i := 653) (by decide +kernel)⟩
theorem lw_p2 : lw_okq (⟨"DeliveryRound", "isStreet", "(I)Z"⟩, 12) := ⟨⟨by decide +kernel, by decide +kernel⟩, List.mem_of_getElem? (i := 22) (by decide +kernel), List.mem_of_getElem? (i := 667) (by decide +kernel), List.mem_of_getElem? (i := 668) (by decide +kernel)⟩
theorem lw_p3 : lw_okq (⟨"DeliveryRound", "isNode", "(I)Z"⟩, 12) := ⟨⟨by decide +kernel, by decide +kernel⟩, List.mem_of_getElem? (i := 22) (by decide +kernel), List.mem_of_getElem? (i := 675) (by decide +kernel), List.mem_of_getElem? (i := 676) (by decide +kernel)⟩
theorem lw_p4 : lw_okq (⟨"DeliveryRound", "chooseByHabit", "()V"⟩, 12) := ⟨⟨by decide +kernel, by decide +kernel⟩, List.mem_of_getElem? (i := 22) (by decide +kernel), List.mem_of_getElem? (i := 737) (by decide +kernel), List.mem_of_getElem? (i := 738) (by decide +kernel)⟩
theorem lw_p5 : lw_okq (⟨"DeliveryRound", "horseChoice", "(II)I"⟩, 12) := ⟨⟨by decide +kernel, by decide +kernel⟩, List.mem_of_getElem? (i := 22) (by decide +kernel), List.mem_of_getElem? (i := 745) (by decide +kernel), List.mem_of_getElem? (i := 746) (by decide +kernel)⟩
theorem lw_p6 : lw_okq (⟨"DeliveryRound", "chooseRoute", "(I)Z"⟩, 12) := ⟨⟨by decide +kernel, by decide +kernel⟩, List.mem_of_getElem? (i := 22) (by decide +kernel), List.mem_of_getElem? (i := 833) (by decide +kernel), List.mem_of_getElem? (i := 834) (by decide +kernel)⟩
theorem lw_p7 : lw_okq (⟨"DeliveryRound", "isVisit", "(I)Z"⟩, 12) := ⟨⟨by decide +kernel, by decide +kernel⟩, List.mem_of_getElem? (i := 22) (by decide +kernel), List.mem_of_getElem? (i := 920) (by decide +kernel), List.mem_of_getElem? (i := 921) (by decide +kernel)⟩
theorem lw_p8 : lw_okq (⟨"DeliveryRound", "beginChange", "()V"⟩, 12) := ⟨⟨by decide +kernel, by decide +kernel⟩, List.mem_of_getElem? (i := 22) (by decide +kernel), List.mem_of_getElem? (i := 940) (by decide +kernel), List.mem_of_getElem? (i := 941) (by decide +kernel)⟩
theorem lw_p9 : lw_okq (⟨"DeliveryRound", "settleAccounts", "(LDeliveryRound$Log;)V"⟩, 12) := ⟨⟨by decide +kernel, by decide +kernel⟩, List.mem_of_getElem? (i := 22) (by decide +kernel), List.mem_of_getElem? (i := 950) (by decide +kernel), List.mem_of_getElem? (i := 951) (by decide +kernel)⟩
theorem lw_p10 : lw_okq (⟨"DeliveryRound", "learnHabits", "(LDeliveryRound$Log;)V"⟩, 12) := ⟨⟨by decide +kernel, by decide +kernel⟩, List.mem_of_getElem? (i := 22) (by decide +kernel), List.mem_of_getElem? (i := 954) (by decide +kernel), List.mem_of_getElem? (i := 955) (by decide +kernel)⟩
theorem lw_p11 : lw_okq (⟨"DeliveryRoundModel", "clearLedger", "()V"⟩, 45) := ⟨⟨by decide +kernel, by decide +kernel⟩, List.mem_of_getElem? (i := 999) (by decide +kernel), List.mem_of_getElem? (i := 1005) (by decide +kernel), List.mem_of_getElem? (i := 1006) (by decide +kernel)⟩
theorem lw_p12 : lw_okq (⟨"DeliveryRoundModel", "appendInt", "(I)V"⟩, 45) := ⟨⟨by decide +kernel, by decide +kernel⟩, List.mem_of_getElem? (i := 999) (by decide +kernel), List.mem_of_getElem? (i := 1149) (by decide +kernel), List.mem_of_getElem? (i := 1150) (by decide +kernel)⟩
theorem lw_p13 : lw_okq (⟨"DeliveryRoundModel", "nextToken", "()V"⟩, 45) := ⟨⟨by decide +kernel, by decide +kernel⟩, List.mem_of_getElem? (i := 999) (by decide +kernel), List.mem_of_getElem? (i := 1160) (by decide +kernel), List.mem_of_getElem? (i := 1161) (by decide +kernel)⟩
theorem lw_p14 : lw_okq (⟨"DeliveryRoundModel", "byteAt", "(I)I"⟩, 45) := ⟨⟨by decide +kernel, by decide +kernel⟩, List.mem_of_getElem? (i := 999) (by decide +kernel), List.mem_of_getElem? (i := 1164) (by decide +kernel), List.mem_of_getElem? (i := 1165) (by decide +kernel)⟩
theorem lw_p15 : lw_okq (⟨"DeliveryRoundModel", "statement", "()V"⟩, 45) := ⟨⟨by decide +kernel, by decide +kernel⟩, List.mem_of_getElem? (i := 999) (by decide +kernel), List.mem_of_getElem? (i := 1172) (by decide +kernel), List.mem_of_getElem? (i := 1173) (by decide +kernel)⟩
def lw_privs_1 : List (MethodName × Nat) := [(⟨"DeliveryRound", "emptySlots", "()V"⟩, 12), (⟨"DeliveryRound", "isHouse", "(I)Z"⟩, 12), (⟨"DeliveryRound", "isStreet", "(I)Z"⟩, 12), (⟨"DeliveryRound", "isNode", "(I)Z"⟩, 12), (⟨"DeliveryRound", "chooseByHabit", "()V"⟩, 12), (⟨"DeliveryRound", "horseChoice", "(II)I"⟩, 12), (⟨"DeliveryRound", "chooseRoute", "(I)Z"⟩, 12), (⟨"DeliveryRound", "isVisit", "(I)Z"⟩, 12), (⟨"DeliveryRound", "beginChange", "()V"⟩, 12), (⟨"DeliveryRound", "settleAccounts", "(LDeliveryRound$Log;)V"⟩, 12), (⟨"DeliveryRound", "learnHabits", "(LDeliveryRound$Log;)V"⟩, 12), (⟨"DeliveryRoundModel", "clearLedger", "()V"⟩, 45), (⟨"DeliveryRoundModel", "appendInt", "(I)V"⟩, 45), (⟨"DeliveryRoundModel", "nextToken", "()V"⟩, 45), (⟨"DeliveryRoundModel", "byteAt", "(I)I"⟩, 45), (⟨"DeliveryRoundModel", "statement", "()V"⟩, 45)]
theorem lw_r1 : ∀ q ∈ lw_privs_1, lw_okq q := List.forall_mem_cons.mpr ⟨lw_p0, List.forall_mem_cons.mpr ⟨lw_p1, List.forall_mem_cons.mpr ⟨lw_p2, List.forall_mem_cons.mpr ⟨lw_p3, List.forall_mem_cons.mpr ⟨lw_p4, List.forall_mem_cons.mpr ⟨lw_p5, List.forall_mem_cons.mpr ⟨lw_p6, List.forall_mem_cons.mpr ⟨lw_p7, List.forall_mem_cons.mpr ⟨lw_p8, List.forall_mem_cons.mpr ⟨lw_p9, List.forall_mem_cons.mpr ⟨lw_p10, List.forall_mem_cons.mpr ⟨lw_p11, List.forall_mem_cons.mpr ⟨lw_p12, List.forall_mem_cons.mpr ⟨lw_p13, List.forall_mem_cons.mpr ⟨lw_p14, List.forall_mem_cons.mpr ⟨lw_p15, fun _ h => absurd h List.not_mem_nil⟩⟩⟩⟩⟩⟩⟩⟩⟩⟩⟩⟩⟩⟩⟩⟩
theorem lw_p16 : lw_okq (⟨"DeliveryRoundModel", "is", "(Ljava/lang/String;)Z"⟩, 45) := ⟨⟨by decide +kernel, by decide +kernel⟩, List.mem_of_getElem? (i := 999) (by decide +kernel), List.mem_of_getElem? (i := 1177) (by decide +kernel), List.mem_of_getElem? (i := 1178) (by decide +kernel)⟩
theorem lw_p17 : lw_okq (⟨"DeliveryRoundModel", "readStreet", "()V"⟩, 45) := ⟨⟨by decide +kernel, by decide +kernel⟩, List.mem_of_getElem? (i := 999) (by decide +kernel), List.mem_of_getElem? (i := 1183) (by decide +kernel), List.mem_of_getElem? (i := 1184) (by decide +kernel)⟩
theorem lw_p18 : lw_okq (⟨"DeliveryRoundModel", "must", "(ZI)Z"⟩, 45) := ⟨⟨by decide +kernel, by decide +kernel⟩, List.mem_of_getElem? (i := 999) (by decide +kernel), List.mem_of_getElem? (i := 1187) (by decide +kernel), List.mem_of_getElem? (i := 1188) (by decide +kernel)⟩
theorem lw_p19 : lw_okq (⟨"DeliveryRoundModel", "number", "(II)I"⟩, 45) := ⟨⟨by decide +kernel, by decide +kernel⟩, List.mem_of_getElem? (i := 999) (by decide +kernel), List.mem_of_getElem? (i := 1191) (by decide +kernel), List.mem_of_getElem? (i := 1192) (by decide +kernel)⟩
theorem lw_p20 : lw_okq (⟨"DeliveryRoundModel", "isJoined", "(III)Z"⟩, 45) := ⟨⟨by decide +kernel, by decide +kernel⟩, List.mem_of_getElem? (i := 999) (by decide +kernel), List.mem_of_getElem? (i := 1195) (by decide +kernel), List.mem_of_getElem? (i := 1196) (by decide +kernel)⟩
theorem lw_p21 : lw_okq (⟨"DeliveryRoundModel", "readHouse", "()V"⟩, 45) := ⟨⟨by decide +kernel, by decide +kernel⟩, List.mem_of_getElem? (i := 999) (by decide +kernel), List.mem_of_getElem? (i := 1201) (by decide +kernel), List.mem_of_getElem? (i := 1202) (by decide +kernel)⟩
theorem lw_p22 : lw_okq (⟨"DeliveryRoundModel", "once", "(I)V"⟩, 45) := ⟨⟨by decide +kernel, by decide +kernel⟩, List.mem_of_getElem? (i := 999) (by decide +kernel), List.mem_of_getElem? (i := 1206) (by decide +kernel), List.mem_of_getElem? (i := 1207) (by decide +kernel)⟩
theorem lw_p23 : lw_okq (⟨"DeliveryRoundModel", "isHouse", "(I)Z"⟩, 45) := ⟨⟨by decide +kernel, by decide +kernel⟩, List.mem_of_getElem? (i := 999) (by decide +kernel), List.mem_of_getElem? (i := 1240) (by decide +kernel), List.mem_of_getElem? (i := 1241) (by decide +kernel)⟩
theorem lw_p24 : lw_okq (⟨"DeliveryRoundModel", "isStreet", "(I)Z"⟩, 45) := ⟨⟨by decide +kernel, by decide +kernel⟩, List.mem_of_getElem? (i := 999) (by decide +kernel), List.mem_of_getElem? (i := 1253) (by decide +kernel), List.mem_of_getElem? (i := 1254) (by decide +kernel)⟩
theorem lw_p25 : lw_okq (⟨"DeliveryRoundModel", "isNode", "(I)Z"⟩, 45) := ⟨⟨by decide +kernel, by decide +kernel⟩, List.mem_of_getElem? (i := 999) (by decide +kernel), List.mem_of_getElem? (i := 1261) (by decide +kernel), List.mem_of_getElem? (i := 1262) (by decide +kernel)⟩
theorem lw_p26 : lw_okq (⟨"DeliveryRoundModel", "arrivalOf", "(III)I"⟩, 45) := ⟨⟨by decide +kernel, by decide +kernel⟩, List.mem_of_getElem? (i := 999) (by decide +kernel), List.mem_of_getElem? (i := 1266) (by decide +kernel), List.mem_of_getElem? (i := 1267) (by decide +kernel)⟩
theorem lw_p27 : lw_okq (⟨"DeliveryRoundModel", "layArrivals", "(II)V"⟩, 45) := ⟨⟨by decide +kernel, by decide +kernel⟩, List.mem_of_getElem? (i := 999) (by decide +kernel), List.mem_of_getElem? (i := 1270) (by decide +kernel), List.mem_of_getElem? (i := 1271) (by decide +kernel)⟩
theorem lw_p28 : lw_okq (⟨"DeliveryRoundModel", "through", "(II)I"⟩, 45) := ⟨⟨by decide +kernel, by decide +kernel⟩, List.mem_of_getElem? (i := 999) (by decide +kernel), List.mem_of_getElem? (i := 1275) (by decide +kernel), List.mem_of_getElem? (i := 1276) (by decide +kernel)⟩
theorem lw_p29 : lw_okq (⟨"DeliveryRoundModel", "demandOf", "(I)I"⟩, 45) := ⟨⟨by decide +kernel, by decide +kernel⟩, List.mem_of_getElem? (i := 999) (by decide +kernel), List.mem_of_getElem? (i := 1284) (by decide +kernel), List.mem_of_getElem? (i := 1285) (by decide +kernel)⟩
theorem lw_p30 : lw_okq (⟨"DeliveryRoundModel", "totalOf", "()I"⟩, 45) := ⟨⟨by decide +kernel, by decide +kernel⟩, List.mem_of_getElem? (i := 999) (by decide +kernel), List.mem_of_getElem? (i := 1292) (by decide +kernel), List.mem_of_getElem? (i := 1293) (by decide +kernel)⟩
theorem lw_p31 : lw_okq (⟨"DeliveryRoundModel", "stopSet", "()I"⟩, 45) := ⟨⟨by decide +kernel, by decide +kernel⟩, List.mem_of_getElem? (i := 999) (by decide +kernel), List.mem_of_getElem? (i := 1300) (by decide +kernel), List.mem_of_getElem? (i := 1301) (by decide +kernel)⟩
def lw_privs_2 : List (MethodName × Nat) := [(⟨"DeliveryRoundModel", "is", "(Ljava/lang/String;)Z"⟩, 45), (⟨"DeliveryRoundModel", "readStreet", "()V"⟩, 45), (⟨"DeliveryRoundModel", "must", "(ZI)Z"⟩, 45), (⟨"DeliveryRoundModel", "number", "(II)I"⟩, 45), (⟨"DeliveryRoundModel", "isJoined", "(III)Z"⟩, 45), (⟨"DeliveryRoundModel", "readHouse", "()V"⟩, 45), (⟨"DeliveryRoundModel", "once", "(I)V"⟩, 45), (⟨"DeliveryRoundModel", "isHouse", "(I)Z"⟩, 45), (⟨"DeliveryRoundModel", "isStreet", "(I)Z"⟩, 45), (⟨"DeliveryRoundModel", "isNode", "(I)Z"⟩, 45), (⟨"DeliveryRoundModel", "arrivalOf", "(III)I"⟩, 45), (⟨"DeliveryRoundModel", "layArrivals", "(II)V"⟩, 45), (⟨"DeliveryRoundModel", "through", "(II)I"⟩, 45), (⟨"DeliveryRoundModel", "demandOf", "(I)I"⟩, 45), (⟨"DeliveryRoundModel", "totalOf", "()I"⟩, 45), (⟨"DeliveryRoundModel", "stopSet", "()I"⟩, 45)]
theorem lw_r2 : ∀ q ∈ lw_privs_2, lw_okq q := List.forall_mem_cons.mpr ⟨lw_p16, List.forall_mem_cons.mpr ⟨lw_p17, List.forall_mem_cons.mpr ⟨lw_p18, List.forall_mem_cons.mpr ⟨lw_p19, List.forall_mem_cons.mpr ⟨lw_p20, List.forall_mem_cons.mpr ⟨lw_p21, List.forall_mem_cons.mpr ⟨lw_p22, List.forall_mem_cons.mpr ⟨lw_p23, List.forall_mem_cons.mpr ⟨lw_p24, List.forall_mem_cons.mpr ⟨lw_p25, List.forall_mem_cons.mpr ⟨lw_p26, List.forall_mem_cons.mpr ⟨lw_p27, List.forall_mem_cons.mpr ⟨lw_p28, List.forall_mem_cons.mpr ⟨lw_p29, List.forall_mem_cons.mpr ⟨lw_p30, List.forall_mem_cons.mpr ⟨lw_p31, fun _ h => absurd h List.not_mem_nil⟩⟩⟩⟩⟩⟩⟩⟩⟩⟩⟩⟩⟩⟩⟩⟩
theorem lw_p32 : lw_okq (⟨"DeliveryRoundModel", "habitOf", "(II)I"⟩, 45) := ⟨⟨by decide +kernel, by decide +kernel⟩, List.mem_of_getElem? (i := 999) (by decide +kernel), List.mem_of_getElem? (i := 1308) (by decide +kernel), List.mem_of_getElem? (i := 1309) (by decide +kernel)⟩
theorem lw_p33 : lw_okq (⟨"DeliveryRoundModel", "layHorse", "()V"⟩, 45) := ⟨⟨by decide +kernel, by decide +kernel⟩, List.mem_of_getElem? (i := 999) (by decide +kernel), List.mem_of_getElem? (i := 1316) (by decide +kernel), List.mem_of_getElem? (i := 1317) (by decide +kernel)⟩
theorem lw_p34 : lw_okq (⟨"DeliveryRoundModel", "stopAt", "(I)I"⟩, 45) := ⟨⟨by decide +kernel, by decide +kernel⟩, List.mem_of_getElem? (i := 999) (by decide +kernel), List.mem_of_getElem? (i := 1320) (by decide +kernel), List.mem_of_getElem? (i := 1321) (by decide +kernel)⟩
theorem lw_p35 : lw_okq (⟨"DeliveryRoundModel", "layFastest", "()Z"⟩, 45) := ⟨⟨by decide +kernel, by decide +kernel⟩, List.mem_of_getElem? (i := 999) (by decide +kernel), List.mem_of_getElem? (i := 1328) (by decide +kernel), List.mem_of_getElem? (i := 1329) (by decide +kernel)⟩
theorem lw_p36 : lw_okq (⟨"DeliveryRoundModel", "bestEnd", "(III)I"⟩, 45) := ⟨⟨by decide +kernel, by decide +kernel⟩, List.mem_of_getElem? (i := 999) (by decide +kernel), List.mem_of_getElem? (i := 1332) (by decide +kernel), List.mem_of_getElem? (i := 1333) (by decide +kernel)⟩
theorem lw_p37 : lw_okq (⟨"DeliveryRoundModel", "stayAt", "(I)I"⟩, 45) := ⟨⟨by decide +kernel, by decide +kernel⟩, List.mem_of_getElem? (i := 999) (by decide +kernel), List.mem_of_getElem? (i := 1336) (by decide +kernel), List.mem_of_getElem? (i := 1337) (by decide +kernel)⟩
theorem lw_p38 : lw_okq (⟨"DeliveryRoundModel", "goesOn", "(III)V"⟩, 45) := ⟨⟨by decide +kernel, by decide +kernel⟩, List.mem_of_getElem? (i := 999) (by decide +kernel), List.mem_of_getElem? (i := 1340) (by decide +kernel), List.mem_of_getElem? (i := 1341) (by decide +kernel)⟩
theorem lw_p39 : lw_okq (⟨"DeliveryRoundModel", "layOrder", "(I)Z"⟩, 45) := ⟨⟨by decide +kernel, by decide +kernel⟩, List.mem_of_getElem? (i := 999) (by decide +kernel), List.mem_of_getElem? (i := 1353) (by decide +kernel), List.mem_of_getElem? (i := 1354) (by decide +kernel)⟩
theorem lw_p40 : lw_okq (⟨"DeliveryRoundModel", "layByNumber", "()V"⟩, 45) := ⟨⟨by decide +kernel, by decide +kernel⟩, List.mem_of_getElem? (i := 999) (by decide +kernel), List.mem_of_getElem? (i := 1357) (by decide +kernel), List.mem_of_getElem? (i := 1358) (by decide +kernel)⟩
theorem lw_p41 : lw_okq (⟨"DeliveryRoundModel", "playRound", "()V"⟩, 45) := ⟨⟨by decide +kernel, by decide +kernel⟩, List.mem_of_getElem? (i := 999) (by decide +kernel), List.mem_of_getElem? (i := 1361) (by decide +kernel), List.mem_of_getElem? (i := 1362) (by decide +kernel)⟩
theorem lw_p42 : lw_okq (⟨"DeliveryRoundModel", "leaveOut", "(I)V"⟩, 45) := ⟨⟨by decide +kernel, by decide +kernel⟩, List.mem_of_getElem? (i := 999) (by decide +kernel), List.mem_of_getElem? (i := 1365) (by decide +kernel), List.mem_of_getElem? (i := 1366) (by decide +kernel)⟩
theorem lw_p43 : lw_okq (⟨"DeliveryRoundModel", "visitStop", "(I)V"⟩, 45) := ⟨⟨by decide +kernel, by decide +kernel⟩, List.mem_of_getElem? (i := 999) (by decide +kernel), List.mem_of_getElem? (i := 1369) (by decide +kernel), List.mem_of_getElem? (i := 1370) (by decide +kernel)⟩
theorem lw_p44 : lw_okq (⟨"DeliveryRoundModel", "reload", "(I)V"⟩, 45) := ⟨⟨by decide +kernel, by decide +kernel⟩, List.mem_of_getElem? (i := 999) (by decide +kernel), List.mem_of_getElem? (i := 1373) (by decide +kernel), List.mem_of_getElem? (i := 1374) (by decide +kernel)⟩
theorem lw_p45 : lw_okq (⟨"DeliveryRoundModel", "stillWanted", "()I"⟩, 45) := ⟨⟨by decide +kernel, by decide +kernel⟩, List.mem_of_getElem? (i := 999) (by decide +kernel), List.mem_of_getElem? (i := 1377) (by decide +kernel), List.mem_of_getElem? (i := 1378) (by decide +kernel)⟩
theorem lw_p46 : lw_okq (⟨"DeliveryRoundModel", "visit", "(I)V"⟩, 45) := ⟨⟨by decide +kernel, by decide +kernel⟩, List.mem_of_getElem? (i := 999) (by decide +kernel), List.mem_of_getElem? (i := 1381) (by decide +kernel), List.mem_of_getElem? (i := 1382) (by decide +kernel)⟩
theorem lw_p47 : lw_okq (⟨"DeliveryRoundModel", "keepState", "()V"⟩, 45) := ⟨⟨by decide +kernel, by decide +kernel⟩, List.mem_of_getElem? (i := 999) (by decide +kernel), List.mem_of_getElem? (i := 1390) (by decide +kernel), List.mem_of_getElem? (i := 1391) (by decide +kernel)⟩
def lw_privs_3 : List (MethodName × Nat) := [(⟨"DeliveryRoundModel", "habitOf", "(II)I"⟩, 45), (⟨"DeliveryRoundModel", "layHorse", "()V"⟩, 45), (⟨"DeliveryRoundModel", "stopAt", "(I)I"⟩, 45), (⟨"DeliveryRoundModel", "layFastest", "()Z"⟩, 45), (⟨"DeliveryRoundModel", "bestEnd", "(III)I"⟩, 45), (⟨"DeliveryRoundModel", "stayAt", "(I)I"⟩, 45), (⟨"DeliveryRoundModel", "goesOn", "(III)V"⟩, 45), (⟨"DeliveryRoundModel", "layOrder", "(I)Z"⟩, 45), (⟨"DeliveryRoundModel", "layByNumber", "()V"⟩, 45), (⟨"DeliveryRoundModel", "playRound", "()V"⟩, 45), (⟨"DeliveryRoundModel", "leaveOut", "(I)V"⟩, 45), (⟨"DeliveryRoundModel", "visitStop", "(I)V"⟩, 45), (⟨"DeliveryRoundModel", "reload", "(I)V"⟩, 45), (⟨"DeliveryRoundModel", "stillWanted", "()I"⟩, 45), (⟨"DeliveryRoundModel", "visit", "(I)V"⟩, 45), (⟨"DeliveryRoundModel", "keepState", "()V"⟩, 45)]
theorem lw_r3 : ∀ q ∈ lw_privs_3, lw_okq q := List.forall_mem_cons.mpr ⟨lw_p32, List.forall_mem_cons.mpr ⟨lw_p33, List.forall_mem_cons.mpr ⟨lw_p34, List.forall_mem_cons.mpr ⟨lw_p35, List.forall_mem_cons.mpr ⟨lw_p36, List.forall_mem_cons.mpr ⟨lw_p37, List.forall_mem_cons.mpr ⟨lw_p38, List.forall_mem_cons.mpr ⟨lw_p39, List.forall_mem_cons.mpr ⟨lw_p40, List.forall_mem_cons.mpr ⟨lw_p41, List.forall_mem_cons.mpr ⟨lw_p42, List.forall_mem_cons.mpr ⟨lw_p43, List.forall_mem_cons.mpr ⟨lw_p44, List.forall_mem_cons.mpr ⟨lw_p45, List.forall_mem_cons.mpr ⟨lw_p46, List.forall_mem_cons.mpr ⟨lw_p47, fun _ h => absurd h List.not_mem_nil⟩⟩⟩⟩⟩⟩⟩⟩⟩⟩⟩⟩⟩⟩⟩⟩
theorem lw_p48 : lw_okq (⟨"DeliveryRoundModel", "learn", "(II)V"⟩, 45) := ⟨⟨by decide +kernel, by decide +kernel⟩, List.mem_of_getElem? (i := 999) (by decide +kernel), List.mem_of_getElem? (i := 1394) (by decide +kernel), List.mem_of_getElem? (i := 1395) (by decide +kernel)⟩
theorem lw_p49 : lw_okq (⟨"DeliveryRoundModel", "recordOf", "(II)I"⟩, 45) := ⟨⟨by decide +kernel, by decide +kernel⟩, List.mem_of_getElem? (i := 999) (by decide +kernel), List.mem_of_getElem? (i := 1434) (by decide +kernel), List.mem_of_getElem? (i := 1435) (by decide +kernel)⟩
theorem lw_p50 : lw_okq (⟨"DeliveryRoundModel", "exchange", "(II)I"⟩, 45) := ⟨⟨by decide +kernel, by decide +kernel⟩, List.mem_of_getElem? (i := 999) (by decide +kernel), List.mem_of_getElem? (i := 1463) (by decide +kernel), List.mem_of_getElem? (i := 1464) (by decide +kernel)⟩
def lw_privs_4 : List (MethodName × Nat) := [(⟨"DeliveryRoundModel", "learn", "(II)V"⟩, 45), (⟨"DeliveryRoundModel", "recordOf", "(II)I"⟩, 45), (⟨"DeliveryRoundModel", "exchange", "(II)I"⟩, 45)]
theorem lw_r4 : ∀ q ∈ lw_privs_4, lw_okq q := List.forall_mem_cons.mpr ⟨lw_p48, List.forall_mem_cons.mpr ⟨lw_p49, List.forall_mem_cons.mpr ⟨lw_p50, fun _ h => absurd h List.not_mem_nil⟩⟩⟩
def lw_privs : List (MethodName × Nat) := lw_privs_1 ++ (lw_privs_2 ++ (lw_privs_3 ++ (lw_privs_4)))
def lw_tbl : List Cond := k2_sels lw_privs ++ tables_1
theorem lw_privs_ok : ∀ q ∈ lw_privs, lw_okq q := by
  show ∀ q ∈ lw_privs_1 ++ (lw_privs_2 ++ (lw_privs_3 ++ (lw_privs_4))), lw_okq q
  exact List.forall_mem_append.mpr ⟨lw_r1, List.forall_mem_append.mpr ⟨lw_r2, List.forall_mem_append.mpr ⟨lw_r3, lw_r4⟩⟩⟩
-- ===== end of PART A; then your names; then what follows =====
def RX0 : String := "DeliveryRound$Cart"
def TX0 : u_T := fun k => match k with
  | 0 => ("DeliveryRound$Cart", "plan", "LDeliveryRound$Plan;", true)
  | 1 => ("DeliveryRound$Cart", "state", "LDeliveryRound$State;", true)
  | 2 => ("DeliveryRound$Cart", "today", "LDeliveryRound$Today;", true)
  | 3 => ("DeliveryRound$Cart", "network", "LDeliveryRound$Network;", true)
  | 4 => ("DeliveryRound$Cart", "log", "LDeliveryRound$Log;", true)
  | 5 => ("DeliveryRound$Cart", "node", "I", false)
  | 6 => ("DeliveryRound$Cart", "minute", "I", false)
  | 7 => ("DeliveryRound$Cart", "full", "I", false)
  | 8 => ("DeliveryRound$Cart", "empty", "I", false)
  | 9 => ("DeliveryRound$Cart", "waiting", "I", false)
  | _ => ("DeliveryRound$Cart", "ended", "Z", false)
def tyX0 : Nat → FieldType := fun k => match k with
  | 0 => .object "DeliveryRound$Plan"
  | 1 => .object "DeliveryRound$State"
  | 2 => .object "DeliveryRound$Today"
  | 3 => .object "DeliveryRound$Network"
  | 4 => .object "DeliveryRound$Log"
  | 5 => .int
  | 6 => .int
  | 7 => .int
  | 8 => .int
  | 9 => .int
  | _ => .boolean
theorem nmX0 : ∀ a, a < 11 → ∀ b, b < 11 → a ≠ b → (TX0 a).2.1 ≠ (TX0 b).2.1 := by decide +kernel
theorem tyX0_ok : ∀ k, k < 11 → parseFieldDescriptor (TX0 k).2.2.1 = some (tyX0 k) := by decide +kernel
def RX1 : String := "DeliveryRound$Fastest"
def TX1 : u_T := fun k => match k with
  | 0 => ("DeliveryRound$Fastest", "plan", "LDeliveryRound$Plan;", true)
  | 1 => ("DeliveryRound$Fastest", "today", "LDeliveryRound$Today;", true)
  | 2 => ("DeliveryRound$Fastest", "network", "LDeliveryRound$Network;", true)
  | 3 => ("DeliveryRound$Fastest", "route", "LDeliveryRound$Route;", true)
  | 4 => ("DeliveryRound$Fastest", "minutesAt", "[I", true)
  | 5 => ("DeliveryRound$Fastest", "earliest", "[I", true)
  | 6 => ("DeliveryRound$Fastest", "latest", "[I", true)
  | 7 => ("DeliveryRound$Fastest", "all", "I", false)
  | 8 => ("DeliveryRound$Fastest", "finish", "I", false)
  | _ => ("DeliveryRound$Fastest", "known", "Z", false)
def tyX1 : Nat → FieldType := fun k => match k with
  | 0 => .object "DeliveryRound$Plan"
  | 1 => .object "DeliveryRound$Today"
  | 2 => .object "DeliveryRound$Network"
  | 3 => .object "DeliveryRound$Route"
  | 4 => .array .int
  | 5 => .array .int
  | 6 => .array .int
  | 7 => .int
  | 8 => .int
  | _ => .boolean
theorem nmX1 : ∀ a, a < 10 → ∀ b, b < 10 → a ≠ b → (TX1 a).2.1 ≠ (TX1 b).2.1 := by decide +kernel
theorem tyX1_ok : ∀ k, k < 10 → parseFieldDescriptor (TX1 k).2.2.1 = some (tyX1 k) := by decide +kernel
def RX2 : String := "DeliveryRound$History"
def TX2 : u_T := fun k => match k with
  | 0 => ("DeliveryRound$History", "past", "[LDeliveryRound$State;", true)
  | 1 => ("DeliveryRound$History", "next", "I", false)
  | _ => ("DeliveryRound$History", "count", "I", false)
def tyX2 : Nat → FieldType := fun k => match k with
  | 0 => .array (.object "DeliveryRound$State")
  | 1 => .int
  | _ => .int
theorem nmX2 : ∀ a, a < 3 → ∀ b, b < 3 → a ≠ b → (TX2 a).2.1 ≠ (TX2 b).2.1 := by decide +kernel
theorem tyX2_ok : ∀ k, k < 3 → parseFieldDescriptor (TX2 k).2.2.1 = some (tyX2 k) := by decide +kernel
def RX3 : String := "DeliveryRound$Log"
def TX3 : u_T := fun k => match k with
  | 0 => ("DeliveryRound$Log", "finish", "I", false)
  | 1 => ("DeliveryRound$Log", "visits", "I", false)
  | 2 => ("DeliveryRound$Log", "reloads", "I", false)
  | 3 => ("DeliveryRound$Log", "house", "[I", true)
  | 4 => ("DeliveryRound$Log", "minute", "[I", true)
  | _ => ("DeliveryRound$Log", "returned", "[I", true)
def tyX3 : Nat → FieldType := fun k => match k with
  | 0 => .int
  | 1 => .int
  | 2 => .int
  | 3 => .array .int
  | 4 => .array .int
  | _ => .array .int
theorem nmX3 : ∀ a, a < 6 → ∀ b, b < 6 → a ≠ b → (TX3 a).2.1 ≠ (TX3 b).2.1 := by decide +kernel
theorem tyX3_ok : ∀ k, k < 6 → parseFieldDescriptor (TX3 k).2.2.1 = some (tyX3 k) := by decide +kernel
def RX4 : String := "DeliveryRound$Network"
def TX4 : u_T := fun k => match k with
  | 0 => ("DeliveryRound$Network", "plan", "LDeliveryRound$Plan;", true)
  | 1 => ("DeliveryRound$Network", "state", "LDeliveryRound$State;", true)
  | 2 => ("DeliveryRound$Network", "arrivals", "[I", true)
  | _ => ("DeliveryRound$Network", "departures", "[I", true)
def tyX4 : Nat → FieldType := fun k => match k with
  | 0 => .object "DeliveryRound$Plan"
  | 1 => .object "DeliveryRound$State"
  | 2 => .array .int
  | _ => .array .int
theorem nmX4 : ∀ a, a < 4 → ∀ b, b < 4 → a ≠ b → (TX4 a).2.1 ≠ (TX4 b).2.1 := by decide +kernel
theorem tyX4_ok : ∀ k, k < 4 → parseFieldDescriptor (TX4 k).2.2.1 = some (tyX4 k) := by decide +kernel
def RX5 : String := "DeliveryRound$Parser"
def TX5 : u_T := fun k => match k with
  | 0 => ("DeliveryRound$Parser", "text", "LDeliveryRound$Text;", true)
  | 1 => ("DeliveryRound$Parser", "plan", "LDeliveryRound$Plan;", true)
  | 2 => ("DeliveryRound$Parser", "state", "LDeliveryRound$State;", true)
  | 3 => ("DeliveryRound$Parser", "seen", "I", false)
  | _ => ("DeliveryRound$Parser", "error", "I", false)
def tyX5 : Nat → FieldType := fun k => match k with
  | 0 => .object "DeliveryRound$Text"
  | 1 => .object "DeliveryRound$Plan"
  | 2 => .object "DeliveryRound$State"
  | 3 => .int
  | _ => .int
theorem nmX5 : ∀ a, a < 5 → ∀ b, b < 5 → a ≠ b → (TX5 a).2.1 ≠ (TX5 b).2.1 := by decide +kernel
theorem tyX5_ok : ∀ k, k < 5 → parseFieldDescriptor (TX5 k).2.2.1 = some (tyX5 k) := by decide +kernel
def RX6 : String := "DeliveryRound$Plan"
def TX6 : u_T := fun k => match k with
  | 0 => ("DeliveryRound$Plan", "nodeCount", "I", false)
  | 1 => ("DeliveryRound$Plan", "streetCount", "I", false)
  | 2 => ("DeliveryRound$Plan", "houseCount", "I", false)
  | 3 => ("DeliveryRound$Plan", "capacity", "I", false)
  | 4 => ("DeliveryRound$Plan", "start", "I", false)
  | 5 => ("DeliveryRound$Plan", "price", "I", false)
  | 6 => ("DeliveryRound$Plan", "deposit", "I", false)
  | 7 => ("DeliveryRound$Plan", "streetA", "[I", true)
  | 8 => ("DeliveryRound$Plan", "streetB", "[I", true)
  | 9 => ("DeliveryRound$Plan", "streetLength", "[I", true)
  | 10 => ("DeliveryRound$Plan", "houseNode", "[I", true)
  | _ => ("DeliveryRound$Plan", "houseWalk", "[I", true)
def tyX6 : Nat → FieldType := fun k => match k with
  | 0 => .int
  | 1 => .int
  | 2 => .int
  | 3 => .int
  | 4 => .int
  | 5 => .int
  | 6 => .int
  | 7 => .array .int
  | 8 => .array .int
  | 9 => .array .int
  | 10 => .array .int
  | _ => .array .int
theorem nmX6 : ∀ a, a < 12 → ∀ b, b < 12 → a ≠ b → (TX6 a).2.1 ≠ (TX6 b).2.1 := by decide +kernel
theorem tyX6_ok : ∀ k, k < 12 → parseFieldDescriptor (TX6 k).2.2.1 = some (tyX6 k) := by decide +kernel
def RX7 : String := "DeliveryRound$Route"
def TX7 : u_T := fun k => match k with
  | 0 => ("DeliveryRound$Route", "nodes", "[I", true)
  | _ => ("DeliveryRound$Route", "count", "I", false)
def tyX7 : Nat → FieldType := fun k => match k with
  | 0 => .array .int
  | _ => .int
theorem nmX7 : ∀ a, a < 2 → ∀ b, b < 2 → a ≠ b → (TX7 a).2.1 ≠ (TX7 b).2.1 := by decide +kernel
theorem tyX7_ok : ∀ k, k < 2 → parseFieldDescriptor (TX7 k).2.2.1 = some (tyX7 k) := by decide +kernel
def RX8 : String := "DeliveryRound$State"
def TX8 : u_T := fun k => match k with
  | 0 => ("DeliveryRound$State", "day", "I", false)
  | 1 => ("DeliveryRound$State", "skipped", "I", false)
  | 2 => ("DeliveryRound$State", "orders", "[I", true)
  | 3 => ("DeliveryRound$State", "keep", "[I", true)
  | 4 => ("DeliveryRound$State", "gateFrom", "[I", true)
  | 5 => ("DeliveryRound$State", "gateTo", "[I", true)
  | 6 => ("DeliveryRound$State", "bottles", "[I", true)
  | 7 => ("DeliveryRound$State", "delivered", "[I", true)
  | 8 => ("DeliveryRound$State", "returned", "[I", true)
  | 9 => ("DeliveryRound$State", "broken", "[I", true)
  | 10 => ("DeliveryRound$State", "habits", "[I", true)
  | _ => ("DeliveryRound$State", "log", "LDeliveryRound$Log;", true)
def tyX8 : Nat → FieldType := fun k => match k with
  | 0 => .int
  | 1 => .int
  | 2 => .array .int
  | 3 => .array .int
  | 4 => .array .int
  | 5 => .array .int
  | 6 => .array .int
  | 7 => .array .int
  | 8 => .array .int
  | 9 => .array .int
  | 10 => .array .int
  | _ => .object "DeliveryRound$Log"
theorem nmX8 : ∀ a, a < 12 → ∀ b, b < 12 → a ≠ b → (TX8 a).2.1 ≠ (TX8 b).2.1 := by decide +kernel
theorem tyX8_ok : ∀ k, k < 12 → parseFieldDescriptor (TX8 k).2.2.1 = some (tyX8 k) := by decide +kernel
def RX9 : String := "DeliveryRound$Text"
def TX9 : u_T := fun k => match k with
  | 0 => ("DeliveryRound$Text", "bytes", "[B", true)
  | 1 => ("DeliveryRound$Text", "count", "I", false)
  | 2 => ("DeliveryRound$Text", "length", "I", false)
  | 3 => ("DeliveryRound$Text", "start", "I", false)
  | 4 => ("DeliveryRound$Text", "end", "I", false)
  | _ => ("DeliveryRound$Text", "kind", "I", false)
def tyX9 : Nat → FieldType := fun k => match k with
  | 0 => .array .byte
  | 1 => .int
  | 2 => .int
  | 3 => .int
  | 4 => .int
  | _ => .int
theorem nmX9 : ∀ a, a < 6 → ∀ b, b < 6 → a ≠ b → (TX9 a).2.1 ≠ (TX9 b).2.1 := by decide +kernel
theorem tyX9_ok : ∀ k, k < 6 → parseFieldDescriptor (TX9 k).2.2.1 = some (tyX9 k) := by decide +kernel
def RX10 : String := "DeliveryRound$Today"
def TX10 : u_T := fun k => match k with
  | 0 => ("DeliveryRound$Today", "plan", "LDeliveryRound$Plan;", true)
  | _ => ("DeliveryRound$Today", "state", "LDeliveryRound$State;", true)
def tyX10 : Nat → FieldType := fun k => match k with
  | 0 => .object "DeliveryRound$Plan"
  | _ => .object "DeliveryRound$State"
theorem nmX10 : ∀ a, a < 2 → ∀ b, b < 2 → a ≠ b → (TX10 a).2.1 ≠ (TX10 b).2.1 := by decide +kernel
theorem tyX10_ok : ∀ k, k < 2 → parseFieldDescriptor (TX10 k).2.2.1 = some (tyX10 k) := by decide +kernel
def RX11 : String := "DeliveryRound"
def TX11 : u_T := fun k => match k with
  | 0 => ("DeliveryRound", "text", "LDeliveryRound$Text;", true)
  | 1 => ("DeliveryRound", "parser", "LDeliveryRound$Parser;", true)
  | 2 => ("DeliveryRound", "plan", "LDeliveryRound$Plan;", true)
  | 3 => ("DeliveryRound", "state", "LDeliveryRound$State;", true)
  | 4 => ("DeliveryRound", "today", "LDeliveryRound$Today;", true)
  | 5 => ("DeliveryRound", "network", "LDeliveryRound$Network;", true)
  | 6 => ("DeliveryRound", "route", "LDeliveryRound$Route;", true)
  | 7 => ("DeliveryRound", "fastest", "LDeliveryRound$Fastest;", true)
  | 8 => ("DeliveryRound", "cart", "LDeliveryRound$Cart;", true)
  | 9 => ("DeliveryRound", "history", "LDeliveryRound$History;", true)
  | 10 => ("DeliveryRound", "slots", "[LDeliveryRound$State;", true)
  | _ => ("DeliveryRound", "slotFilled", "[Z", true)
def tyX11 : Nat → FieldType := fun k => match k with
  | 0 => .object "DeliveryRound$Text"
  | 1 => .object "DeliveryRound$Parser"
  | 2 => .object "DeliveryRound$Plan"
  | 3 => .object "DeliveryRound$State"
  | 4 => .object "DeliveryRound$Today"
  | 5 => .object "DeliveryRound$Network"
  | 6 => .object "DeliveryRound$Route"
  | 7 => .object "DeliveryRound$Fastest"
  | 8 => .object "DeliveryRound$Cart"
  | 9 => .object "DeliveryRound$History"
  | 10 => .array (.object "DeliveryRound$State")
  | _ => .array .boolean
theorem nmX11 : ∀ a, a < 12 → ∀ b, b < 12 → a ≠ b → (TX11 a).2.1 ≠ (TX11 b).2.1 := by decide +kernel
theorem tyX11_ok : ∀ k, k < 12 → parseFieldDescriptor (TX11 k).2.2.1 = some (tyX11 k) := by decide +kernel
def RX12 : String := "DeliveryRoundModel"
def TX12 : u_T := fun k => match k with
  | 0 => ("DeliveryRoundModel", "thrown", "I", false)
  | 1 => ("DeliveryRoundModel", "buffer", "[B", true)
  | 2 => ("DeliveryRoundModel", "length", "I", false)
  | 3 => ("DeliveryRoundModel", "textLength", "I", false)
  | 4 => ("DeliveryRoundModel", "tokenStart", "I", false)
  | 5 => ("DeliveryRoundModel", "tokenEnd", "I", false)
  | 6 => ("DeliveryRoundModel", "token", "I", false)
  | 7 => ("DeliveryRoundModel", "value", "I", false)
  | 8 => ("DeliveryRoundModel", "error", "I", false)
  | 9 => ("DeliveryRoundModel", "errorOffset", "I", false)
  | 10 => ("DeliveryRoundModel", "basic", "[I", true)
  | 11 => ("DeliveryRoundModel", "draft", "[I", true)
  | 12 => ("DeliveryRoundModel", "streetA", "[I", true)
  | 13 => ("DeliveryRoundModel", "streetB", "[I", true)
  | 14 => ("DeliveryRoundModel", "streetLength", "[I", true)
  | 15 => ("DeliveryRoundModel", "streetFrom", "[I", true)
  | 16 => ("DeliveryRoundModel", "streetTo", "[I", true)
  | 17 => ("DeliveryRoundModel", "nodeOf", "[I", true)
  | 18 => ("DeliveryRoundModel", "walkOf", "[I", true)
  | 19 => ("DeliveryRoundModel", "keepOf", "[I", true)
  | 20 => ("DeliveryRoundModel", "orderOf", "[I", true)
  | 21 => ("DeliveryRoundModel", "given", "I", false)
  | 22 => ("DeliveryRoundModel", "state", "[I", true)
  | 23 => ("DeliveryRoundModel", "history", "[I", true)
  | 24 => ("DeliveryRoundModel", "depth", "I", false)
  | 25 => ("DeliveryRoundModel", "slots", "[I", true)
  | 26 => ("DeliveryRoundModel", "isSaved", "[Z", true)
  | 27 => ("DeliveryRoundModel", "arrivals", "[I", true)
  | 28 => ("DeliveryRoundModel", "isDone", "[Z", true)
  | 29 => ("DeliveryRoundModel", "sequence", "[I", true)
  | 30 => ("DeliveryRoundModel", "sequenceMany", "I", false)
  | 31 => ("DeliveryRoundModel", "least", "[I", true)
  | 32 => ("DeliveryRoundModel", "fastestEnd", "I", false)
  | 33 => ("DeliveryRoundModel", "minute", "I", false)
  | 34 => ("DeliveryRoundModel", "node", "I", false)
  | 35 => ("DeliveryRoundModel", "full", "I", false)
  | 36 => ("DeliveryRoundModel", "empty", "I", false)
  | 37 => ("DeliveryRoundModel", "finishedAt", "I", false)
  | 38 => ("DeliveryRoundModel", "isOver", "Z", false)
  | 39 => ("DeliveryRoundModel", "visitMany", "I", false)
  | 40 => ("DeliveryRoundModel", "reloadMany", "I", false)
  | 41 => ("DeliveryRoundModel", "visitedHouse", "[I", true)
  | 42 => ("DeliveryRoundModel", "visitedMinute", "[I", true)
  | 43 => ("DeliveryRoundModel", "visitedBack", "[I", true)
  | _ => ("DeliveryRoundModel", "mark", "[I", true)
def tyX12 : Nat → FieldType := fun k => match k with
  | 0 => .int
  | 1 => .array .byte
  | 2 => .int
  | 3 => .int
  | 4 => .int
  | 5 => .int
  | 6 => .int
  | 7 => .int
  | 8 => .int
  | 9 => .int
  | 10 => .array .int
  | 11 => .array .int
  | 12 => .array .int
  | 13 => .array .int
  | 14 => .array .int
  | 15 => .array .int
  | 16 => .array .int
  | 17 => .array .int
  | 18 => .array .int
  | 19 => .array .int
  | 20 => .array .int
  | 21 => .int
  | 22 => .array .int
  | 23 => .array .int
  | 24 => .int
  | 25 => .array .int
  | 26 => .array .boolean
  | 27 => .array .int
  | 28 => .array .boolean
  | 29 => .array .int
  | 30 => .int
  | 31 => .array .int
  | 32 => .int
  | 33 => .int
  | 34 => .int
  | 35 => .int
  | 36 => .int
  | 37 => .int
  | 38 => .boolean
  | 39 => .int
  | 40 => .int
  | 41 => .array .int
  | 42 => .array .int
  | 43 => .array .int
  | _ => .array .int
theorem nmX12 : ∀ a, a < 45 → ∀ b, b < 45 → a ≠ b → (TX12 a).2.1 ≠ (TX12 b).2.1 := by decide +kernel
theorem tyX12_ok : ∀ k, k < 45 → parseFieldDescriptor (TX12 k).2.2.1 = some (tyX12 k) := by decide +kernel
def RJ9 : String := "java/lang/Math"
def RJ0 : String := "java/lang/String"
def RJ1 : String := "java/lang/StringLatin1"
def RJ2 : String := "java/lang/StringUTF16"
def RJ10 : String := "java/lang/System"
def RJ7 : String := "java/util/Arrays"
def RJ3 : String := "jdk/internal/util/Preconditions"
abbrev vwCl : List vw_C := [(RX0, TX0, 11), (RX1, TX1, 10), (RX2, TX2, 3), (RX3, TX3, 6), (RX4, TX4, 4), (RX5, TX5, 5), (RX6, TX6, 12), (RX7, TX7, 2), (RX8, TX8, 12), (RX9, TX9, 6), (RX10, TX10, 2), (RX11, TX11, 12), (RX12, TX12, 45)]
abbrev cX0_init : ByteArray := prog_2_method_1_code
abbrev yX0_init : MethodName := ⟨RX0, "<init>", "(LDeliveryRound$Plan;LDeliveryRound$State;LDeliveryRound$Today;LDeliveryRound$Network;)V"⟩
abbrev cX0_travel : ByteArray := prog_2_method_2_code
abbrev yX0_travel : MethodName := ⟨RX0, "travel", "(LDeliveryRound$Route;)V"⟩
abbrev cX0_driveTo : ByteArray := prog_2_method_3_code
abbrev yX0_driveTo : MethodName := ⟨RX0, "driveTo", "(I)Z"⟩
abbrev cX0_serveStop : ByteArray := prog_2_method_4_code
abbrev yX0_serveStop : MethodName := ⟨RX0, "serveStop", "(I)V"⟩
abbrev cX0_reload : ByteArray := prog_2_method_5_code
abbrev yX0_reload : MethodName := ⟨RX0, "reload", "(I)Z"⟩
abbrev cX0_serveHouse : ByteArray := prog_2_method_6_code
abbrev yX0_serveHouse : MethodName := ⟨RX0, "serveHouse", "(II)V"⟩
abbrev cX1_init : ByteArray := prog_3_method_1_code
abbrev yX1_init : MethodName := ⟨RX1, "<init>", "(LDeliveryRound$Plan;LDeliveryRound$Today;LDeliveryRound$Network;)V"⟩
abbrev cX1_forget : ByteArray := prog_3_method_2_code
abbrev yX1_forget : MethodName := ⟨RX1, "forget", "()V"⟩
abbrev cX1_find : ByteArray := prog_3_method_3_code
abbrev yX1_find : MethodName := ⟨RX1, "find", "()V"⟩
abbrev cX1_sumVisits : ByteArray := prog_3_method_4_code
abbrev yX1_sumVisits : MethodName := ⟨RX1, "sumVisits", "()V"⟩
abbrev cX1_place : ByteArray := prog_3_method_5_code
abbrev yX1_place : MethodName := ⟨RX1, "place", "(II)I"⟩
abbrev cX1_isLast : ByteArray := prog_3_method_6_code
abbrev yX1_isLast : MethodName := ⟨RX1, "isLast", "(II)Z"⟩
abbrev cX1_isPart : ByteArray := prog_3_method_7_code
abbrev yX1_isPart : MethodName := ⟨RX1, "isPart", "(I)Z"⟩
abbrev cX1_findEarliest : ByteArray := prog_3_method_8_code
abbrev yX1_findEarliest : MethodName := ⟨RX1, "findEarliest", "()V"⟩
abbrev cX1_driveOn : ByteArray := prog_3_method_9_code
abbrev yX1_driveOn : MethodName := ⟨RX1, "driveOn", "(II)V"⟩
abbrev cX1_findLatest : ByteArray := prog_3_method_10_code
abbrev yX1_findLatest : MethodName := ⟨RX1, "findLatest", "()V"⟩
abbrev cX1_allow : ByteArray := prog_3_method_11_code
abbrev yX1_allow : MethodName := ⟨RX1, "allow", "(I[I)V"⟩
abbrev cX1_walk : ByteArray := prog_3_method_12_code
abbrev yX1_walk : MethodName := ⟨RX1, "walk", "()V"⟩
abbrev cX1_firstInTime : ByteArray := prog_3_method_13_code
abbrev yX1_firstInTime : MethodName := ⟨RX1, "firstInTime", "(I[I)I"⟩
abbrev cX2_init : ByteArray := prog_4_method_1_code
abbrev yX2_init : MethodName := ⟨RX2, "<init>", "()V"⟩
abbrev cX2_clear : ByteArray := prog_4_method_2_code
abbrev yX2_clear : MethodName := ⟨RX2, "clear", "()V"⟩
abbrev cX2_remember : ByteArray := prog_4_method_3_code
abbrev yX2_remember : MethodName := ⟨RX2, "remember", "(LDeliveryRound$State;)V"⟩
abbrev cX2_recall : ByteArray := prog_4_method_4_code
abbrev yX2_recall : MethodName := ⟨RX2, "recall", "(LDeliveryRound$State;)V"⟩
abbrev cX3_init : ByteArray := prog_5_method_1_code
abbrev yX3_init : MethodName := ⟨RX3, "<init>", "()V"⟩
abbrev cX3_clear : ByteArray := prog_5_method_2_code
abbrev yX3_clear : MethodName := ⟨RX3, "clear", "()V"⟩
abbrev cX3_add : ByteArray := prog_5_method_3_code
abbrev yX3_add : MethodName := ⟨RX3, "add", "(III)V"⟩
abbrev cX3_copyFrom : ByteArray := prog_5_method_4_code
abbrev yX3_copyFrom : MethodName := ⟨RX3, "copyFrom", "(LDeliveryRound$Log;)V"⟩
abbrev cX4_init : ByteArray := prog_6_method_1_code
abbrev yX4_init : MethodName := ⟨RX4, "<init>", "(LDeliveryRound$Plan;LDeliveryRound$State;)V"⟩
abbrev cX4_arrivalsFrom : ByteArray := prog_6_method_2_code
abbrev yX4_arrivalsFrom : MethodName := ⟨RX4, "arrivalsFrom", "(II)[I"⟩
abbrev cX4_sweepStreets : ByteArray := prog_6_method_3_code
abbrev yX4_sweepStreets : MethodName := ⟨RX4, "sweepStreets", "(Z)V"⟩
abbrev cX4_improveArrival : ByteArray := prog_6_method_4_code
abbrev yX4_improveArrival : MethodName := ⟨RX4, "improveArrival", "(III)Z"⟩
abbrev cX4_departuresTo : ByteArray := prog_6_method_5_code
abbrev yX4_departuresTo : MethodName := ⟨RX4, "departuresTo", "(II)[I"⟩
abbrev cX4_improveDeparture : ByteArray := prog_6_method_6_code
abbrev yX4_improveDeparture : MethodName := ⟨RX4, "improveDeparture", "(III)Z"⟩
abbrev cX5_init : ByteArray := prog_7_method_1_code
abbrev yX5_init : MethodName := ⟨RX5, "<init>", "(LDeliveryRound$Text;)V"⟩
abbrev cX5_readRound : ByteArray := prog_7_method_2_code
abbrev yX5_readRound : MethodName := ⟨RX5, "readRound", "(I)V"⟩
abbrev cX5_readStatement : ByteArray := prog_7_method_3_code
abbrev yX5_readStatement : MethodName := ⟨RX5, "readStatement", "()V"⟩
abbrev cX5_readNodes : ByteArray := prog_7_method_4_code
abbrev yX5_readNodes : MethodName := ⟨RX5, "readNodes", "()V"⟩
abbrev cX5_readStreet : ByteArray := prog_7_method_5_code
abbrev yX5_readStreet : MethodName := ⟨RX5, "readStreet", "()V"⟩
abbrev cX5_readGate : ByteArray := prog_7_method_6_code
abbrev yX5_readGate : MethodName := ⟨RX5, "readGate", "(I)V"⟩
abbrev cX5_readHouse : ByteArray := prog_7_method_7_code
abbrev yX5_readHouse : MethodName := ⟨RX5, "readHouse", "()V"⟩
abbrev cX5_takeOnce : ByteArray := prog_7_method_8_code
abbrev yX5_takeOnce : MethodName := ⟨RX5, "takeOnce", "(I)V"⟩
abbrev cX5_readNumber : ByteArray := prog_7_method_9_code
abbrev yX5_readNumber : MethodName := ⟨RX5, "readNumber", "(II)I"⟩
abbrev cX5_readSemicolon : ByteArray := prog_7_method_10_code
abbrev yX5_readSemicolon : MethodName := ⟨RX5, "readSemicolon", "()V"⟩
abbrev cX5_fail : ByteArray := prog_7_method_11_code
abbrev yX5_fail : MethodName := ⟨RX5, "fail", "(II)V"⟩
abbrev cX6_init : ByteArray := prog_8_method_1_code
abbrev yX6_init : MethodName := ⟨RX6, "<init>", "()V"⟩
abbrev cX6_clear : ByteArray := prog_8_method_2_code
abbrev yX6_clear : MethodName := ⟨RX6, "clear", "()V"⟩
abbrev cX6_copyFrom : ByteArray := prog_8_method_3_code
abbrev yX6_copyFrom : MethodName := ⟨RX6, "copyFrom", "(LDeliveryRound$Plan;)V"⟩
abbrev cX6_joins : ByteArray := prog_8_method_4_code
abbrev yX6_joins : MethodName := ⟨RX6, "joins", "(II)Z"⟩
abbrev cX7_init : ByteArray := prog_9_method_1_code
abbrev yX7_init : MethodName := ⟨RX7, "<init>", "()V"⟩
abbrev cX7_clear : ByteArray := prog_9_method_2_code
abbrev yX7_clear : MethodName := ⟨RX7, "clear", "()V"⟩
abbrev cX7_add : ByteArray := prog_9_method_3_code
abbrev yX7_add : MethodName := ⟨RX7, "add", "(I)V"⟩
abbrev cX7_fillByNumber : ByteArray := prog_9_method_4_code
abbrev yX7_fillByNumber : MethodName := ⟨RX7, "fillByNumber", "(I)V"⟩
abbrev cX7_copyFrom : ByteArray := prog_9_method_5_code
abbrev yX7_copyFrom : MethodName := ⟨RX7, "copyFrom", "(LDeliveryRound$Route;)V"⟩
abbrev cX7_stopAt : ByteArray := prog_9_method_6_code
abbrev yX7_stopAt : MethodName := ⟨RX7, "stopAt", "(I)I"⟩
abbrev cX8_init : ByteArray := prog_10_method_1_code
abbrev yX8_init : MethodName := ⟨RX8, "<init>", "()V"⟩
abbrev cX8_isSkipped : ByteArray := prog_10_method_2_code
abbrev yX8_isSkipped : MethodName := ⟨RX8, "isSkipped", "(I)Z"⟩
abbrev cX8_copyFrom : ByteArray := prog_10_method_3_code
abbrev yX8_copyFrom : MethodName := ⟨RX8, "copyFrom", "(LDeliveryRound$State;)V"⟩
abbrev cX9_init : ByteArray := prog_11_method_1_code
abbrev yX9_init : MethodName := ⟨RX9, "<init>", "()V"⟩
abbrev cX9_addFour : ByteArray := prog_11_method_2_code
abbrev yX9_addFour : MethodName := ⟨RX9, "addFour", "(I)V"⟩
abbrev cX9_begin : ByteArray := prog_11_method_3_code
abbrev yX9_begin : MethodName := ⟨RX9, "begin", "(I)V"⟩
abbrev cX9_advance : ByteArray := prog_11_method_4_code
abbrev yX9_advance : MethodName := ⟨RX9, "advance", "()V"⟩
abbrev cX9_kindOf : ByteArray := prog_11_method_5_code
abbrev yX9_kindOf : MethodName := ⟨RX9, "kindOf", "(B)I"⟩
abbrev cX9_isWord : ByteArray := prog_11_method_6_code
abbrev yX9_isWord : MethodName := ⟨RX9, "isWord", "(Ljava/lang/String;)Z"⟩
abbrev cX9_value : ByteArray := prog_11_method_7_code
abbrev yX9_value : MethodName := ⟨RX9, "value", "()I"⟩
abbrev cX10_init : ByteArray := prog_12_method_1_code
abbrev yX10_init : MethodName := ⟨RX10, "<init>", "(LDeliveryRound$Plan;LDeliveryRound$State;)V"⟩
abbrev cX10_demandOf : ByteArray := prog_12_method_2_code
abbrev yX10_demandOf : MethodName := ⟨RX10, "demandOf", "(I)I"⟩
abbrev cX10_demandAtNode : ByteArray := prog_12_method_3_code
abbrev yX10_demandAtNode : MethodName := ⟨RX10, "demandAtNode", "(I)I"⟩
abbrev cX10_sumOfDemands : ByteArray := prog_12_method_4_code
abbrev yX10_sumOfDemands : MethodName := ⟨RX10, "sumOfDemands", "()I"⟩
abbrev cX10_stopSet : ByteArray := prog_12_method_5_code
abbrev yX10_stopSet : MethodName := ⟨RX10, "stopSet", "()I"⟩
abbrev cX10_visitMinutes : ByteArray := prog_12_method_6_code
abbrev yX10_visitMinutes : MethodName := ⟨RX10, "visitMinutes", "(I)I"⟩
abbrev cX11_init : ByteArray := prog_1_method_1_code
abbrev yX11_init : MethodName := ⟨RX11, "<init>", "()V"⟩
abbrev cX11_append : ByteArray := prog_1_method_2_code
abbrev yX11_append : MethodName := ⟨RX11, "append", "(IIIII)I"⟩
abbrev cX11_parse : ByteArray := prog_1_method_3_code
abbrev yX11_parse : MethodName := ⟨RX11, "parse", "(I)I"⟩
abbrev cX11_nodeCount : ByteArray := prog_1_method_4_code
abbrev yX11_nodeCount : MethodName := ⟨RX11, "nodeCount", "()I"⟩
abbrev cX11_streetCount : ByteArray := prog_1_method_5_code
abbrev yX11_streetCount : MethodName := ⟨RX11, "streetCount", "()I"⟩
abbrev cX11_houseCount : ByteArray := prog_1_method_6_code
abbrev yX11_houseCount : MethodName := ⟨RX11, "houseCount", "()I"⟩
abbrev cX11_capacity : ByteArray := prog_1_method_7_code
abbrev yX11_capacity : MethodName := ⟨RX11, "capacity", "()I"⟩
abbrev cX11_day : ByteArray := prog_1_method_8_code
abbrev yX11_day : MethodName := ⟨RX11, "day", "()I"⟩
abbrev cX11_houseNode : ByteArray := prog_1_method_9_code
abbrev yX11_houseNode : MethodName := ⟨RX11, "houseNode", "(I)I"⟩
abbrev cX11_order : ByteArray := prog_1_method_10_code
abbrev yX11_order : MethodName := ⟨RX11, "order", "(II)I"⟩
abbrev cX11_isOpen : ByteArray := prog_1_method_11_code
abbrev yX11_isOpen : MethodName := ⟨RX11, "isOpen", "(II)I"⟩
abbrev cX11_arrival : ByteArray := prog_1_method_12_code
abbrev yX11_arrival : MethodName := ⟨RX11, "arrival", "(III)I"⟩
abbrev cX11_demand : ByteArray := prog_1_method_13_code
abbrev yX11_demand : MethodName := ⟨RX11, "demand", "(I)I"⟩
abbrev cX11_totalDemand : ByteArray := prog_1_method_14_code
abbrev yX11_totalDemand : MethodName := ⟨RX11, "totalDemand", "()I"⟩
abbrev cX11_stops : ByteArray := prog_1_method_15_code
abbrev yX11_stops : MethodName := ⟨RX11, "stops", "()I"⟩
abbrev cX11_habit : ByteArray := prog_1_method_16_code
abbrev yX11_habit : MethodName := ⟨RX11, "habit", "(II)I"⟩
abbrev cX11_horseStop : ByteArray := prog_1_method_17_code
abbrev yX11_horseStop : MethodName := ⟨RX11, "horseStop", "(I)I"⟩
abbrev cX11_fastestFinish : ByteArray := prog_1_method_18_code
abbrev yX11_fastestFinish : MethodName := ⟨RX11, "fastestFinish", "()I"⟩
abbrev cX11_fastestStop : ByteArray := prog_1_method_19_code
abbrev yX11_fastestStop : MethodName := ⟨RX11, "fastestStop", "(I)I"⟩
abbrev cX11_previewFinish : ByteArray := prog_1_method_20_code
abbrev yX11_previewFinish : MethodName := ⟨RX11, "previewFinish", "(I)I"⟩
abbrev cX11_bottlesAt : ByteArray := prog_1_method_21_code
abbrev yX11_bottlesAt : MethodName := ⟨RX11, "bottlesAt", "(I)I"⟩
abbrev cX11_delivered : ByteArray := prog_1_method_22_code
abbrev yX11_delivered : MethodName := ⟨RX11, "delivered", "(I)I"⟩
abbrev cX11_returned : ByteArray := prog_1_method_23_code
abbrev yX11_returned : MethodName := ⟨RX11, "returned", "(I)I"⟩
abbrev cX11_broken : ByteArray := prog_1_method_24_code
abbrev yX11_broken : MethodName := ⟨RX11, "broken", "(I)I"⟩
abbrev cX11_bill : ByteArray := prog_1_method_25_code
abbrev yX11_bill : MethodName := ⟨RX11, "bill", "(I)I"⟩
abbrev cX11_bottlesOut : ByteArray := prog_1_method_26_code
abbrev yX11_bottlesOut : MethodName := ⟨RX11, "bottlesOut", "()I"⟩
abbrev cX11_finish : ByteArray := prog_1_method_27_code
abbrev yX11_finish : MethodName := ⟨RX11, "finish", "()I"⟩
abbrev cX11_visitCount : ByteArray := prog_1_method_28_code
abbrev yX11_visitCount : MethodName := ⟨RX11, "visitCount", "()I"⟩
abbrev cX11_visitHouse : ByteArray := prog_1_method_29_code
abbrev yX11_visitHouse : MethodName := ⟨RX11, "visitHouse", "(I)I"⟩
abbrev cX11_visitMinute : ByteArray := prog_1_method_30_code
abbrev yX11_visitMinute : MethodName := ⟨RX11, "visitMinute", "(I)I"⟩
abbrev cX11_visitReturned : ByteArray := prog_1_method_31_code
abbrev yX11_visitReturned : MethodName := ⟨RX11, "visitReturned", "(I)I"⟩
abbrev cX11_reloads : ByteArray := prog_1_method_32_code
abbrev yX11_reloads : MethodName := ⟨RX11, "reloads", "()I"⟩
abbrev cX11_carryOut : ByteArray := prog_1_method_33_code
abbrev yX11_carryOut : MethodName := ⟨RX11, "carryOut", "(I)I"⟩
abbrev cX11_setSkipped : ByteArray := prog_1_method_34_code
abbrev yX11_setSkipped : MethodName := ⟨RX11, "setSkipped", "(IZ)Z"⟩
abbrev cX11_breakBottles : ByteArray := prog_1_method_35_code
abbrev yX11_breakBottles : MethodName := ⟨RX11, "breakBottles", "(II)I"⟩
abbrev cX11_setOrder : ByteArray := prog_1_method_36_code
abbrev yX11_setOrder : MethodName := ⟨RX11, "setOrder", "(III)I"⟩
abbrev cX11_setKeep : ByteArray := prog_1_method_37_code
abbrev yX11_setKeep : MethodName := ⟨RX11, "setKeep", "(II)I"⟩
abbrev cX11_setGate : ByteArray := prog_1_method_38_code
abbrev yX11_setGate : MethodName := ⟨RX11, "setGate", "(III)Z"⟩
abbrev cX11_undo : ByteArray := prog_1_method_39_code
abbrev yX11_undo : MethodName := ⟨RX11, "undo", "()I"⟩
abbrev cX11_saveSnapshot : ByteArray := prog_1_method_40_code
abbrev yX11_saveSnapshot : MethodName := ⟨RX11, "saveSnapshot", "(I)Z"⟩
abbrev cX11_restoreSnapshot : ByteArray := prog_1_method_41_code
abbrev yX11_restoreSnapshot : MethodName := ⟨RX11, "restoreSnapshot", "(I)Z"⟩
abbrev cX11_isHouse : ByteArray := prog_1_method_42_code
abbrev yX11_isHouse : MethodName := ⟨RX11, "isHouse", "(I)Z"⟩
abbrev cX11_isStreet : ByteArray := prog_1_method_43_code
abbrev yX11_isStreet : MethodName := ⟨RX11, "isStreet", "(I)Z"⟩
abbrev cX11_isNode : ByteArray := prog_1_method_44_code
abbrev yX11_isNode : MethodName := ⟨RX11, "isNode", "(I)Z"⟩
abbrev cX11_isVisit : ByteArray := prog_1_method_45_code
abbrev yX11_isVisit : MethodName := ⟨RX11, "isVisit", "(I)Z"⟩
abbrev cX11_isWeekday : ByteArray := prog_1_method_46_code
abbrev yX11_isWeekday : MethodName := ⟨RX11, "isWeekday", "(I)Z"⟩
abbrev cX11_isChoice : ByteArray := prog_1_method_47_code
abbrev yX11_isChoice : MethodName := ⟨RX11, "isChoice", "(I)Z"⟩
abbrev cX11_isSlot : ByteArray := prog_1_method_48_code
abbrev yX11_isSlot : MethodName := ⟨RX11, "isSlot", "(I)Z"⟩
abbrev cX11_emptySlots : ByteArray := prog_1_method_49_code
abbrev yX11_emptySlots : MethodName := ⟨RX11, "emptySlots", "()V"⟩
abbrev cX11_beginChange : ByteArray := prog_1_method_50_code
abbrev yX11_beginChange : MethodName := ⟨RX11, "beginChange", "()V"⟩
abbrev cX11_chooseRoute : ByteArray := prog_1_method_51_code
abbrev yX11_chooseRoute : MethodName := ⟨RX11, "chooseRoute", "(I)Z"⟩
abbrev cX11_chooseByHabit : ByteArray := prog_1_method_52_code
abbrev yX11_chooseByHabit : MethodName := ⟨RX11, "chooseByHabit", "()V"⟩
abbrev cX11_horseChoice : ByteArray := prog_1_method_53_code
abbrev yX11_horseChoice : MethodName := ⟨RX11, "horseChoice", "(II)I"⟩
abbrev cX11_settleAccounts : ByteArray := prog_1_method_54_code
abbrev yX11_settleAccounts : MethodName := ⟨RX11, "settleAccounts", "(LDeliveryRound$Log;)V"⟩
abbrev cX11_learnHabits : ByteArray := prog_1_method_55_code
abbrev yX11_learnHabits : MethodName := ⟨RX11, "learnHabits", "(LDeliveryRound$Log;)V"⟩
abbrev cX12_init : ByteArray := prog_14_method_1_code
abbrev yX12_init : MethodName := ⟨RX12, "<init>", "()V"⟩
abbrev cX12_within : ByteArray := prog_14_method_3_code
abbrev yX12_within : MethodName := ⟨RX12, "within", "(JJJ)Z"⟩
abbrev cX12_appendInt : ByteArray := prog_14_method_4_code
abbrev yX12_appendInt : MethodName := ⟨RX12, "appendInt", "(I)V"⟩
abbrev cX12_append : ByteArray := prog_14_method_5_code
abbrev yX12_append : MethodName := ⟨RX12, "append", "(IIIII)I"⟩
abbrev cX12_byteAt : ByteArray := prog_14_method_6_code
abbrev yX12_byteAt : MethodName := ⟨RX12, "byteAt", "(I)I"⟩
abbrev cX12_nextToken : ByteArray := prog_14_method_7_code
abbrev yX12_nextToken : MethodName := ⟨RX12, "nextToken", "()V"⟩
abbrev cX12_must : ByteArray := prog_14_method_8_code
abbrev yX12_must : MethodName := ⟨RX12, "must", "(ZI)Z"⟩
abbrev cX12_is : ByteArray := prog_14_method_9_code
abbrev yX12_is : MethodName := ⟨RX12, "is", "(Ljava/lang/String;)Z"⟩
abbrev cX12_number : ByteArray := prog_14_method_10_code
abbrev yX12_number : MethodName := ⟨RX12, "number", "(II)I"⟩
abbrev cX12_isJoined : ByteArray := prog_14_method_11_code
abbrev yX12_isJoined : MethodName := ⟨RX12, "isJoined", "(III)Z"⟩
abbrev cX12_readStreet : ByteArray := prog_14_method_12_code
abbrev yX12_readStreet : MethodName := ⟨RX12, "readStreet", "()V"⟩
abbrev cX12_readHouse : ByteArray := prog_14_method_13_code
abbrev yX12_readHouse : MethodName := ⟨RX12, "readHouse", "()V"⟩
abbrev cX12_once : ByteArray := prog_14_method_14_code
abbrev yX12_once : MethodName := ⟨RX12, "once", "(I)V"⟩
abbrev cX12_statement : ByteArray := prog_14_method_15_code
abbrev yX12_statement : MethodName := ⟨RX12, "statement", "()V"⟩
abbrev cX12_adopt : ByteArray := prog_14_method_16_code
abbrev yX12_adopt : MethodName := ⟨RX12, "adopt", "([I)V"⟩
abbrev cX12_parse : ByteArray := prog_14_method_17_code
abbrev yX12_parse : MethodName := ⟨RX12, "parse", "(I)I"⟩
abbrev cX12_clearLedger : ByteArray := prog_14_method_18_code
abbrev yX12_clearLedger : MethodName := ⟨RX12, "clearLedger", "()V"⟩
abbrev cX12_keepState : ByteArray := prog_14_method_19_code
abbrev yX12_keepState : MethodName := ⟨RX12, "keepState", "()V"⟩
abbrev cX12_isHouse : ByteArray := prog_14_method_20_code
abbrev yX12_isHouse : MethodName := ⟨RX12, "isHouse", "(I)Z"⟩
abbrev cX12_isStreet : ByteArray := prog_14_method_21_code
abbrev yX12_isStreet : MethodName := ⟨RX12, "isStreet", "(I)Z"⟩
abbrev cX12_isNode : ByteArray := prog_14_method_22_code
abbrev yX12_isNode : MethodName := ⟨RX12, "isNode", "(I)Z"⟩
abbrev cX12_nodeCount : ByteArray := prog_14_method_23_code
abbrev yX12_nodeCount : MethodName := ⟨RX12, "nodeCount", "()I"⟩
abbrev cX12_streetCount : ByteArray := prog_14_method_24_code
abbrev yX12_streetCount : MethodName := ⟨RX12, "streetCount", "()I"⟩
abbrev cX12_houseCount : ByteArray := prog_14_method_25_code
abbrev yX12_houseCount : MethodName := ⟨RX12, "houseCount", "()I"⟩
abbrev cX12_capacity : ByteArray := prog_14_method_26_code
abbrev yX12_capacity : MethodName := ⟨RX12, "capacity", "()I"⟩
abbrev cX12_day : ByteArray := prog_14_method_27_code
abbrev yX12_day : MethodName := ⟨RX12, "day", "()I"⟩
abbrev cX12_houseNode : ByteArray := prog_14_method_28_code
abbrev yX12_houseNode : MethodName := ⟨RX12, "houseNode", "(I)I"⟩
abbrev cX12_order : ByteArray := prog_14_method_29_code
abbrev yX12_order : MethodName := ⟨RX12, "order", "(II)I"⟩
abbrev cX12_through : ByteArray := prog_14_method_30_code
abbrev yX12_through : MethodName := ⟨RX12, "through", "(II)I"⟩
abbrev cX12_layArrivals : ByteArray := prog_14_method_31_code
abbrev yX12_layArrivals : MethodName := ⟨RX12, "layArrivals", "(II)V"⟩
abbrev cX12_arrivalOf : ByteArray := prog_14_method_32_code
abbrev yX12_arrivalOf : MethodName := ⟨RX12, "arrivalOf", "(III)I"⟩
abbrev cX12_isOpen : ByteArray := prog_14_method_33_code
abbrev yX12_isOpen : MethodName := ⟨RX12, "isOpen", "(II)I"⟩
abbrev cX12_arrival : ByteArray := prog_14_method_34_code
abbrev yX12_arrival : MethodName := ⟨RX12, "arrival", "(III)I"⟩
abbrev cX12_demandOf : ByteArray := prog_14_method_35_code
abbrev yX12_demandOf : MethodName := ⟨RX12, "demandOf", "(I)I"⟩
abbrev cX12_demand : ByteArray := prog_14_method_36_code
abbrev yX12_demand : MethodName := ⟨RX12, "demand", "(I)I"⟩
abbrev cX12_totalOf : ByteArray := prog_14_method_37_code
abbrev yX12_totalOf : MethodName := ⟨RX12, "totalOf", "()I"⟩
abbrev cX12_totalDemand : ByteArray := prog_14_method_38_code
abbrev yX12_totalDemand : MethodName := ⟨RX12, "totalDemand", "()I"⟩
abbrev cX12_stopSet : ByteArray := prog_14_method_39_code
abbrev yX12_stopSet : MethodName := ⟨RX12, "stopSet", "()I"⟩
abbrev cX12_stops : ByteArray := prog_14_method_40_code
abbrev yX12_stops : MethodName := ⟨RX12, "stops", "()I"⟩
abbrev cX12_habitOf : ByteArray := prog_14_method_41_code
abbrev yX12_habitOf : MethodName := ⟨RX12, "habitOf", "(II)I"⟩
abbrev cX12_habit : ByteArray := prog_14_method_42_code
abbrev yX12_habit : MethodName := ⟨RX12, "habit", "(II)I"⟩
abbrev cX12_layByNumber : ByteArray := prog_14_method_43_code
abbrev yX12_layByNumber : MethodName := ⟨RX12, "layByNumber", "()V"⟩
abbrev cX12_layHorse : ByteArray := prog_14_method_44_code
abbrev yX12_layHorse : MethodName := ⟨RX12, "layHorse", "()V"⟩
abbrev cX12_stayAt : ByteArray := prog_14_method_45_code
abbrev yX12_stayAt : MethodName := ⟨RX12, "stayAt", "(I)I"⟩
abbrev cX12_bestEnd : ByteArray := prog_14_method_46_code
abbrev yX12_bestEnd : MethodName := ⟨RX12, "bestEnd", "(III)I"⟩
abbrev cX12_goesOn : ByteArray := prog_14_method_47_code
abbrev yX12_goesOn : MethodName := ⟨RX12, "goesOn", "(III)V"⟩
abbrev cX12_layFastest : ByteArray := prog_14_method_48_code
abbrev yX12_layFastest : MethodName := ⟨RX12, "layFastest", "()Z"⟩
abbrev cX12_stopAt : ByteArray := prog_14_method_49_code
abbrev yX12_stopAt : MethodName := ⟨RX12, "stopAt", "(I)I"⟩
abbrev cX12_horseStop : ByteArray := prog_14_method_50_code
abbrev yX12_horseStop : MethodName := ⟨RX12, "horseStop", "(I)I"⟩
abbrev cX12_fastestFinish : ByteArray := prog_14_method_51_code
abbrev yX12_fastestFinish : MethodName := ⟨RX12, "fastestFinish", "()I"⟩
abbrev cX12_fastestStop : ByteArray := prog_14_method_52_code
abbrev yX12_fastestStop : MethodName := ⟨RX12, "fastestStop", "(I)I"⟩
abbrev cX12_layOrder : ByteArray := prog_14_method_53_code
abbrev yX12_layOrder : MethodName := ⟨RX12, "layOrder", "(I)Z"⟩
abbrev cX12_stillWanted : ByteArray := prog_14_method_54_code
abbrev yX12_stillWanted : MethodName := ⟨RX12, "stillWanted", "()I"⟩
abbrev cX12_reload : ByteArray := prog_14_method_55_code
abbrev yX12_reload : MethodName := ⟨RX12, "reload", "(I)V"⟩
abbrev cX12_visit : ByteArray := prog_14_method_56_code
abbrev yX12_visit : MethodName := ⟨RX12, "visit", "(I)V"⟩
abbrev cX12_visitStop : ByteArray := prog_14_method_57_code
abbrev yX12_visitStop : MethodName := ⟨RX12, "visitStop", "(I)V"⟩
abbrev cX12_leaveOut : ByteArray := prog_14_method_58_code
abbrev yX12_leaveOut : MethodName := ⟨RX12, "leaveOut", "(I)V"⟩
abbrev cX12_playRound : ByteArray := prog_14_method_59_code
abbrev yX12_playRound : MethodName := ⟨RX12, "playRound", "()V"⟩
abbrev cX12_previewFinish : ByteArray := prog_14_method_60_code
abbrev yX12_previewFinish : MethodName := ⟨RX12, "previewFinish", "(I)I"⟩
abbrev cX12_learn : ByteArray := prog_14_method_61_code
abbrev yX12_learn : MethodName := ⟨RX12, "learn", "(II)V"⟩
abbrev cX12_carryOut : ByteArray := prog_14_method_62_code
abbrev yX12_carryOut : MethodName := ⟨RX12, "carryOut", "(I)I"⟩
abbrev cX12_bottlesAt : ByteArray := prog_14_method_63_code
abbrev yX12_bottlesAt : MethodName := ⟨RX12, "bottlesAt", "(I)I"⟩
abbrev cX12_delivered : ByteArray := prog_14_method_64_code
abbrev yX12_delivered : MethodName := ⟨RX12, "delivered", "(I)I"⟩
abbrev cX12_returned : ByteArray := prog_14_method_65_code
abbrev yX12_returned : MethodName := ⟨RX12, "returned", "(I)I"⟩
abbrev cX12_broken : ByteArray := prog_14_method_66_code
abbrev yX12_broken : MethodName := ⟨RX12, "broken", "(I)I"⟩
abbrev cX12_bill : ByteArray := prog_14_method_67_code
abbrev yX12_bill : MethodName := ⟨RX12, "bill", "(I)I"⟩
abbrev cX12_bottlesOut : ByteArray := prog_14_method_68_code
abbrev yX12_bottlesOut : MethodName := ⟨RX12, "bottlesOut", "()I"⟩
abbrev cX12_finish : ByteArray := prog_14_method_69_code
abbrev yX12_finish : MethodName := ⟨RX12, "finish", "()I"⟩
abbrev cX12_visitCount : ByteArray := prog_14_method_70_code
abbrev yX12_visitCount : MethodName := ⟨RX12, "visitCount", "()I"⟩
abbrev cX12_recordOf : ByteArray := prog_14_method_71_code
abbrev yX12_recordOf : MethodName := ⟨RX12, "recordOf", "(II)I"⟩
abbrev cX12_visitHouse : ByteArray := prog_14_method_72_code
abbrev yX12_visitHouse : MethodName := ⟨RX12, "visitHouse", "(I)I"⟩
abbrev cX12_visitMinute : ByteArray := prog_14_method_73_code
abbrev yX12_visitMinute : MethodName := ⟨RX12, "visitMinute", "(I)I"⟩
abbrev cX12_visitReturned : ByteArray := prog_14_method_74_code
abbrev yX12_visitReturned : MethodName := ⟨RX12, "visitReturned", "(I)I"⟩
abbrev cX12_reloads : ByteArray := prog_14_method_75_code
abbrev yX12_reloads : MethodName := ⟨RX12, "reloads", "()I"⟩
abbrev cX12_setSkipped : ByteArray := prog_14_method_76_code
abbrev yX12_setSkipped : MethodName := ⟨RX12, "setSkipped", "(IZ)Z"⟩
abbrev cX12_breakBottles : ByteArray := prog_14_method_77_code
abbrev yX12_breakBottles : MethodName := ⟨RX12, "breakBottles", "(II)I"⟩
abbrev cX12_exchange : ByteArray := prog_14_method_78_code
abbrev yX12_exchange : MethodName := ⟨RX12, "exchange", "(II)I"⟩
abbrev cX12_setOrder : ByteArray := prog_14_method_79_code
abbrev yX12_setOrder : MethodName := ⟨RX12, "setOrder", "(III)I"⟩
abbrev cX12_setKeep : ByteArray := prog_14_method_80_code
abbrev yX12_setKeep : MethodName := ⟨RX12, "setKeep", "(II)I"⟩
abbrev cX12_setGate : ByteArray := prog_14_method_81_code
abbrev yX12_setGate : MethodName := ⟨RX12, "setGate", "(III)Z"⟩
abbrev cX12_undo : ByteArray := prog_14_method_82_code
abbrev yX12_undo : MethodName := ⟨RX12, "undo", "()I"⟩
abbrev cX12_saveSnapshot : ByteArray := prog_14_method_83_code
abbrev yX12_saveSnapshot : MethodName := ⟨RX12, "saveSnapshot", "(I)Z"⟩
abbrev cX12_restoreSnapshot : ByteArray := prog_14_method_84_code
abbrev yX12_restoreSnapshot : MethodName := ⟨RX12, "restoreSnapshot", "(I)Z"⟩
abbrev cJ9_max_7cf53 : ByteArray := prog_15_method_65_code
abbrev yJ9_max_7cf53 : MethodName := ⟨RJ9, "max", "(II)I"⟩
abbrev cJ9_min_7cf53 : ByteArray := prog_15_method_69_code
abbrev yJ9_min_7cf53 : MethodName := ⟨RJ9, "min", "(II)I"⟩
abbrev cJ0_length_8abf5 : ByteArray := prog_16_method_54_code
abbrev yJ0_length_8abf5 : MethodName := ⟨RJ0, "length", "()I"⟩
abbrev cJ0_charAt_5068e : ByteArray := prog_16_method_56_code
abbrev yJ0_charAt_5068e : MethodName := ⟨RJ0, "charAt", "(I)C"⟩
abbrev cJ0_coder_7d493 : ByteArray := prog_16_method_152_code
abbrev yJ0_coder_7d493 : MethodName := ⟨RJ0, "coder", "()B"⟩
abbrev cJ0_isLatin1_aae02 : ByteArray := prog_16_method_154_code
abbrev yJ0_isLatin1_aae02 : MethodName := ⟨RJ0, "isLatin1", "()Z"⟩
abbrev cJ0_checkIndex_df160 : ByteArray := prog_16_method_155_code
abbrev yJ0_checkIndex_df160 : MethodName := ⟨RJ0, "checkIndex", "(II)V"⟩
abbrev cJ1_charAt_3b067 : ByteArray := prog_17_method_2_code
abbrev yJ1_charAt_3b067 : MethodName := ⟨RJ1, "charAt", "([BI)C"⟩
abbrev cJ2_getChar_3b067 : ByteArray := prog_18_method_5_code
abbrev yJ2_getChar_3b067 : MethodName := ⟨RJ2, "getChar", "([BI)C"⟩
abbrev cJ2_length_9d52b : ByteArray := prog_18_method_6_code
abbrev yJ2_length_9d52b : MethodName := ⟨RJ2, "length", "([B)I"⟩
abbrev cJ2_charAt_3b067 : ByteArray := prog_18_method_83_code
abbrev yJ2_charAt_3b067 : MethodName := ⟨RJ2, "charAt", "([BI)C"⟩
abbrev cJ2_checkIndex_2214a : ByteArray := prog_18_method_91_code
abbrev yJ2_checkIndex_2214a : MethodName := ⟨RJ2, "checkIndex", "(I[B)V"⟩
abbrev cJ7_fill_53178 : ByteArray := prog_20_method_103_code
abbrev yJ7_fill_53178 : MethodName := ⟨RJ7, "fill", "([II)V"⟩
abbrev cJ3_checkIndex_8e157 : ByteArray := prog_21_method_11_code
abbrev yJ3_checkIndex_8e157 : MethodName := ⟨RJ3, "checkIndex", "(IILjava/util/function/BiFunction;)I"⟩
/-- the tables' words that go over to a callee -/
def tbl : List Cond := lw_tbl.filter goodWord
theorem tb_in {w : Cond} (i : Nat) (h : lw_tbl[i]? = some w) (hg : goodWord w = true) : w ∈ tbl := List.mem_filter.mpr ⟨List.mem_of_getElem? h, hg⟩
theorem tb_lw {w : Cond} (h : w ∈ tbl) : w ∈ lw_tbl := (List.mem_filter.mp h).1
theorem tb_gd {w : Cond} (h : w ∈ tbl) : goodWord w = true := (List.mem_filter.mp h).2
theorem tb_ws {C : String} {T : u_T} {N : Nat} (ps : List Nat) (h : ∀ k, k < N → lw_tbl[ps.getD k 0]? = some (u_lay C T k)) (hg : ∀ k, k < N → goodWord (u_lay C T k) = true) : ∀ w ∈ u_ws C T N, w ∈ tbl := by
  intro w hw
  obtain ⟨k, hk, rfl⟩ := List.mem_map.mp hw
  have hk := List.mem_range.mp hk
  exact tb_in _ (h k hk) (hg k hk)
theorem inX0 : ∀ w ∈ u_ws RX0 TX0 11, w ∈ tbl := tb_ws [433, 435, 437, 439, 441, 443, 445, 447, 449, 451, 453] (by decide +kernel) (by decide +kernel)
theorem inX1 : ∀ w ∈ u_ws RX1 TX1 10, w ∈ tbl := tb_ws [392, 394, 396, 398, 400, 402, 404, 406, 408, 410] (by decide +kernel) (by decide +kernel)
theorem inX2 : ∀ w ∈ u_ws RX2 TX2 3, w ∈ tbl := tb_ws [469, 471, 473] (by decide +kernel) (by decide +kernel)
theorem inX3 : ∀ w ∈ u_ws RX3 TX3 6, w ∈ tbl := tb_ws [229, 231, 233, 235, 237, 239] (by decide +kernel) (by decide +kernel)
theorem inX4 : ∀ w ∈ u_ws RX4 TX4 4, w ∈ tbl := tb_ws [347, 349, 351, 353] (by decide +kernel) (by decide +kernel)
theorem inX5 : ∀ w ∈ u_ws RX5 TX5 5, w ∈ tbl := tb_ws [309, 311, 313, 315, 317] (by decide +kernel) (by decide +kernel)
theorem inX6 : ∀ w ∈ u_ws RX6 TX6 12, w ∈ tbl := tb_ws [173, 175, 177, 179, 181, 183, 185, 187, 189, 191, 193, 195] (by decide +kernel) (by decide +kernel)
theorem inX7 : ∀ w ∈ u_ws RX7 TX7 2, w ∈ tbl := tb_ws [366, 368] (by decide +kernel) (by decide +kernel)
theorem inX8 : ∀ w ∈ u_ws RX8 TX8 12, w ∈ tbl := tb_ws [276, 278, 280, 282, 284, 286, 288, 290, 292, 294, 296, 298] (by decide +kernel) (by decide +kernel)
theorem inX9 : ∀ w ∈ u_ws RX9 TX9 6, w ∈ tbl := tb_ws [95, 97, 99, 101, 103, 105] (by decide +kernel) (by decide +kernel)
theorem inX10 : ∀ w ∈ u_ws RX10 TX10 2, w ∈ tbl := tb_ws [332, 334] (by decide +kernel) (by decide +kernel)
theorem inX11 : ∀ w ∈ u_ws RX11 TX11 12, w ∈ tbl := tb_ws [488, 490, 492, 494, 496, 498, 500, 502, 504, 506, 508, 510] (by decide +kernel) (by decide +kernel)
theorem inX12 : ∀ w ∈ u_ws RX12 TX12 45, w ∈ tbl := tb_ws [1104, 1106, 1108, 1110, 1112, 1114, 1116, 1118, 1120, 1122, 1124, 1126, 1128, 1130, 1132, 1134, 1136, 1138, 1140, 1142, 1144, 1146, 1148, 1150, 1152, 1154, 1156, 1158, 1160, 1162, 1164, 1166, 1168, 1170, 1172, 1174, 1176, 1178, 1180, 1182, 1184, 1186, 1188, 1190, 1192] (by decide +kernel) (by decide +kernel)
end
section
/-- the cells, in the order in which they are made: (0, class), (1, length) int[], 2 byte[], 3 boolean[], 4 State[] -/
def K0 : List (Nat × Nat) := [(0, 11), (0, 9), (2, 900), (0, 5), (0, 6), (1, 18), (1, 18), (1, 18), (1, 12), (1, 12), (0, 8), (1, 84), (1, 12), (1, 18), (1, 18), (1, 12), (1, 12), (1, 12), (1, 12), (1, 100), (0, 3), (1, 12), (1, 12), (1, 12), (0, 6), (1, 18), (1, 18), (1, 18), (1, 12), (1, 12), (0, 8), (1, 84), (1, 12), (1, 18), (1, 18), (1, 12), (1, 12), (1, 12), (1, 12), (1, 100), (0, 3), (1, 12), (1, 12), (1, 12), (0, 10), (0, 4), (1, 10), (1, 10), (0, 7), (1, 10), (0, 1), (0, 7), (1, 10), (1, 10), (1, 5120), (1, 5120), (0, 0), (0, 3), (1, 12), (1, 12), (1, 12), (0, 2), (4, 12), (0, 8), (1, 84), (1, 12), (1, 18), (1, 18), (1, 12), (1, 12), (1, 12), (1, 12), (1, 100), (0, 3), (1, 12), (1, 12), (1, 12), (0, 8), (1, 84), (1, 12), (1, 18), (1, 18), (1, 12), (1, 12), (1, 12), (1, 12), (1, 100), (0, 3), (1, 12), (1, 12), (1, 12), (0, 8), (1, 84), (1, 12), (1, 18), (1, 18), (1, 12), (1, 12), (1, 12), (1, 12), (1, 100), (0, 3), (1, 12), (1, 12), (1, 12), (0, 8), (1, 84), (1, 12), (1, 18), (1, 18), (1, 12), (1, 12), (1, 12), (1, 12), (1, 100), (0, 3), (1, 12), (1, 12), (1, 12), (0, 8), (1, 84), (1, 12), (1, 18), (1, 18), (1, 12), (1, 12), (1, 12), (1, 12), (1, 100), (0, 3), (1, 12), (1, 12), (1, 12), (0, 8), (1, 84), (1, 12), (1, 18), (1, 18), (1, 12), (1, 12), (1, 12), (1, 12), (1, 100), (0, 3), (1, 12), (1, 12), (1, 12), (0, 8), (1, 84), (1, 12), (1, 18), (1, 18), (1, 12), (1, 12), (1, 12), (1, 12), (1, 100), (0, 3), (1, 12), (1, 12), (1, 12), (0, 8), (1, 84), (1, 12), (1, 18), (1, 18), (1, 12), (1, 12), (1, 12), (1, 12), (1, 100), (0, 3), (1, 12), (1, 12), (1, 12), (0, 8), (1, 84), (1, 12), (1, 18), (1, 18), (1, 12), (1, 12), (1, 12), (1, 12), (1, 100), (0, 3), (1, 12), (1, 12), (1, 12), (0, 8), (1, 84), (1, 12), (1, 18), (1, 18), (1, 12), (1, 12), (1, 12), (1, 12), (1, 100), (0, 3), (1, 12), (1, 12), (1, 12), (0, 8), (1, 84), (1, 12), (1, 18), (1, 18), (1, 12), (1, 12), (1, 12), (1, 12), (1, 100), (0, 3), (1, 12), (1, 12), (1, 12), (0, 8), (1, 84), (1, 12), (1, 18), (1, 18), (1, 12), (1, 12), (1, 12), (1, 12), (1, 100), (0, 3), (1, 12), (1, 12), (1, 12), (4, 2), (0, 8), (1, 84), (1, 12), (1, 18), (1, 18), (1, 12), (1, 12), (1, 12), (1, 12), (1, 100), (0, 3), (1, 12), (1, 12), (1, 12), (0, 8), (1, 84), (1, 12), (1, 18), (1, 18), (1, 12), (1, 12), (1, 12), (1, 12), (1, 100), (0, 3), (1, 12), (1, 12), (1, 12), (3, 2), (0, 12), (2, 900), (1, 7), (1, 7), (1, 36), (1, 36), (1, 36), (1, 36), (1, 36), (1, 24), (1, 24), (1, 24), (1, 168), (1, 332), (1, 3984), (1, 664), (3, 2), (1, 10), (3, 10), (1, 10), (1, 10240), (1, 12), (1, 12), (1, 12), (1, 12)]
def kd (c : Nat) : Nat × Nat := K0.getD c (9, 0)
def FRL : List (List Bool) := [[true, true, true, true, true, false, false, false, false, false, false], [true, true, true, true, true, true, true, false, false, false], [true, false, false], [false, false, false, true, true, true], [true, true, true, true], [true, true, true, false, false], [false, false, false, false, false, false, false, true, true, true, true, true], [true, false], [false, false, true, true, true, true, true, true, true, true, true, true], [true, false, false, false, false, false], [true, true], [true, true, true, true, true, true, true, true, true, true, true, true], [false, true, false, false, false, false, false, false, false, false, true, true, true, true, true, true, true, true, true, true, true, false, true, true, false, true, true, true, true, true, false, true, false, false, false, false, false, false, false, false, false, true, true, true, true]]
def fR (ci k : Nat) : Bool := (FRL.getD ci []).getD k false
def NFL : List Nat := [11, 10, 3, 6, 4, 5, 12, 2, 12, 6, 2, 12, 45]
def nf (ci : Nat) : Nat := NFL.getD ci 0
/-- the references between the cells, once all are made -/
def RL0 : List (List (Option Nat)) := [[some 1, some 3, some 24, some 30, some 44, some 45, some 48, some 50, some 56, some 61, some 231, some 260], [some 2], [], [some 1, some 4, some 10], [none, none, none, none, none, none, none, some 5, some 6, some 7, some 8, some 9], [], [], [], [], [], [none, none, some 11, some 12, some 13, some 14, some 15, some 16, some 17, some 18, some 19, some 20], [], [], [], [], [], [], [], [], [], [none, none, none, some 21, some 22, some 23], [], [], [], [none, none, none, none, none, none, none, some 25, some 26, some 27, some 28, some 29], [], [], [], [], [], [none, none, some 31, some 32, some 33, some 34, some 35, some 36, some 37, some 38, some 39, some 40], [], [], [], [], [], [], [], [], [], [none, none, none, some 41, some 42, some 43], [], [], [], [some 24, some 30], [some 24, some 30, some 46, some 47], [], [], [some 49], [], [some 24, some 44, some 45, some 51, some 53, some 54, some 55], [some 52], [], [], [], [], [some 24, some 30, some 44, some 45, some 57], [none, none, none, some 58, some 59, some 60], [], [], [], [some 62], [some 63, some 77, some 91, some 105, some 119, some 133, some 147, some 161, some 175, some 189, some 203, some 217], [none, none, some 64, some 65, some 66, some 67, some 68, some 69, some 70, some 71, some 72, some 73], [], [], [], [], [], [], [], [], [], [none, none, none, some 74, some 75, some 76], [], [], [], [none, none, some 78, some 79, some 80, some 81, some 82, some 83, some 84, some 85, some 86, some 87], [], [], [], [], [], [], [], [], [], [none, none, none, some 88, some 89, some 90], [], [], [], [none, none, some 92, some 93, some 94, some 95, some 96, some 97, some 98, some 99, some 100, some 101], [], [], [], [], [], [], [], [], [], [none, none, none, some 102, some 103, some 104], [], [], [], [none, none, some 106, some 107, some 108, some 109, some 110, some 111, some 112, some 113, some 114, some 115], [], [], [], [], [], [], [], [], [], [none, none, none, some 116, some 117, some 118], [], [], [], [none, none, some 120, some 121, some 122, some 123, some 124, some 125, some 126, some 127, some 128, some 129], [], [], [], [], [], [], [], [], [], [none, none, none, some 130, some 131, some 132], [], [], [], [none, none, some 134, some 135, some 136, some 137, some 138, some 139, some 140, some 141, some 142, some 143], [], [], [], [], [], [], [], [], [], [none, none, none, some 144, some 145, some 146], [], [], [], [none, none, some 148, some 149, some 150, some 151, some 152, some 153, some 154, some 155, some 156, some 157], [], [], [], [], [], [], [], [], [], [none, none, none, some 158, some 159, some 160], [], [], [], [none, none, some 162, some 163, some 164, some 165, some 166, some 167, some 168, some 169, some 170, some 171], [], [], [], [], [], [], [], [], [], [none, none, none, some 172, some 173, some 174], [], [], [], [none, none, some 176, some 177, some 178, some 179, some 180, some 181, some 182, some 183, some 184, some 185], [], [], [], [], [], [], [], [], [], [none, none, none, some 186, some 187, some 188], [], [], [], [none, none, some 190, some 191, some 192, some 193, some 194, some 195, some 196, some 197, some 198, some 199], [], [], [], [], [], [], [], [], [], [none, none, none, some 200, some 201, some 202], [], [], [], [none, none, some 204, some 205, some 206, some 207, some 208, some 209, some 210, some 211, some 212, some 213], [], [], [], [], [], [], [], [], [], [none, none, none, some 214, some 215, some 216], [], [], [], [none, none, some 218, some 219, some 220, some 221, some 222, some 223, some 224, some 225, some 226, some 227], [], [], [], [], [], [], [], [], [], [none, none, none, some 228, some 229, some 230], [], [], [], [some 232, some 246], [none, none, some 233, some 234, some 235, some 236, some 237, some 238, some 239, some 240, some 241, some 242], [], [], [], [], [], [], [], [], [], [none, none, none, some 243, some 244, some 245], [], [], [], [none, none, some 247, some 248, some 249, some 250, some 251, some 252, some 253, some 254, some 255, some 256], [], [], [], [], [], [], [], [], [], [none, none, none, some 257, some 258, some 259], [], [], [], [], [none, some 262, none, none, none, none, none, none, none, none, some 263, some 264, some 265, some 266, some 267, some 268, some 269, some 270, some 271, some 272, some 273, none, some 274, some 275, none, some 276, some 277, some 278, some 279, some 280, none, some 281, none, none, none, none, none, none, none, none, none, some 282, some 283, some 284, some 285], [], [], [], [], [], [], [], [], [], [], [], [], [], [], [], [], [], [], [], [], [], [], [], []]
def Rf0 : Nat → Nat → Option Nat := fun c k => (RL0.getD c []).getD k none
def strLen : List Nat := [5, 4, 5, 5, 6, 5, 4]
def strByt : List (List Int32) := [[110, 111, 100, 101, 115], [99, 97, 114, 116], [115, 116, 97, 114, 116], [112, 114, 105, 99, 101], [115, 116, 114, 101, 101, 116], [104, 111, 117, 115, 101], [103, 97, 116, 101]]
/-- where the class files name the seven words: (class, entry, word, its number) -/
def strL : List (String × Nat × String × Nat) := [("DeliveryRound$Parser", 54, "nodes", 0), ("DeliveryRound$Parser", 63, "cart", 1), ("DeliveryRound$Parser", 75, "start", 2), ("DeliveryRound$Parser", 79, "price", 3), ("DeliveryRound$Parser", 86, "street", 4), ("DeliveryRound$Parser", 136, "gate", 6), ("DeliveryRound$Parser", 91, "house", 5), ("DeliveryRoundModel", 168, "street", 4), ("DeliveryRoundModel", 159, "gate", 6), ("DeliveryRoundModel", 173, "house", 5), ("DeliveryRoundModel", 178, "nodes", 0), ("DeliveryRoundModel", 183, "cart", 1), ("DeliveryRoundModel", 185, "start", 2), ("DeliveryRoundModel", 187, "price", 3)]
abbrev MI : Type := Nat → Nat → Int32
abbrev MR : Type := Nat → Nat → Option Nat
/-- what is fixed of a launch: the classes' numbers and slots, the array classes, the formatter, the words' addresses and their bytes' -/
abbrev gG : Type := va_G × (ClassId × ClassId × ClassId × ClassId) × Value × (Nat → Nat) × (Nat → Nat)
def tysG (G : gG) : List (ClassId × FieldType) := [(G.2.1.1, .int), (G.2.1.2.1, .byte), (G.2.1.2.2.1, .boolean), (G.2.1.2.2.2, .object "DeliveryRound$State")]
def fv (ad : Nat → Nat) (ci : Nat) (r : Nat → Option Nat) (f : Nat → Int32) (k : Nat) : Value := if fR ci k = true then va_rf ((r k).map ad) else .int (f k)
/-- a cell's contents -/
def ce (G : gG) (ad : Nat → Nat) (t : Nat × Nat) (r : Nat → Option Nat) (f : Nat → Int32) : va_E := match t.1 with
  | 0 => .inr (t.2, (List.range (nf t.2)).map (fv ad t.2 r f))
  | 1 => .inl (G.2.1.1, t.2, .inl f)
  | 2 => .inl (G.2.1.2.1, t.2, .inl f)
  | 3 => .inl (G.2.1.2.2.1, t.2, .inl f)
  | _ => .inl (G.2.1.2.2.2, t.2, .inr (.inr (.inr (.inr (fun k => (r k).map ad)))))
/-- the world: the first n cells -/
def wl (G : gG) (ad : Nat → Nat) (n : Nat) (Rf : MR) (I : MI) : va_W := (List.range n).map (fun c => (ad c, ce G ad (kd c) (Rf c) (I c)))
theorem wl_at {G : gG} {ad : Nat → Nat} {n : Nat} {Rf : MR} {I : MI} {c : Nat} (h : c < n) : (wl G ad n Rf I)[c]? = some (ad c, ce G ad (kd c) (Rf c) (I c)) := by
  simp [wl, h]
theorem wl_of {G : gG} {ad : Nat → Nat} {n : Nat} {Rf : MR} {I : MI} {c : Nat} {t : Nat × Nat} (hk : kd c = t) (h : c < n) : (wl G ad n Rf I)[c]? = some (ad c, ce G ad t (Rf c) (I c)) := by
  rw [wl_at h, hk]
def upA (I : MI) (c : Nat) (f : Nat → Int32) : MI := fun i => if i = c then f else I i
def up2 (I : MI) (c k : Nat) (x : Int32) : MI := upA I c (upd (I c) k x)
theorem upA_same (I : MI) (c : Nat) (f : Nat → Int32) : upA I c f c = f := if_pos rfl
theorem upA_ne (I : MI) {c i : Nat} (f : Nat → Int32) (h : i ≠ c) : upA I c f i = I i := if_neg h
theorem wl_set {G : gG} {ad : Nat → Nat} {n : Nat} {Rf : MR} {I : MI} {c : Nat} {t : Nat × Nat} (hk : kd c = t) (f : Nat → Int32) : (wl G ad n Rf I).set c (ad c, ce G ad t (Rf c) f) = wl G ad n Rf (upA I c f) := by
  apply List.ext_getElem?
  intro i
  by_cases hi : i < n
  · by_cases h : i = c
    · subst h
      have hlen : i < (wl G ad n Rf I).length := by simp [wl, hi]
      rw [List.getElem?_set_self hlen, wl_at hi, upA_same, hk]
    · rw [List.getElem?_set_ne (fun q => h q.symm), wl_at hi, wl_at hi, upA_ne I f h]
  · have h1 : (wl G ad n Rf (upA I c f))[i]? = none := List.getElem?_eq_none (by simp [wl]; omega)
    have h2 : ((wl G ad n Rf I).set c (ad c, ce G ad t (Rf c) f))[i]? = none := List.getElem?_eq_none (by simp [wl]; omega)
    rw [h1, h2]
theorem fv_set {ad : Nat → Nat} {ci N k : Nat} {r : Nat → Option Nat} {f : Nat → Int32} {x : Int32} (hf : fR ci k = false) : ((List.range N).map (fv ad ci r f)).set k (.int x) = (List.range N).map (fv ad ci r (upd f k x)) := by
  apply List.ext_getElem?
  intro i
  by_cases hi : i < N
  · by_cases h : i = k
    · subst h
      rw [List.getElem?_set_self (by simp [hi])]
      simp [hi, fv, hf, upd]
    · rw [List.getElem?_set_ne (fun q => h q.symm)]
      simp [hi, fv, upd, h]
  · rw [List.getElem?_eq_none (by simp; omega), List.getElem?_eq_none (by simp; omega)]
/-- an abstract value as the machine's: a cell's number becomes its address; the words, their bytes and the formatter stand as return addresses -/
def cvt (G : gG) (ad : Nat → Nat) : Value → Value
  | .ref r => .ref (ad r)
  | .retAddr k => if k = 0 then G.2.2.1 else if k % 2 = 1 then .ref (G.2.2.2.1 (k / 2)) else .ref (G.2.2.2.2 (k / 2 - 1))
  | v => v
theorem cvt_cat {G : gG} {ad : Nat → Nat} (hf : G.2.2.1.category = 1) (v : Value) : (cvt G ad v).category = v.category := by
  cases v with
  | retAddr k =>
    show (if k = 0 then G.2.2.1 else if k % 2 = 1 then Value.ref (G.2.2.2.1 (k / 2)) else Value.ref (G.2.2.2.2 (k / 2 - 1))).category = 1
    by_cases h : k = 0
    · rw [if_pos h, hf]
    · rw [if_neg h]
      by_cases h2 : k % 2 = 1
      · rw [if_pos h2]; rfl
      · rw [if_neg h2]; rfl
  | _ => rfl
theorem cvt_sum {G : gG} {ad : Nat → Nat} (hf : G.2.2.1.category = 1) (st : List Value) : ((st.map (cvt G ad)).map fun v => v.category).sum = (st.map fun v => v.category).sum := by
  induction st with
  | nil => rfl
  | cons v st ih => simp only [List.map_cons, List.sum_cons, cvt_cat hf, ih]
/-- the locals -/
def lvs (G : gG) (ad : Nat → Nat) (lsA : Array Slot) (nL : Nat) (ls : List (Option Value)) : Prop := lsA.size = nL ∧ lv_wf lsA ∧ ∀ (k : Nat) (v : Value), ls[k]? = some (some v) → lsA[k]? = some (.val (cvt G ad v))
def asc (G : gG) (ad : Nat → Nat) (ls : List (Option Value)) : List (Nat × Value) := (List.range ls.length).filterMap (fun k => match ls[k]? with | some (some v) => some (k, cvt G ad v) | _ => none)
theorem asc_in {G : gG} {ad : Nat → Nat} {ls : List (Option Value)} {k : Nat} {v : Value} (h : ls[k]? = some (some v)) : (k, cvt G ad v) ∈ asc G ad ls := by
  refine List.mem_filterMap.mpr ⟨k, List.mem_range.mpr (List.getElem?_eq_some_iff.mp h).1, ?_⟩
  simp [h]
theorem lvs_has {G : gG} {ad : Nat → Nat} {lsA : Array Slot} {nL : Nat} {ls : List (Option Value)} (h : lvs G ad lsA nL ls) : lv_has lsA nL (asc G ad ls) := by
  refine ⟨h.1, h.2.1, fun q hq => ?_⟩
  obtain ⟨k, -, hk⟩ := List.mem_filterMap.mp hq
  split at hk
  · rename_i v hv
    cases hk
    exact h.2.2 k v hv
  · cases hk
def c1 (ls : List (Option Value)) : Bool := ls.all (fun o => match o with | some v => v.category == 1 | none => true)
theorem lvs_set {G : gG} {ad : Nat → Nat} {lsA : Array Slot} {nL i : Nat} {ls : List (Option Value)} {v : Value} (hf : G.2.2.1.category = 1) (hc : c1 ls = true)
    (h : lv_has lsA nL ((i, cvt G ad v) :: (asc G ad ls).filter (fun q => !(q.1 == i) && !(q.1 + 1 == i && q.2.category == 2)))) : lvs G ad lsA nL (ls.set i (some v)) := by
  refine ⟨h.1, h.2.1, fun k w hk => ?_⟩
  by_cases hi : k = i
  · subst hi
    have hl : k < (ls.set k (some v)).length := (List.getElem?_eq_some_iff.mp hk).1
    rw [List.getElem?_set_self (by simpa using hl)] at hk
    cases hk
    exact h.2.2 (k, cvt G ad v) List.mem_cons_self
  · rw [List.getElem?_set_ne (fun q => hi q.symm)] at hk
    refine h.2.2 (k, cvt G ad w) (List.mem_cons_of_mem _ (List.mem_filter.mpr ⟨asc_in hk, ?_⟩))
    have hw : w.category = 1 := by
      have := List.all_eq_true.mp hc (some w) (List.mem_of_getElem? hk)
      simpa using this
    simp [hi, cvt_cat hf, hw]
/-- a method: its name, code, locals, answer; the frames and words of locals that it needs below it -/
abbrev mD : Type := MethodName × ByteArray × Nat × Option FieldType × Nat × Nat
abbrev rmD (μ : mD) : Room := { frames := μ.2.2.2.2.1, cells := 0, slots := 0, locals := μ.2.2.2.2.2 }
def wsM (μ : mD) : List Cond := Cond.code μ.1 μ.2.1 μ.2.2.1 μ.2.2.2.1 :: tbl
/-- the words and the JDK's statics: no cell that changes -/
def Sx (G : gG) (A : Nat → Prop) (s : State) : Prop :=
  vk_S 7 strLen strByt G.2.2.2.1 G.2.2.2.2 A s s.heap ∧ (∀ q ∈ strL, vk_R q.1 q.2.1 q.2.2.1 (G.2.2.2.1 q.2.2.2) s) ∧ va_Z "java/lang/String" "COMPACT_STRINGS" "Z" (.int 1) A s s.heap ∧ va_Z "jdk/internal/util/Preconditions" "SIOOBE_FORMATTER" "Ljava/util/function/BiFunction;" G.2.2.1 A s s.heap ∧ (G.2.2.1 = .null ∨ ∃ t, G.2.2.1 = .ref t)
theorem Sx_fm {G : gG} {A : Nat → Prop} {s : State} (h : Sx G A s) : G.2.2.1.category = 1 := by
  rcases h.2.2.2.2 with h | ⟨t, h⟩ <;> rw [h] <;> rfl
theorem Sx_go {G : gG} {A B : Nat → Prop} {s U : State} {H : Heap} {locs : List Loc} (h : Sx G A s) (hS : va_S A s.heap H locs) (hU : U.heap = H) (hW : s.WarmedH U.vm) (hBA : ∀ q, B q → A q) : Sx G B U := by
  refine ⟨?_, fun q hq => (h.2.1 q hq).warm hW, ?_, ?_, h.2.2.2.2⟩
  · rw [hU]; exact ((h.1.kept hS.2.1).narrow hBA).moved hW.alike
  · rw [hU]; exact ((h.2.2.1.kept hS.2.1).narrow hBA).moved hW.alike
  · rw [hU]; exact ((h.2.2.2.1.kept hS.2.1).narrow hBA).moved hW.alike
theorem Sx_same {G : gG} {A : Nat → Prop} {s U : State} (h : Sx G A s) (hv : U.vm = s.vm) (hU : U.heap = s.heap) : Sx G A U := by
  have ha : s.vm.Alike U.vm := by rw [hv]; exact Vm.Alike.refl s.vm
  refine ⟨?_, fun q hq => (h.2.1 q hq).same hv, ?_, ?_, h.2.2.2.2⟩
  · rw [hU]; exact h.1.moved ha
  · rw [hU]; exact h.2.2.1.moved ha
  · rw [hU]; exact h.2.2.2.1.moved ha
/-- what holds in a method's body -/
def Cx (G : gG) (μ : mD) (A : Nat → Prop) (p : Program) (s : State) (m : MethodId) (args : Array Value) (meth : Method) (c : Code) : Prop :=
  p.tables.exec = Jvm.exec ∧ c.code = μ.2.1 ∧ meth.sig.returnType = μ.2.2.2.1 ∧ c.maxLocals = μ.2.2.1 ∧ s.vm.findClass μ.1.cls = some m.cls ∧ (∀ w ∈ wsM μ, w.before args s = true) ∧ meth.locks = false ∧ va_K G.1 vwCl (tysG G) s ∧ (∀ q, s.heap.size ≤ q → A q) ∧ Sx G A s
def Po (G : gG) (ad : Nat → Nat) (A : Nat → Prop) (n : Nat) (Rf : MR) (Q : Option Value → MI → Prop) : Array Value → State → Outcome → State → Prop := fun _ st o t =>
  (∃ (v : Option Value) (I : MI), o = .returned (v.map (cvt G ad)) ∧ Q v I ∧ va_P G.1 vwCl (wl G ad n Rf I) t.heap ∧ va_D A (wl G ad n Rf I)) ∧ va_F A st t
/-- from pc, with these locals, this stack and these numbers in the cells, the method comes to its end with Q -/
def WP (μ : mD) (n : Nat) (Rf : MR) (pc : Nat) (ls : List (Option Value)) (st : List Value) (I : MI) (Q : Option Value → MI → Prop) : Prop :=
  ∀ (G : gG) (ad : Nat → Nat) (A : Nat → Prop) (p : Program) (l : Launch) (e : Env) (s : State) (m : MethodId) (args : Array Value) (below : List Frame) (meth : Method) (c : Code) (H : Heap) (locs : List Loc) (lsA : Array Slot),
    Cx G μ A p s m args meth c → va_P G.1 vwCl (wl G ad n Rf I) H → va_D A (wl G ad n Rf I) → va_S A s.heap H locs → lvs G ad lsA μ.2.2.1 ls →
    W p l e (rmD μ) s m args below meth c H locs 0 0 (MQ below (Po G ad A n Rf Q) args s 0 0 A) (F0 m pc lsA (st.map (cvt G ad)))
def okC (ci : Nat) (C : String) (T : u_T) (N : Nat) (ty : Nat → FieldType) : Prop := vwCl[ci]? = some (C, T, N) ∧ (∀ w ∈ u_ws C T N, w ∈ tbl) ∧ nf ci = N ∧ (∀ k, k < N → parseFieldDescriptor (T k).2.2.1 = some (ty k)) ∧ (∀ a, a < N → ∀ b, b < N → a ≠ b → (T a).2.1 ≠ (T b).2.1)

theorem okC0 : okC 0 RX0 TX0 11 tyX0 := ⟨rfl, inX0, rfl, tyX0_ok, nmX0⟩
theorem okC1 : okC 1 RX1 TX1 10 tyX1 := ⟨rfl, inX1, rfl, tyX1_ok, nmX1⟩
theorem okC2 : okC 2 RX2 TX2 3 tyX2 := ⟨rfl, inX2, rfl, tyX2_ok, nmX2⟩
theorem okC3 : okC 3 RX3 TX3 6 tyX3 := ⟨rfl, inX3, rfl, tyX3_ok, nmX3⟩
theorem okC4 : okC 4 RX4 TX4 4 tyX4 := ⟨rfl, inX4, rfl, tyX4_ok, nmX4⟩
theorem okC5 : okC 5 RX5 TX5 5 tyX5 := ⟨rfl, inX5, rfl, tyX5_ok, nmX5⟩
theorem okC6 : okC 6 RX6 TX6 12 tyX6 := ⟨rfl, inX6, rfl, tyX6_ok, nmX6⟩
theorem okC7 : okC 7 RX7 TX7 2 tyX7 := ⟨rfl, inX7, rfl, tyX7_ok, nmX7⟩
theorem okC8 : okC 8 RX8 TX8 12 tyX8 := ⟨rfl, inX8, rfl, tyX8_ok, nmX8⟩
theorem okC9 : okC 9 RX9 TX9 6 tyX9 := ⟨rfl, inX9, rfl, tyX9_ok, nmX9⟩
theorem okC10 : okC 10 RX10 TX10 2 tyX10 := ⟨rfl, inX10, rfl, tyX10_ok, nmX10⟩
theorem okC11 : okC 11 RX11 TX11 12 tyX11 := ⟨rfl, inX11, rfl, tyX11_ok, nmX11⟩
theorem okC12 : okC 12 RX12 TX12 45 tyX12 := ⟨rfl, inX12, rfl, tyX12_ok, nmX12⟩
end
section
/-! one row an instruction, over WP -/
section WR
variable {μ : mD} {n : Nat} {Rf : MR} {pc : Nat} {ls : List (Option Value)} {st : List Value} {I : MI} {Q : Option Value → MI → Prop}
theorem w_iconst {k : Int} {v : Int32} (hd : decode μ.2.1 pc = .ok (.iconst k, 1)) (hv : Int32.ofInt k = v) (K : WP μ n Rf (pc + 1) ls (.int v :: st) I Q) : WP μ n Rf pc ls st I Q := by
  intro G ad A p l e s m args below meth c H locs lsA C hP hD hS hl
  exact lv_iconst C.1 C.2.1 hd hv (K G ad A p l e s m args below meth c H locs lsA C hP hD hS hl)
theorem w_bipush {k : Int} {v : Int32} (hd : decode μ.2.1 pc = .ok (.bipush k, 2)) (hv : (Int8.ofInt k).toInt32 = v) (K : WP μ n Rf (pc + 2) ls (.int v :: st) I Q) : WP μ n Rf pc ls st I Q := by
  intro G ad A p l e s m args below meth c H locs lsA C hP hD hS hl
  exact lv_bipush C.1 C.2.1 hd hv (K G ad A p l e s m args below meth c H locs lsA C hP hD hS hl)
theorem w_sipush {k : Int} {v : Int32} (hd : decode μ.2.1 pc = .ok (.sipush k, 3)) (hv : (Int16.ofInt k).toInt32 = v) (K : WP μ n Rf (pc + 3) ls (.int v :: st) I Q) : WP μ n Rf pc ls st I Q := by
  intro G ad A p l e s m args below meth c H locs lsA C hP hD hS hl
  exact lv_sipush C.1 C.2.1 hd hv (K G ad A p l e s m args below meth c H locs lsA C hP hD hS hl)
theorem w_lconst {k : Fin 2} {v : Int64} (hd : decode μ.2.1 pc = .ok (.lconst k, 1)) (hv : Int64.ofNat (k : Nat) = v) (K : WP μ n Rf (pc + 1) ls (.long v :: st) I Q) : WP μ n Rf pc ls st I Q := by
  intro G ad A p l e s m args below meth c H locs lsA C hP hD hS hl
  exact lv_lconst C.1 C.2.1 hd hv (K G ad A p l e s m args below meth c H locs lsA C hP hD hS hl)
theorem w_ldc {k : Nat} {v : Int32} (hd : decode μ.2.1 pc = .ok (.ldc k, 2)) (hw : Cond.constant μ.1.cls k v ∈ tbl) (K : WP μ n Rf (pc + 2) ls (.int v :: st) I Q) : WP μ n Rf pc ls st I Q := by
  intro G ad A p l e s m args below meth c H locs lsA C hP hD hS hl
  exact lv_ldc C.1 C.2.1 C.2.2.2.2.1 (C.2.2.2.2.2.1 _ (List.mem_cons_of_mem _ hw)) hd (K G ad A p l e s m args below meth c H locs lsA C hP hD hS hl)
theorem w_ldc2 {k : Nat} {v : Int64} (hd : decode μ.2.1 pc = .ok (.ldc2_w k, 3)) (hw : Cond.constantLong μ.1.cls k v ∈ tbl) (K : WP μ n Rf (pc + 3) ls (.long v :: st) I Q) : WP μ n Rf pc ls st I Q := by
  intro G ad A p l e s m args below meth c H locs lsA C hP hD hS hl
  exact lv_ldc2 C.1 C.2.1 C.2.2.2.2.1 (C.2.2.2.2.2.1 _ (List.mem_cons_of_mem _ hw)) hd (K G ad A p l e s m args below meth c H locs lsA C hP hD hS hl)
/-- a word: number j, as the return address 2 j + 1 -/
theorem w_ldcS {k j : Nat} {tx : String} (hd : decode μ.2.1 pc = .ok (.ldc k, 2)) (hw : (μ.1.cls, k, tx, j) ∈ strL) (K : WP μ n Rf (pc + 2) ls (.retAddr (2 * j + 1) :: st) I Q) : WP μ n Rf pc ls st I Q := by
  intro G ad A p l e s m args below meth c H locs lsA C hP hD hS hl
  refine va_ldcS C.1 C.2.1 C.2.2.2.2.1 (C.2.2.2.2.2.2.2.2.2.2.1 _ hw) hd ?_
  have hk := K G ad A p l e s m args below meth c H locs lsA C hP hD hS hl
  have e1 : cvt G ad (.retAddr (2 * j + 1)) = .ref (G.2.2.2.1 j) := by
    show (if 2 * j + 1 = 0 then G.2.2.1 else if (2 * j + 1) % 2 = 1 then Value.ref (G.2.2.2.1 ((2 * j + 1) / 2)) else Value.ref (G.2.2.2.2 ((2 * j + 1) / 2 - 1))) = _
    rw [if_neg (by omega), if_pos (by omega), show (2 * j + 1) / 2 = j by omega]
  rw [List.map_cons, e1] at hk
  exact hk
theorem w_iload_n {k : Fin 4} {i : Nat} {x : Int32} (hd : decode μ.2.1 pc = .ok (.iload_n k, 1)) (hi : (k : Nat) = i) (hx : ls[i]? = some (some (.int x))) (K : WP μ n Rf (pc + 1) ls (.int x :: st) I Q) : WP μ n Rf pc ls st I Q := by
  intro G ad A p l e s m args below meth c H locs lsA C hP hD hS hl
  exact lv_iload_n C.1 C.2.1 hd hi (hl.2.2 _ _ hx) (K G ad A p l e s m args below meth c H locs lsA C hP hD hS hl)
theorem w_iload {i : Nat} {x : Int32} (hd : decode μ.2.1 pc = .ok (.iload i, 2)) (hx : ls[i]? = some (some (.int x))) (K : WP μ n Rf (pc + 2) ls (.int x :: st) I Q) : WP μ n Rf pc ls st I Q := by
  intro G ad A p l e s m args below meth c H locs lsA C hP hD hS hl
  exact lv_iload C.1 C.2.1 hd (hl.2.2 _ _ hx) (K G ad A p l e s m args below meth c H locs lsA C hP hD hS hl)
theorem w_lload_n {k : Fin 4} {i : Nat} {x : Int64} (hd : decode μ.2.1 pc = .ok (.lload_n k, 1)) (hi : (k : Nat) = i) (hx : ls[i]? = some (some (.long x))) (K : WP μ n Rf (pc + 1) ls (.long x :: st) I Q) : WP μ n Rf pc ls st I Q := by
  intro G ad A p l e s m args below meth c H locs lsA C hP hD hS hl
  exact lv_lload_n C.1 C.2.1 hd hi (hl.2.2 _ _ hx) (K G ad A p l e s m args below meth c H locs lsA C hP hD hS hl)
theorem w_lload {i : Nat} {x : Int64} (hd : decode μ.2.1 pc = .ok (.lload i, 2)) (hx : ls[i]? = some (some (.long x))) (K : WP μ n Rf (pc + 2) ls (.long x :: st) I Q) : WP μ n Rf pc ls st I Q := by
  intro G ad A p l e s m args below meth c H locs lsA C hP hD hS hl
  exact lv_lload C.1 C.2.1 hd (hl.2.2 _ _ hx) (K G ad A p l e s m args below meth c H locs lsA C hP hD hS hl)
theorem w_aload_n {k : Fin 4} {i : Nat} {r : Nat} (hd : decode μ.2.1 pc = .ok (.aload_n k, 1)) (hi : (k : Nat) = i) (hx : ls[i]? = some (some (.ref r))) (K : WP μ n Rf (pc + 1) ls (.ref r :: st) I Q) : WP μ n Rf pc ls st I Q := by
  intro G ad A p l e s m args below meth c H locs lsA C hP hD hS hl
  exact lv_aload_n C.1 C.2.1 hd hi (hl.2.2 _ _ hx) (K G ad A p l e s m args below meth c H locs lsA C hP hD hS hl)
theorem w_aload {i : Nat} {r : Nat} (hd : decode μ.2.1 pc = .ok (.aload i, 2)) (hx : ls[i]? = some (some (.ref r))) (K : WP μ n Rf (pc + 2) ls (.ref r :: st) I Q) : WP μ n Rf pc ls st I Q := by
  intro G ad A p l e s m args below meth c H locs lsA C hP hD hS hl
  exact lv_aload C.1 C.2.1 hd (hl.2.2 _ _ hx) (K G ad A p l e s m args below meth c H locs lsA C hP hD hS hl)
theorem cvt_S (G : gG) (ad : Nat → Nat) (j : Nat) : cvt G ad (.retAddr (2 * j + 1)) = .ref (G.2.2.2.1 j) := by
  show (if 2 * j + 1 = 0 then G.2.2.1 else if (2 * j + 1) % 2 = 1 then Value.ref (G.2.2.2.1 ((2 * j + 1) / 2)) else Value.ref (G.2.2.2.2 ((2 * j + 1) / 2 - 1))) = _
  rw [if_neg (by omega), if_pos (by omega), show (2 * j + 1) / 2 = j by omega]
theorem cvt_V (G : gG) (ad : Nat → Nat) (j : Nat) : cvt G ad (.retAddr (2 * j + 2)) = .ref (G.2.2.2.2 j) := by
  show (if 2 * j + 2 = 0 then G.2.2.1 else if (2 * j + 2) % 2 = 1 then Value.ref (G.2.2.2.1 ((2 * j + 2) / 2)) else Value.ref (G.2.2.2.2 ((2 * j + 2) / 2 - 1))) = _
  rw [if_neg (by omega), if_neg (by omega), show (2 * j + 2) / 2 - 1 = j by omega]
theorem w_aload_nS {k : Fin 4} {i j : Nat} (hd : decode μ.2.1 pc = .ok (.aload_n k, 1)) (hi : (k : Nat) = i) (hx : ls[i]? = some (some (.retAddr (2 * j + 1)))) (K : WP μ n Rf (pc + 1) ls (.retAddr (2 * j + 1) :: st) I Q) : WP μ n Rf pc ls st I Q := by
  intro G ad A p l e s m args below meth c H locs lsA C hP hD hS hl
  have hk := K G ad A p l e s m args below meth c H locs lsA C hP hD hS hl
  have h := hl.2.2 _ _ hx
  rw [cvt_S] at h
  rw [List.map_cons, cvt_S] at hk
  exact lv_aload_n C.1 C.2.1 hd hi h hk
theorem w_aload_nV {k : Fin 4} {i j : Nat} (hd : decode μ.2.1 pc = .ok (.aload_n k, 1)) (hi : (k : Nat) = i) (hx : ls[i]? = some (some (.retAddr (2 * j + 2)))) (K : WP μ n Rf (pc + 1) ls (.retAddr (2 * j + 2) :: st) I Q) : WP μ n Rf pc ls st I Q := by
  intro G ad A p l e s m args below meth c H locs lsA C hP hD hS hl
  have hk := K G ad A p l e s m args below meth c H locs lsA C hP hD hS hl
  have h := hl.2.2 _ _ hx
  rw [cvt_V] at h
  rw [List.map_cons, cvt_V] at hk
  exact lv_aload_n C.1 C.2.1 hd hi h hk
theorem w_istore_n {k : Fin 4} {i : Nat} {x : Int32} {ls' : List (Option Value)} (hd : decode μ.2.1 pc = .ok (.istore_n k, 1)) (hi : (k : Nat) = i) (hn : i < μ.2.2.1) (hc : c1 ls = true) (hl' : ls.set i (some (.int x)) = ls') (K : WP μ n Rf (pc + 1) ls' st I Q) : WP μ n Rf pc ls (.int x :: st) I Q := by
  intro G ad A p l e s m args below meth c H locs lsA C hP hD hS hl
  subst hl'
  exact lv_istore_n C.1 C.2.1 hd hi (lvs_has hl) hn rfl (fun lsB hB => K G ad A p l e s m args below meth c H locs lsB C hP hD hS (lvs_set (v := .int x) (Sx_fm C.2.2.2.2.2.2.2.2.2) hc hB))
theorem w_istore {i : Nat} {x : Int32} {ls' : List (Option Value)} (hd : decode μ.2.1 pc = .ok (.istore i, 2)) (hn : i < μ.2.2.1) (hc : c1 ls = true) (hl' : ls.set i (some (.int x)) = ls') (K : WP μ n Rf (pc + 2) ls' st I Q) : WP μ n Rf pc ls (.int x :: st) I Q := by
  intro G ad A p l e s m args below meth c H locs lsA C hP hD hS hl
  subst hl'
  exact lv_istore C.1 C.2.1 hd (lvs_has hl) hn rfl (fun lsB hB => K G ad A p l e s m args below meth c H locs lsB C hP hD hS (lvs_set (v := .int x) (Sx_fm C.2.2.2.2.2.2.2.2.2) hc hB))
theorem w_astore_n {k : Fin 4} {i : Nat} {r : Nat} {ls' : List (Option Value)} (hd : decode μ.2.1 pc = .ok (.astore_n k, 1)) (hi : (k : Nat) = i) (hn : i < μ.2.2.1) (hc : c1 ls = true) (hl' : ls.set i (some (.ref r)) = ls') (K : WP μ n Rf (pc + 1) ls' st I Q) : WP μ n Rf pc ls (.ref r :: st) I Q := by
  intro G ad A p l e s m args below meth c H locs lsA C hP hD hS hl
  subst hl'
  exact lv_astore_n C.1 C.2.1 hd hi (lvs_has hl) hn rfl (fun lsB hB => K G ad A p l e s m args below meth c H locs lsB C hP hD hS (lvs_set (v := .ref r) (Sx_fm C.2.2.2.2.2.2.2.2.2) hc hB))
theorem w_astore {i : Nat} {r : Nat} {ls' : List (Option Value)} (hd : decode μ.2.1 pc = .ok (.astore i, 2)) (hn : i < μ.2.2.1) (hc : c1 ls = true) (hl' : ls.set i (some (.ref r)) = ls') (K : WP μ n Rf (pc + 2) ls' st I Q) : WP μ n Rf pc ls (.ref r :: st) I Q := by
  intro G ad A p l e s m args below meth c H locs lsA C hP hD hS hl
  subst hl'
  exact lv_astore C.1 C.2.1 hd (lvs_has hl) hn rfl (fun lsB hB => K G ad A p l e s m args below meth c H locs lsB C hP hD hS (lvs_set (v := .ref r) (Sx_fm C.2.2.2.2.2.2.2.2.2) hc hB))
theorem w_iinc {i : Nat} {k : Int} {x v : Int32} {ls' : List (Option Value)} (hd : decode μ.2.1 pc = .ok (.iinc i k, 3)) (hx : ls[i]? = some (some (.int x))) (hv : x + Int32.ofInt k = v) (hn : i < μ.2.2.1) (hc : c1 ls = true) (hl' : ls.set i (some (.int v)) = ls') (K : WP μ n Rf (pc + 3) ls' st I Q) : WP μ n Rf pc ls st I Q := by
  intro G ad A p l e s m args below meth c H locs lsA C hP hD hS hl
  subst hl'
  obtain ⟨q, hq⟩ := List.getElem?_of_mem (asc_in (G := G) (ad := ad) hx)
  exact lv_iinc C.1 C.2.1 hd (lvs_has hl) hq hv hn rfl (fun lsB hB => K G ad A p l e s m args below meth c H locs lsB C hP hD hS (lvs_set (v := .int v) (Sx_fm C.2.2.2.2.2.2.2.2.2) hc hB))
theorem w_iadd {x y : Int32} (hd : decode μ.2.1 pc = .ok (.iadd, 1)) (K : WP μ n Rf (pc + 1) ls (.int (x + y) :: st) I Q) : WP μ n Rf pc ls (.int y :: .int x :: st) I Q := by
  intro G ad A p l e s m args below meth c H locs lsA C hP hD hS hl
  exact lv_iadd C.1 C.2.1 hd (K G ad A p l e s m args below meth c H locs lsA C hP hD hS hl)
theorem w_isub {x y : Int32} (hd : decode μ.2.1 pc = .ok (.isub, 1)) (K : WP μ n Rf (pc + 1) ls (.int (x - y) :: st) I Q) : WP μ n Rf pc ls (.int y :: .int x :: st) I Q := by
  intro G ad A p l e s m args below meth c H locs lsA C hP hD hS hl
  exact lv_isub C.1 C.2.1 hd (K G ad A p l e s m args below meth c H locs lsA C hP hD hS hl)
theorem w_imul {x y : Int32} (hd : decode μ.2.1 pc = .ok (.imul, 1)) (K : WP μ n Rf (pc + 1) ls (.int (x * y) :: st) I Q) : WP μ n Rf pc ls (.int y :: .int x :: st) I Q := by
  intro G ad A p l e s m args below meth c H locs lsA C hP hD hS hl
  exact lv_imul C.1 C.2.1 hd (K G ad A p l e s m args below meth c H locs lsA C hP hD hS hl)
theorem w_iand {x y : Int32} (hd : decode μ.2.1 pc = .ok (.iand, 1)) (K : WP μ n Rf (pc + 1) ls (.int (x &&& y) :: st) I Q) : WP μ n Rf pc ls (.int y :: .int x :: st) I Q := by
  intro G ad A p l e s m args below meth c H locs lsA C hP hD hS hl
  exact lv_iand C.1 C.2.1 hd (K G ad A p l e s m args below meth c H locs lsA C hP hD hS hl)
theorem w_ior {x y : Int32} (hd : decode μ.2.1 pc = .ok (.ior, 1)) (K : WP μ n Rf (pc + 1) ls (.int (x ||| y) :: st) I Q) : WP μ n Rf pc ls (.int y :: .int x :: st) I Q := by
  intro G ad A p l e s m args below meth c H locs lsA C hP hD hS hl
  exact lv_ior C.1 C.2.1 hd (K G ad A p l e s m args below meth c H locs lsA C hP hD hS hl)
theorem w_ixor {x y : Int32} (hd : decode μ.2.1 pc = .ok (.ixor, 1)) (K : WP μ n Rf (pc + 1) ls (.int (x ^^^ y) :: st) I Q) : WP μ n Rf pc ls (.int y :: .int x :: st) I Q := by
  intro G ad A p l e s m args below meth c H locs lsA C hP hD hS hl
  exact lv_ixor C.1 C.2.1 hd (K G ad A p l e s m args below meth c H locs lsA C hP hD hS hl)
theorem w_ishl {x y : Int32} (hd : decode μ.2.1 pc = .ok (.ishl, 1)) (K : WP μ n Rf (pc + 1) ls (.int (x <<< (y &&& 31)) :: st) I Q) : WP μ n Rf pc ls (.int y :: .int x :: st) I Q := by
  intro G ad A p l e s m args below meth c H locs lsA C hP hD hS hl
  exact lv_ishl C.1 C.2.1 hd (K G ad A p l e s m args below meth c H locs lsA C hP hD hS hl)
theorem w_ishr {x y : Int32} (hd : decode μ.2.1 pc = .ok (.ishr, 1)) (K : WP μ n Rf (pc + 1) ls (.int (x >>> (y &&& 31)) :: st) I Q) : WP μ n Rf pc ls (.int y :: .int x :: st) I Q := by
  intro G ad A p l e s m args below meth c H locs lsA C hP hD hS hl
  exact lv_ishr C.1 C.2.1 hd (K G ad A p l e s m args below meth c H locs lsA C hP hD hS hl)
theorem w_idiv {x y : Int32} (hd : decode μ.2.1 pc = .ok (.idiv, 1)) (hy : ¬ y = 0) (K : WP μ n Rf (pc + 1) ls (.int (x / y) :: st) I Q) : WP μ n Rf pc ls (.int y :: .int x :: st) I Q := by
  intro G ad A p l e s m args below meth c H locs lsA C hP hD hS hl
  exact lv_idiv C.1 C.2.1 hd hy (K G ad A p l e s m args below meth c H locs lsA C hP hD hS hl)
theorem w_irem {x y : Int32} (hd : decode μ.2.1 pc = .ok (.irem, 1)) (hy : ¬ y = 0) (K : WP μ n Rf (pc + 1) ls (.int (x - x / y * y) :: st) I Q) : WP μ n Rf pc ls (.int y :: .int x :: st) I Q := by
  intro G ad A p l e s m args below meth c H locs lsA C hP hD hS hl
  exact lv_irem C.1 C.2.1 hd hy (K G ad A p l e s m args below meth c H locs lsA C hP hD hS hl)
theorem w_i2l {x : Int32} (hd : decode μ.2.1 pc = .ok (.i2l, 1)) (K : WP μ n Rf (pc + 1) ls (.long x.toInt64 :: st) I Q) : WP μ n Rf pc ls (.int x :: st) I Q := by
  intro G ad A p l e s m args below meth c H locs lsA C hP hD hS hl
  exact lv_i2l C.1 C.2.1 hd rfl (K G ad A p l e s m args below meth c H locs lsA C hP hD hS hl)
theorem w_i2b {x : Int32} (hd : decode μ.2.1 pc = .ok (.i2b, 1)) (K : WP μ n Rf (pc + 1) ls (.int x.toInt8.toInt32 :: st) I Q) : WP μ n Rf pc ls (.int x :: st) I Q := by
  intro G ad A p l e s m args below meth c H locs lsA C hP hD hS hl
  exact lv_i2b C.1 C.2.1 hd rfl (K G ad A p l e s m args below meth c H locs lsA C hP hD hS hl)
theorem w_i2c {x : Int32} (hd : decode μ.2.1 pc = .ok (.i2c, 1)) (K : WP μ n Rf (pc + 1) ls (.int (x.toUInt32 % 65536).toInt32 :: st) I Q) : WP μ n Rf pc ls (.int x :: st) I Q := by
  intro G ad A p l e s m args below meth c H locs lsA C hP hD hS hl
  exact lv_i2c C.1 C.2.1 hd rfl (K G ad A p l e s m args below meth c H locs lsA C hP hD hS hl)
theorem w_lcmp {x y : Int64} (hd : decode μ.2.1 pc = .ok (.lcmp, 1)) (K : WP μ n Rf (pc + 1) ls (.int (lg_cmp x y) :: st) I Q) : WP μ n Rf pc ls (.long y :: .long x :: st) I Q := by
  intro G ad A p l e s m args below meth c H locs lsA C hP hD hS hl
  exact W.lcmp C.1 C.2.1 hd (K G ad A p l e s m args below meth c H locs lsA C hP hD hS hl)
theorem w_dup {v : Value} (hd : decode μ.2.1 pc = .ok (.dup, 1)) (hv : v.category = 1) (K : WP μ n Rf (pc + 1) ls (v :: v :: st) I Q) : WP μ n Rf pc ls (v :: st) I Q := by
  intro G ad A p l e s m args below meth c H locs lsA C hP hD hS hl
  exact lv_dup C.1 C.2.1 hd (by rw [cvt_cat (Sx_fm C.2.2.2.2.2.2.2.2.2)]; exact hv) (K G ad A p l e s m args below meth c H locs lsA C hP hD hS hl)
theorem w_dup2 {v w : Value} (hd : decode μ.2.1 pc = .ok (.dup2, 1)) (hv : v.category = 1) (hw : w.category = 1) (K : WP μ n Rf (pc + 1) ls (v :: w :: v :: w :: st) I Q) : WP μ n Rf pc ls (v :: w :: st) I Q := by
  intro G ad A p l e s m args below meth c H locs lsA C hP hD hS hl
  exact lv_dup2_11 C.1 C.2.1 hd (by rw [cvt_cat (Sx_fm C.2.2.2.2.2.2.2.2.2)]; exact hv) (by rw [cvt_cat (Sx_fm C.2.2.2.2.2.2.2.2.2)]; exact hw) (K G ad A p l e s m args below meth c H locs lsA C hP hD hS hl)
theorem w_pop {v : Value} (hd : decode μ.2.1 pc = .ok (.pop, 1)) (hv : v.category = 1) (K : WP μ n Rf (pc + 1) ls st I Q) : WP μ n Rf pc ls (v :: st) I Q := by
  intro G ad A p l e s m args below meth c H locs lsA C hP hD hS hl
  exact lv_pop C.1 C.2.1 hd (by rw [cvt_cat (Sx_fm C.2.2.2.2.2.2.2.2.2)]; exact hv) (K G ad A p l e s m args below meth c H locs lsA C hP hD hS hl)
theorem w_goto {off : Int} {t : Nat} (hd : decode μ.2.1 pc = .ok (.goto off, 3)) (ht : (pc : Int) + off = (t : Int)) (K : WP μ n Rf t ls st I Q) : WP μ n Rf pc ls st I Q := by
  intro G ad A p l e s m args below meth c H locs lsA C hP hD hS hl
  exact lv_goto C.1 C.2.1 hd ht (K G ad A p l e s m args below meth c H locs lsA C hP hD hS hl)
theorem w_icmp_eq {x y : Int32} {off : Int} {t : Nat} (hd : decode μ.2.1 pc = .ok (.if_icmp .eq off, 3)) (ht : (pc : Int) + off = (t : Int)) (K1 : x = y → WP μ n Rf t ls st I Q) (K2 : ¬ x = y → WP μ n Rf (pc + 3) ls st I Q) : WP μ n Rf pc ls (.int y :: .int x :: st) I Q := by
  intro G ad A p l e s m args below meth c H locs lsA C hP hD hS hl
  exact lv_icmp_eq C.1 C.2.1 hd ht (fun h => K1 h G ad A p l e s m args below meth c H locs lsA C hP hD hS hl) (fun h => K2 h G ad A p l e s m args below meth c H locs lsA C hP hD hS hl)
theorem w_icmp_ne {x y : Int32} {off : Int} {t : Nat} (hd : decode μ.2.1 pc = .ok (.if_icmp .ne off, 3)) (ht : (pc : Int) + off = (t : Int)) (K1 : ¬ x = y → WP μ n Rf t ls st I Q) (K2 : x = y → WP μ n Rf (pc + 3) ls st I Q) : WP μ n Rf pc ls (.int y :: .int x :: st) I Q := by
  intro G ad A p l e s m args below meth c H locs lsA C hP hD hS hl
  exact lv_icmp_ne C.1 C.2.1 hd ht (fun h => K1 h G ad A p l e s m args below meth c H locs lsA C hP hD hS hl) (fun h => K2 h G ad A p l e s m args below meth c H locs lsA C hP hD hS hl)
theorem w_icmp_lt {x y : Int32} {off : Int} {t : Nat} (hd : decode μ.2.1 pc = .ok (.if_icmp .lt off, 3)) (ht : (pc : Int) + off = (t : Int)) (K1 : x < y → WP μ n Rf t ls st I Q) (K2 : ¬ x < y → WP μ n Rf (pc + 3) ls st I Q) : WP μ n Rf pc ls (.int y :: .int x :: st) I Q := by
  intro G ad A p l e s m args below meth c H locs lsA C hP hD hS hl
  exact lv_icmp_lt C.1 C.2.1 hd ht (fun h => K1 h G ad A p l e s m args below meth c H locs lsA C hP hD hS hl) (fun h => K2 h G ad A p l e s m args below meth c H locs lsA C hP hD hS hl)
theorem w_icmp_ge {x y : Int32} {off : Int} {t : Nat} (hd : decode μ.2.1 pc = .ok (.if_icmp .ge off, 3)) (ht : (pc : Int) + off = (t : Int)) (K1 : y ≤ x → WP μ n Rf t ls st I Q) (K2 : ¬ y ≤ x → WP μ n Rf (pc + 3) ls st I Q) : WP μ n Rf pc ls (.int y :: .int x :: st) I Q := by
  intro G ad A p l e s m args below meth c H locs lsA C hP hD hS hl
  exact lv_icmp_ge C.1 C.2.1 hd ht (fun h => K1 h G ad A p l e s m args below meth c H locs lsA C hP hD hS hl) (fun h => K2 h G ad A p l e s m args below meth c H locs lsA C hP hD hS hl)
theorem w_icmp_gt {x y : Int32} {off : Int} {t : Nat} (hd : decode μ.2.1 pc = .ok (.if_icmp .gt off, 3)) (ht : (pc : Int) + off = (t : Int)) (K1 : y < x → WP μ n Rf t ls st I Q) (K2 : ¬ y < x → WP μ n Rf (pc + 3) ls st I Q) : WP μ n Rf pc ls (.int y :: .int x :: st) I Q := by
  intro G ad A p l e s m args below meth c H locs lsA C hP hD hS hl
  exact lv_icmp_gt C.1 C.2.1 hd ht (fun h => K1 h G ad A p l e s m args below meth c H locs lsA C hP hD hS hl) (fun h => K2 h G ad A p l e s m args below meth c H locs lsA C hP hD hS hl)
theorem w_icmp_le {x y : Int32} {off : Int} {t : Nat} (hd : decode μ.2.1 pc = .ok (.if_icmp .le off, 3)) (ht : (pc : Int) + off = (t : Int)) (K1 : x ≤ y → WP μ n Rf t ls st I Q) (K2 : ¬ x ≤ y → WP μ n Rf (pc + 3) ls st I Q) : WP μ n Rf pc ls (.int y :: .int x :: st) I Q := by
  intro G ad A p l e s m args below meth c H locs lsA C hP hD hS hl
  exact lv_icmp_le C.1 C.2.1 hd ht (fun h => K1 h G ad A p l e s m args below meth c H locs lsA C hP hD hS hl) (fun h => K2 h G ad A p l e s m args below meth c H locs lsA C hP hD hS hl)
theorem w_if_eq {x : Int32} {off : Int} {t : Nat} (hd : decode μ.2.1 pc = .ok (.ifCond .eq off, 3)) (ht : (pc : Int) + off = (t : Int)) (K1 : x = 0 → WP μ n Rf t ls st I Q) (K2 : ¬ x = 0 → WP μ n Rf (pc + 3) ls st I Q) : WP μ n Rf pc ls (.int x :: st) I Q := by
  intro G ad A p l e s m args below meth c H locs lsA C hP hD hS hl
  exact lv_if_eq C.1 C.2.1 hd ht (fun h => K1 h G ad A p l e s m args below meth c H locs lsA C hP hD hS hl) (fun h => K2 h G ad A p l e s m args below meth c H locs lsA C hP hD hS hl)
theorem w_if_ne {x : Int32} {off : Int} {t : Nat} (hd : decode μ.2.1 pc = .ok (.ifCond .ne off, 3)) (ht : (pc : Int) + off = (t : Int)) (K1 : ¬ x = 0 → WP μ n Rf t ls st I Q) (K2 : x = 0 → WP μ n Rf (pc + 3) ls st I Q) : WP μ n Rf pc ls (.int x :: st) I Q := by
  intro G ad A p l e s m args below meth c H locs lsA C hP hD hS hl
  exact lv_if_ne C.1 C.2.1 hd ht (fun h => K1 h G ad A p l e s m args below meth c H locs lsA C hP hD hS hl) (fun h => K2 h G ad A p l e s m args below meth c H locs lsA C hP hD hS hl)
theorem w_if_lt {x : Int32} {off : Int} {t : Nat} (hd : decode μ.2.1 pc = .ok (.ifCond .lt off, 3)) (ht : (pc : Int) + off = (t : Int)) (K1 : x < 0 → WP μ n Rf t ls st I Q) (K2 : ¬ x < 0 → WP μ n Rf (pc + 3) ls st I Q) : WP μ n Rf pc ls (.int x :: st) I Q := by
  intro G ad A p l e s m args below meth c H locs lsA C hP hD hS hl
  exact lv_if_lt C.1 C.2.1 hd ht (fun h => K1 h G ad A p l e s m args below meth c H locs lsA C hP hD hS hl) (fun h => K2 h G ad A p l e s m args below meth c H locs lsA C hP hD hS hl)
theorem w_if_ge {x : Int32} {off : Int} {t : Nat} (hd : decode μ.2.1 pc = .ok (.ifCond .ge off, 3)) (ht : (pc : Int) + off = (t : Int)) (K1 : 0 ≤ x → WP μ n Rf t ls st I Q) (K2 : ¬ 0 ≤ x → WP μ n Rf (pc + 3) ls st I Q) : WP μ n Rf pc ls (.int x :: st) I Q := by
  intro G ad A p l e s m args below meth c H locs lsA C hP hD hS hl
  exact lv_if_ge C.1 C.2.1 hd ht (fun h => K1 h G ad A p l e s m args below meth c H locs lsA C hP hD hS hl) (fun h => K2 h G ad A p l e s m args below meth c H locs lsA C hP hD hS hl)
theorem w_if_gt {x : Int32} {off : Int} {t : Nat} (hd : decode μ.2.1 pc = .ok (.ifCond .gt off, 3)) (ht : (pc : Int) + off = (t : Int)) (K1 : 0 < x → WP μ n Rf t ls st I Q) (K2 : ¬ 0 < x → WP μ n Rf (pc + 3) ls st I Q) : WP μ n Rf pc ls (.int x :: st) I Q := by
  intro G ad A p l e s m args below meth c H locs lsA C hP hD hS hl
  exact lv_if_gt C.1 C.2.1 hd ht (fun h => K1 h G ad A p l e s m args below meth c H locs lsA C hP hD hS hl) (fun h => K2 h G ad A p l e s m args below meth c H locs lsA C hP hD hS hl)
theorem w_if_le {x : Int32} {off : Int} {t : Nat} (hd : decode μ.2.1 pc = .ok (.ifCond .le off, 3)) (ht : (pc : Int) + off = (t : Int)) (K1 : x ≤ 0 → WP μ n Rf t ls st I Q) (K2 : ¬ x ≤ 0 → WP μ n Rf (pc + 3) ls st I Q) : WP μ n Rf pc ls (.int x :: st) I Q := by
  intro G ad A p l e s m args below meth c H locs lsA C hP hD hS hl
  exact lv_if_le C.1 C.2.1 hd ht (fun h => K1 h G ad A p l e s m args below meth c H locs lsA C hP hD hS hl) (fun h => K2 h G ad A p l e s m args below meth c H locs lsA C hP hD hS hl)
end WR
end
section
/-! fields, arrays, returns, calls, over WP -/
section WH
variable {μ : mD} {n : Nat} {Rf : MR} {pc : Nat} {ls : List (Option Value)} {st : List Value} {I : MI} {Q : Option Value → MI → Prop}
theorem Cx_w {G : gG} {A : Nat → Prop} {p : Program} {s : State} {m : MethodId} {args : Array Value} {meth : Method} {c : Code} (C : Cx G μ A p s m args meth c) {w : Cond} (h : w ∈ tbl) : w.before args s = true := C.2.2.2.2.2.1 w (List.mem_cons_of_mem _ h)
theorem fv_at {ad : Nat → Nat} {ci N k : Nat} {r : Nat → Option Nat} {f : Nat → Int32} (h : k < N) : ((List.range N).map (fv ad ci r f))[k]? = some (fv ad ci r f k) := by simp [h]
theorem w_getI {idx c0 ci k N : Nat} {Cn : String} {T : u_T} {ty : Nat → FieldType} (hd : decode μ.2.1 pc = .ok (.getfield idx, 3)) (hw : Cond.fieldLink μ.1.cls idx (T k).1 (T k).2.1 (T k).2.2.1 ∈ tbl) (ho : okC ci Cn T N ty) (h0 : kd c0 = (0, ci)) (hlt : c0 < n) (hk : k < N) (hf : fR ci k = false) (K : WP μ n Rf (pc + 3) ls (.int (I c0 k) :: st) I Q) : WP μ n Rf pc ls (.ref c0 :: st) I Q := by
  intro G ad A p l e s m args below meth c H locs lsA C hP hD hS hl
  refine va_get (D := G.1) (cl := vwCl) (ws := wl G ad n Rf I) (T := T) C.1 C.2.1 (C.2.2.2.2.2.1) (fun w h => List.mem_cons_of_mem _ (ho.2.1 w h)) C.2.2.2.2.1 C.2.2.2.2.2.2.2.1 hP c0 (wl_of h0 hlt) ho.1 k hk (Cx_w C hw) (fun _ h => h) (v := .int (I c0 k)) ?_ hd (K G ad A p l e s m args below meth c H locs lsA C hP hD hS hl)
  rw [ho.2.2.1, fv_at hk]
  simp [fv, hf]
theorem w_getR {idx c0 ci k N r : Nat} {Cn : String} {T : u_T} {ty : Nat → FieldType} (hd : decode μ.2.1 pc = .ok (.getfield idx, 3)) (hw : Cond.fieldLink μ.1.cls idx (T k).1 (T k).2.1 (T k).2.2.1 ∈ tbl) (ho : okC ci Cn T N ty) (h0 : kd c0 = (0, ci)) (hlt : c0 < n) (hk : k < N) (hf : fR ci k = true) (hr : Rf c0 k = some r) (K : WP μ n Rf (pc + 3) ls (.ref r :: st) I Q) : WP μ n Rf pc ls (.ref c0 :: st) I Q := by
  intro G ad A p l e s m args below meth c H locs lsA C hP hD hS hl
  refine va_get (D := G.1) (cl := vwCl) (ws := wl G ad n Rf I) (T := T) C.1 C.2.1 (C.2.2.2.2.2.1) (fun w h => List.mem_cons_of_mem _ (ho.2.1 w h)) C.2.2.2.2.1 C.2.2.2.2.2.2.2.1 hP c0 (wl_of h0 hlt) ho.1 k hk (Cx_w C hw) (fun _ h => h) (v := .ref (ad r)) ?_ hd (K G ad A p l e s m args below meth c H locs lsA C hP hD hS hl)
  rw [ho.2.2.1, fv_at hk]
  simp [fv, hf, hr, va_rf]
theorem w_putV {idx c0 ci k N : Nat} {Cn : String} {T : u_T} {ty : Nat → FieldType} {x : Int32} (hd : decode μ.2.1 pc = .ok (.putfield idx, 3)) (hw : Cond.fieldLink μ.1.cls idx (T k).1 (T k).2.1 (T k).2.2.1 ∈ tbl) (ho : okC ci Cn T N ty) (h0 : kd c0 = (0, ci)) (hlt : c0 < n) (hk : k < N) (hf : fR ci k = false) (hfin : (T k).2.2.2 = false) (hnr : narrow (ty k) (.int x) = .int x) (hfit : fits (ty k) (.int x) = true) (K : WP μ n Rf (pc + 3) ls st (up2 I c0 k x) Q) : WP μ n Rf pc ls (.int x :: .ref c0 :: st) I Q := by
  intro G ad A p l e s m args below meth c H locs lsA C hP hD hS hl
  refine va_put (D := G.1) (cl := vwCl) (ws := wl G ad n Rf I) (T := T) C.1 C.2.1 (C.2.2.2.2.2.1) (fun w h => List.mem_cons_of_mem _ (ho.2.1 w h)) ty ho.2.2.2.1 ho.2.2.2.2 C.2.2.2.2.1 C.2.2.2.2.2.2.2.1 hP hD hS c0 (wl_of h0 hlt) ho.1 k hk (Cx_w C hw) (fun _ h => h) hfin (ho.2.2.2.1 k hk) (v := .int x) hnr hfit (by simp [ho.2.2.1, hk]) hd ?_
  intro H1 locs1 hP1 hD1 hS1
  rw [fv_set hf] at hP1 hD1
  have e1 : (wl G ad n Rf I).set c0 (ad c0, ce G ad (0, ci) (Rf c0) (upd (I c0) k x)) = wl G ad n Rf (up2 I c0 k x) := wl_set h0 _
  exact K G ad A p l e s m args below meth c H1 locs1 lsA C (e1 ▸ hP1) (e1 ▸ hD1) hS1 hl
theorem w_putI {idx c0 ci k N : Nat} {Cn : String} {T : u_T} {ty : Nat → FieldType} {x : Int32} (hd : decode μ.2.1 pc = .ok (.putfield idx, 3)) (hw : Cond.fieldLink μ.1.cls idx (T k).1 (T k).2.1 (T k).2.2.1 ∈ tbl) (ho : okC ci Cn T N ty) (h0 : kd c0 = (0, ci)) (hlt : c0 < n) (hk : k < N) (hf : fR ci k = false) (hfin : (T k).2.2.2 = false) (hty : ty k = .int) (K : WP μ n Rf (pc + 3) ls st (up2 I c0 k x) Q) : WP μ n Rf pc ls (.int x :: .ref c0 :: st) I Q :=
  w_putV hd hw ho h0 hlt hk hf hfin (by rw [hty]; rfl) (by rw [hty]; rfl) K
theorem w_putZ {idx c0 ci k N : Nat} {Cn : String} {T : u_T} {ty : Nat → FieldType} {x : Int32} (hd : decode μ.2.1 pc = .ok (.putfield idx, 3)) (hw : Cond.fieldLink μ.1.cls idx (T k).1 (T k).2.1 (T k).2.2.1 ∈ tbl) (ho : okC ci Cn T N ty) (h0 : kd c0 = (0, ci)) (hlt : c0 < n) (hk : k < N) (hf : fR ci k = false) (hfin : (T k).2.2.2 = false) (hty : ty k = .boolean) (hx : x = 0 ∨ x = 1) (K : WP μ n Rf (pc + 3) ls st (up2 I c0 k x) Q) : WP μ n Rf pc ls (.int x :: .ref c0 :: st) I Q :=
  w_putV hd hw ho h0 hlt hk hf hfin (by rw [hty]; rcases hx with rfl | rfl <;> rfl) (by rw [hty]; rcases hx with rfl | rfl <;> rfl) K
theorem w_iald {c0 N : Nat} {i : Int32} (hd : decode μ.2.1 pc = .ok (.iaload, 1)) (h0 : kd c0 = (1, N)) (hlt : c0 < n) (hi : vp_in i N) (K : WP μ n Rf (pc + 1) ls (.int (I c0 i.toNatClampNeg) :: st) I Q) : WP μ n Rf pc ls (.int i :: .ref c0 :: st) I Q := by
  intro G ad A p l e s m args below meth c H locs lsA C hP hD hS hl
  exact va_iald (D := G.1) (cl := vwCl) (tys := tysG G) (ws := wl G ad n Rf I) (f := I c0) C.1 C.2.1 C.2.2.2.2.2.2.2.1 hP c0 0 (wl_of h0 hlt) rfl hi hd (K G ad A p l e s m args below meth c H locs lsA C hP hD hS hl)
theorem w_bald {c0 N : Nat} {i : Int32} (hd : decode μ.2.1 pc = .ok (.baload, 1)) (h0 : kd c0 = (2, N)) (hlt : c0 < n) (hi : vp_in i N) (K : WP μ n Rf (pc + 1) ls (.int (I c0 i.toNatClampNeg) :: st) I Q) : WP μ n Rf pc ls (.int i :: .ref c0 :: st) I Q := by
  intro G ad A p l e s m args below meth c H locs lsA C hP hD hS hl
  exact va_bald (D := G.1) (cl := vwCl) (tys := tysG G) (ws := wl G ad n Rf I) (f := I c0) C.1 C.2.1 C.2.2.2.2.2.2.2.1 hP c0 1 (wl_of h0 hlt) rfl hi hd (K G ad A p l e s m args below meth c H locs lsA C hP hD hS hl)
theorem w_zald {c0 N : Nat} {i : Int32} (hd : decode μ.2.1 pc = .ok (.baload, 1)) (h0 : kd c0 = (3, N)) (hlt : c0 < n) (hi : vp_in i N) (K : WP μ n Rf (pc + 1) ls (.int (I c0 i.toNatClampNeg) :: st) I Q) : WP μ n Rf pc ls (.int i :: .ref c0 :: st) I Q := by
  intro G ad A p l e s m args below meth c H locs lsA C hP hD hS hl
  exact va_zald (D := G.1) (cl := vwCl) (tys := tysG G) (ws := wl G ad n Rf I) (f := I c0) C.1 C.2.1 C.2.2.2.2.2.2.2.1 hP c0 2 (wl_of h0 hlt) rfl hi hd (K G ad A p l e s m args below meth c H locs lsA C hP hD hS hl)
theorem w_aald {c0 N r : Nat} {i : Int32} (hd : decode μ.2.1 pc = .ok (.aaload, 1)) (h0 : kd c0 = (4, N)) (hlt : c0 < n) (hi : vp_in i N) (hr : Rf c0 i.toNatClampNeg = some r) (K : WP μ n Rf (pc + 1) ls (.ref r :: st) I Q) : WP μ n Rf pc ls (.int i :: .ref c0 :: st) I Q := by
  intro G ad A p l e s m args below meth c H locs lsA C hP hD hS hl
  have hk := K G ad A p l e s m args below meth c H locs lsA C hP hD hS hl
  refine va_aldq (D := G.1) (cl := vwCl) (tys := tysG G) (ws := wl G ad n Rf I) (f := fun k => (Rf c0 k).map ad) C.1 C.2.1 C.2.2.2.2.2.2.2.1 hP c0 3 (wl_of h0 hlt) rfl hi hd ?_
  simp only [hr, Option.map_some, va_rf]
  exact hk
theorem w_iast {c0 N : Nat} {i x : Int32} (hd : decode μ.2.1 pc = .ok (.iastore, 1)) (h0 : kd c0 = (1, N)) (hlt : c0 < n) (hi : vp_in i N) (K : WP μ n Rf (pc + 1) ls st (up2 I c0 i.toNatClampNeg x) Q) : WP μ n Rf pc ls (.int x :: .int i :: .ref c0 :: st) I Q := by
  intro G ad A p l e s m args below meth c H locs lsA C hP hD hS hl
  refine va_iast (D := G.1) (cl := vwCl) (tys := tysG G) (ws := wl G ad n Rf I) (f := I c0) C.1 C.2.1 C.2.2.2.2.2.2.2.1 hP hD hS c0 0 (wl_of h0 hlt) rfl hi hd ?_
  intro H1 locs1 hP1 hD1 hS1
  have e1 : (wl G ad n Rf I).set c0 (ad c0, ce G ad (1, N) (Rf c0) (upd (I c0) i.toNatClampNeg x)) = wl G ad n Rf (up2 I c0 i.toNatClampNeg x) := wl_set h0 _
  exact K G ad A p l e s m args below meth c H1 locs1 lsA C (e1 ▸ hP1) (e1 ▸ hD1) hS1 hl
theorem w_bast {c0 N : Nat} {i x : Int32} (hd : decode μ.2.1 pc = .ok (.bastore, 1)) (h0 : kd c0 = (2, N)) (hlt : c0 < n) (hi : vp_in i N) (K : WP μ n Rf (pc + 1) ls st (up2 I c0 i.toNatClampNeg (vp_nar .byte x)) Q) : WP μ n Rf pc ls (.int x :: .int i :: .ref c0 :: st) I Q := by
  intro G ad A p l e s m args below meth c H locs lsA C hP hD hS hl
  refine va_bast (D := G.1) (cl := vwCl) (tys := tysG G) (ws := wl G ad n Rf I) (f := I c0) C.1 C.2.1 C.2.2.2.2.2.2.2.1 hP hD hS c0 1 (wl_of h0 hlt) rfl hi hd ?_
  intro H1 locs1 hP1 hD1 hS1
  have e1 : (wl G ad n Rf I).set c0 (ad c0, ce G ad (2, N) (Rf c0) (upd (I c0) i.toNatClampNeg (vp_nar .byte x))) = wl G ad n Rf (up2 I c0 i.toNatClampNeg (vp_nar .byte x)) := wl_set h0 _
  exact K G ad A p l e s m args below meth c H1 locs1 lsA C (e1 ▸ hP1) (e1 ▸ hD1) hS1 hl
theorem w_zast {c0 N : Nat} {i x : Int32} (hd : decode μ.2.1 pc = .ok (.bastore, 1)) (h0 : kd c0 = (3, N)) (hlt : c0 < n) (hi : vp_in i N) (K : WP μ n Rf (pc + 1) ls st (up2 I c0 i.toNatClampNeg (vp_nar .boolean x)) Q) : WP μ n Rf pc ls (.int x :: .int i :: .ref c0 :: st) I Q := by
  intro G ad A p l e s m args below meth c H locs lsA C hP hD hS hl
  refine va_zast (D := G.1) (cl := vwCl) (tys := tysG G) (ws := wl G ad n Rf I) (f := I c0) C.1 C.2.1 C.2.2.2.2.2.2.2.1 hP hD hS c0 2 (wl_of h0 hlt) rfl hi hd ?_
  intro H1 locs1 hP1 hD1 hS1
  have e1 : (wl G ad n Rf I).set c0 (ad c0, ce G ad (3, N) (Rf c0) (upd (I c0) i.toNatClampNeg (vp_nar .boolean x))) = wl G ad n Rf (up2 I c0 i.toNatClampNeg (vp_nar .boolean x)) := wl_set h0 _
  exact K G ad A p l e s m args below meth c H1 locs1 lsA C (e1 ▸ hP1) (e1 ▸ hD1) hS1 hl
theorem w_alen {c0 N : Nat} {v : Int32} (hd : decode μ.2.1 pc = .ok (.arraylength, 1)) (h0 : kd c0 = (1, N)) (hlt : c0 < n) (hv : Int32.ofNat N = v) (K : WP μ n Rf (pc + 1) ls (.int v :: st) I Q) : WP μ n Rf pc ls (.ref c0 :: st) I Q := by
  intro G ad A p l e s m args below meth c H locs lsA C hP hD hS hl
  exact va_alen (D := G.1) (cl := vwCl) (tys := tysG G) (ws := wl G ad n Rf I) C.1 C.2.1 C.2.2.2.2.2.2.2.1 hP c0 0 (wl_of h0 hlt) (ty := .int) rfl hv hd (K G ad A p l e s m args below meth c H locs lsA C hP hD hS hl)
/-- System.arraycopy between two int arrays -/
theorem w_copy {idx a0 a1 n0 n1 : Nat} {sp dp k : Int32} (hd : decode μ.2.1 pc = .ok (.invokestatic idx, 3)) (hw : Cond.methodLink μ.1.cls idx arraycopyName ∈ tbl) (hw2 : Cond.native arraycopyName ∈ tbl) (hw3 : Cond.static arraycopyName ∈ tbl) (hw4 : Cond.initialized "java/lang/System" ∈ tbl) (h0 : kd a0 = (1, n0)) (h1 : kd a1 = (1, n1)) (hl0 : a0 < n) (hl1 : a1 < n) (h2 : ¬ sp < 0) (h3 : ¬ dp < 0) (h4 : ¬ k < 0) (h5 : sp.toNatClampNeg + k.toNatClampNeg ≤ n0) (h6 : dp.toNatClampNeg + k.toNatClampNeg ≤ n1) (hf : 1 ≤ μ.2.2.2.2.1) (hlo : (st.map fun v => v.category).sum + (nativeFrameWords "java/lang/System" "arraycopy" 5 + 11) ≤ μ.2.2.2.2.2)
    (K : WP μ n Rf (pc + 3) ls st (upA I a1 (va_cpy (I a0) (I a1) sp.toNatClampNeg dp.toNatClampNeg k.toNatClampNeg)) Q) : WP μ n Rf pc ls (.int k :: .int dp :: .ref a1 :: .int sp :: .ref a0 :: st) I Q := by
  intro G ad A p l e s m args below meth c H locs lsA C hP hD hS hl
  refine va_copyi (D := G.1) (cl := vwCl) (tys := tysG G) (ws := wl G ad n Rf I) (f := I a0) (g := I a1) (ty := .int) C.1 C.2.1 (by rw [C.2.2.2.1, hl.1]) C.2.2.2.2.1 (Cx_w C hw) (Cx_w C hw2) (Cx_w C hw3) (Cx_w C hw4) C.2.2.2.2.2.2.2.1 hP hD hS a0 a1 0 0 (wl_of h0 hl0) (wl_of h1 hl1) rfl rfl rfl h2 h3 h4 h5 h6 (fun _ _ => rfl) hf (by rw [cvt_sum (Sx_fm C.2.2.2.2.2.2.2.2.2)]; exact hlo) hd ?_
  intro H1 locs1 hP1 hD1 hS1
  have e1 : (wl G ad n Rf I).set a1 (ad a1, ce G ad (1, n1) (Rf a1) (va_cpy (I a0) (I a1) sp.toNatClampNeg dp.toNatClampNeg k.toNatClampNeg)) = wl G ad n Rf (upA I a1 (va_cpy (I a0) (I a1) sp.toNatClampNeg dp.toNatClampNeg k.toNatClampNeg)) := wl_set h1 _
  exact K G ad A p l e s m args below meth c H1 locs1 lsA C (e1 ▸ hP1) (e1 ▸ hD1) hS1 hl
theorem w_max {idx : Nat} {x y : Int32} (hd : decode μ.2.1 pc = .ok (.invokestatic idx, 3)) (hw : Cond.methodLink μ.1.cls idx Lib.Math.max.name ∈ tbl) (hw2 : Cond.static Lib.Math.max.name ∈ tbl) (hw3 : Cond.initialized "java/lang/Math" ∈ tbl) (hw4 : Cond.code Lib.Math.max.name Lib.Math.max.code 2 (some .int) ∈ tbl) (hf : 1 ≤ μ.2.2.2.2.1) (hlo : (st.map fun v => v.category).sum + 13 ≤ μ.2.2.2.2.2) (K : WP μ n Rf (pc + 3) ls (.int (if x < y then y else x) :: st) I Q) : WP μ n Rf pc ls (.int y :: .int x :: st) I Q := by
  intro G ad A p l e s m args below meth c H locs lsA C hP hD hS hl
  exact va_mmax C.1 C.2.1 (by rw [C.2.2.2.1, hl.1]) C.2.2.2.2.1 (Cx_w C hw) (Cx_w C hw2) (Cx_w C hw3) (Cx_w C hw4) hf (by rw [cvt_sum (Sx_fm C.2.2.2.2.2.2.2.2.2)]; exact hlo) (Nat.le_refl 0) (Nat.le_refl 0) hd (K G ad A p l e s m args below meth c H locs lsA C hP hD hS hl)
theorem w_min {idx : Nat} {x y : Int32} (hd : decode μ.2.1 pc = .ok (.invokestatic idx, 3)) (hw : Cond.methodLink μ.1.cls idx Lib.Math.min.name ∈ tbl) (hw2 : Cond.static Lib.Math.min.name ∈ tbl) (hw3 : Cond.initialized "java/lang/Math" ∈ tbl) (hw4 : Cond.code Lib.Math.min.name Lib.Math.min.code 2 (some .int) ∈ tbl) (hf : 1 ≤ μ.2.2.2.2.1) (hlo : (st.map fun v => v.category).sum + 13 ≤ μ.2.2.2.2.2) (K : WP μ n Rf (pc + 3) ls (.int (if y < x then y else x) :: st) I Q) : WP μ n Rf pc ls (.int y :: .int x :: st) I Q := by
  intro G ad A p l e s m args below meth c H locs lsA C hP hD hS hl
  exact va_mmin C.1 C.2.1 (by rw [C.2.2.2.1, hl.1]) C.2.2.2.2.1 (Cx_w C hw) (Cx_w C hw2) (Cx_w C hw3) (Cx_w C hw4) hf (by rw [cvt_sum (Sx_fm C.2.2.2.2.2.2.2.2.2)]; exact hlo) (Nat.le_refl 0) (Nat.le_refl 0) hd (K G ad A p l e s m args below meth c H locs lsA C hP hD hS hl)
theorem w_iret {x : Int32} (hd : decode μ.2.1 pc = .ok (.ireturn, 1)) (hr : μ.2.2.2.1 = some .int) (K : Q (some (.int x)) I) : WP μ n Rf pc ls [.int x] I Q := by
  intro G ad A p l e s m args below meth c H locs lsA C hP hD hS hl
  exact W.iret (v := x) C.1 C.2.1 (C.2.2.1.trans hr) (fun t ht hW => ⟨⟨some (.int x), I, rfl, K, by rw [ht]; exact hP, hD⟩, hS.F ht⟩) hS.2.2 hd C.2.2.2.2.2.2.1
theorem w_zret {x : Int32} {ty : FieldType} (hd : decode μ.2.1 pc = .ok (.ireturn, 1)) (hr : μ.2.2.2.1 = some ty) (hn : narrow ty (.int x) = .int x) (K : Q (some (.int x)) I) : WP μ n Rf pc ls [.int x] I Q := by
  intro G ad A p l e s m args below meth c H locs lsA C hP hD hS hl
  exact W.zret (v := x) C.1 C.2.1 (C.2.2.1.trans hr) hn (fun t ht hW => ⟨⟨some (.int x), I, rfl, K, by rw [ht]; exact hP, hD⟩, hS.F ht⟩) hS.2.2 hd C.2.2.2.2.2.2.1
theorem w_vret (hd : decode μ.2.1 pc = .ok (.return_, 1)) (hr : μ.2.2.2.1 = none) (K : Q none I) : WP μ n Rf pc ls [] I Q := by
  intro G ad A p l e s m args below meth c H locs lsA C hP hD hS hl
  exact W.vret C.1 C.2.1 (C.2.2.1.trans hr) (fun t ht hW => ⟨⟨none, I, rfl, K, by rw [ht]; exact hP, hD⟩, hS.F ht⟩) hS.2.2 hd C.2.2.2.2.2.2.1
theorem w_aret {r : Nat} {rt : FieldType} (hd : decode μ.2.1 pc = .ok (.areturn, 1)) (hr : μ.2.2.2.1 = some rt) (hrt : (∃ n, rt = .object n) ∨ ∃ t, rt = .array t) (K : Q (some (.ref r)) I) : WP μ n Rf pc ls [.ref r] I Q := by
  intro G ad A p l e s m args below meth c H locs lsA C hP hD hS hl
  exact W.aret (v := .ref (ad r)) C.1 C.2.1 (C.2.2.1.trans hr) hrt (Or.inr ⟨_, rfl⟩) (fun t ht hW => ⟨⟨some (.ref r), I, rfl, K, by rw [ht]; exact hP, hD⟩, hS.F ht⟩) hS.2.2 hd C.2.2.2.2.2.2.1
end WH
end
section
/-! calls over WP -/
/-- the locals with which a method begins -/
def ent : List Value → List (Option Value)
  | [] => []
  | v :: r => some v :: (match v with | .long _ => none :: ent r | .double _ => none :: ent r | _ => ent r)
theorem ent_in {G : gG} {ad : Nat → Nat} (hf : G.2.2.1.category = 1) : ∀ (vs : List Value) (i k : Nat) (v : Value), (ent vs)[k]? = some (some v) → (i + k, cvt G ad v) ∈ lv_args i (vs.map (cvt G ad)) := by
  intro vs
  induction vs with
  | nil => intro i k v h; simp [ent] at h
  | cons w r ih =>
    intro i k v h
    rw [List.map_cons, lv_args, cvt_cat hf]
    cases k with
    | zero =>
      simp only [ent, List.getElem?_cons_zero, Option.some.injEq] at h
      subst h
      exact List.mem_cons_self
    | succ k =>
      refine List.mem_cons_of_mem _ ?_
      have two : ∀ (hc : w.category = 2), ent (w :: r) = some w :: none :: ent r → (i + (k + 1), cvt G ad v) ∈ lv_args (if w.category = 2 then i + 2 else i + 1) (r.map (cvt G ad)) := by
        intro hc he
        rw [if_pos hc]
        rw [he, List.getElem?_cons_succ] at h
        cases k with
        | zero => simp at h
        | succ k =>
          rw [List.getElem?_cons_succ] at h
          have := ih (i + 2) k v h
          rw [show i + (k + 1 + 1) = i + 2 + k by omega]
          exact this
      have one : ∀ (hc : ¬ w.category = 2), ent (w :: r) = some w :: ent r → (i + (k + 1), cvt G ad v) ∈ lv_args (if w.category = 2 then i + 2 else i + 1) (r.map (cvt G ad)) := by
        intro hc he
        rw [if_neg hc]
        rw [he, List.getElem?_cons_succ] at h
        have := ih (i + 1) k v h
        rw [show i + (k + 1) = i + 1 + k by omega]
        exact this
      cases w with
      | long x => exact two rfl rfl
      | double x => exact two rfl rfl
      | int x => exact one (by simp [Value.category]) rfl
      | float x => exact one (by simp [Value.category]) rfl
      | null => exact one (by decide) rfl
      | ref x => exact one (by simp [Value.category]) rfl
      | retAddr x => exact one (by simp [Value.category]) rfl
theorem ent_len {G : gG} {ad : Nat → Nat} (hf : G.2.2.1.category = 1) : ∀ vs : List Value, (lg_sl (vs.map (cvt G ad))).length = (ent vs).length := by
  intro vs
  induction vs with
  | nil => rfl
  | cons w r ih =>
    have e : lg_sl ((w :: r).map (cvt G ad)) = (if w.category = 2 then [Slot.val (cvt G ad w), Slot.second] else [Slot.val (cvt G ad w)]) ++ lg_sl (r.map (cvt G ad)) := by
      show (if (cvt G ad w).category = 2 then [Slot.val (cvt G ad w), Slot.second] else [Slot.val (cvt G ad w)]) ++ lg_sl (r.map (cvt G ad)) = _
      rw [cvt_cat hf]
    rw [e, List.length_append, ih]
    cases w <;> simp [ent, Value.category] <;> omega
def pad (vs : List Value) (nL : Nat) : List (Option Value) := ent vs ++ List.replicate (nL - (ent vs).length) none
/-- a method from its entry -/
def WPm (μ : mD) (n : Nat) (Rf : MR) (vs : List Value) (I : MI) (Q : Option Value → MI → Prop) : Prop := WP μ n Rf 0 (pad vs μ.2.2.1) [] I Q
def PreU (G : gG) (ad : Nat → Nat) (n : Nat) (Rf : MR) (I : MI) (sz : Nat) (U : State) : Prop :=
  U.heap.size = sz ∧ va_P G.1 vwCl (wl G ad n Rf I) U.heap ∧ va_K G.1 vwCl (tysG G) U ∧ va_D (fun _ => True) (wl G ad n Rf I) ∧ Sx G (va_A (wl G ad n Rf I) sz) U
theorem wp_met {μ : mD} {n : Nat} {Rf : MR} {vs : List Value} {I : MI} {Q : Option Value → MI → Prop} (hy : plainName μ.1.cls = true) (hlen : (ent vs).length ≤ μ.2.2.1) (h : WPm μ n Rf vs I Q) (l : Launch) (G : gG) (ad : Nat → Nat) (sz : Nat) :
    Met l μ.1 (wsM μ) (rmD μ) (va_Pc (vs.map (cvt G ad)) (PreU G ad n Rf I sz)) (Po G ad (va_A (wl G ad n Rf I) sz) n Rf Q) 0 0 (va_A (wl G ad n Rf I) sz) := by
  refine Met.ofW (cc := μ.2.1) (maxL := μ.2.2.1) (ret := μ.2.2.2.1) hy rfl ?_
  intro p e s m args below meth c s₁ B hml hv
  obtain ⟨rfl, rfl, hP, hK, hD0, hX⟩ := hv
  have hfm := Sx_fm hX
  have hts := atoms_spec (ws := wsM μ) B.pre
  have hown : s.vm.findClass μ.1.cls = some m.cls := findClass_of_methodNamed B.named
  have hle : (lg_sl (vs.map (cvt G ad))).length ≤ μ.2.2.1 := by rw [ent_len hfm]; exact hlen
  have hl := lv_entry (vs.map (cvt G ad)) hle
  rw [lg_entry_eq]
  refine h G ad _ p l e s m _ below meth c s.heap [] _ ⟨B.exec, B.bytes, B.returns, hml, hown, hts, B.notSynchronized, hK, fun q h => Or.inr h, hX⟩ hP (hD0.self (sz := s.heap.size)) va_S.rf ⟨hl.1, hl.2.1, fun k v hk => ?_⟩
  have hk2 : (ent vs)[k]? = some (some v) := by
    unfold pad at hk
    rcases Nat.lt_or_ge k (ent vs).length with q | q
    · rwa [List.getElem?_append_left q] at hk
    · rw [List.getElem?_append_right q, List.getElem?_replicate] at hk
      split at hk <;> simp at hk
  have := ent_in (G := G) (ad := ad) hfm vs 0 k v hk2
  rw [Nat.zero_add] at this
  exact hl.2.2 _ this
section WC
variable {p : Program} {l : Launch} {e : Env} {R : Room} {s : State} {m : MethodId} {args : Array Value} {below : List Frame} {meth : Method} {c : Code} {H : Heap} {locs : List Loc}
theorem wc_go {G : gG} {ad : Nat → Nat} {A A' : Nat → Prop} {n : Nat} {Rf : MR} {Q' : Option Value → MI → Prop} {Qf : State → Prop} {pc : Nat} {lsA : Array Slot} {st0 rest : List Value} {av : Array Value}
    (hr : va_Run p l e R s m args below meth c H locs 0 0 0 0 (F0 m pc lsA st0) rest (Po G ad A' n Rf Q' av) A') (hS : va_S A s.heap H locs) (hA : ∀ q, A' q → A q)
    (K : ∀ (v : Option Value) (I1 : MI) (H1 : Heap) (locs1 : List Loc), Q' v I1 → va_P G.1 vwCl (wl G ad n Rf I1) H1 → va_D A (wl G ad n Rf I1) → va_S A s.heap H1 locs1 → W p l e R s m args below meth c H1 locs1 0 0 Qf (F0 m (pc + 3) lsA ((v.map (cvt G ad)).toList ++ rest))) :
    W p l e R s m args below meth c H locs 0 0 Qf (F0 m pc lsA st0) := by
  intro T hT X
  obtain ⟨v, st₀, t, T', L, h0, X', hL, e1, e2, ⟨⟨v1, I1, hv, hq, hP1, hD1⟩, hz, hk⟩, st⟩ := hr T hT X
  cases hv
  rw [h0] at hz hk
  obtain ⟨t2, a1, b1⟩ := K v1 I1 T'.heap (locs ++ L) hq (by rw [e1]; exact hP1) (hD1.weaken (fun _ q _ h => hA q.1 h))
    ⟨Nat.le_trans hS.1 (by rw [e1]; exact hz), fun q h1 h2 => by rw [e1, hk q (Nat.lt_of_lt_of_le h1 hS.1) (fun z => h2 (hA q z))]; exact hS.2.1 q h1 h2, fun q hq => by
      rcases List.mem_append.mp hq with h | h
      · exact hS.2.2 q h
      · exact hA _ (hL q h)⟩ T' rfl X'
  exact ⟨t2, st t2 a1, b1⟩
end WC
theorem pre_blind {G : gG} {ad : Nat → Nat} {n : Nat} {Rf : MR} {I : MI} {sz : Nat} {av : List Value} : FrameBlind (va_Pc av (PreU G ad n Rf I sz)) := by
  intro a U g mk h
  obtain ⟨h1, h2, h3, h4, h5, h6⟩ := h
  exact ⟨h1, h2, h3, va_K.moved (u := U) (U := U.calling g mk a) (Vm.Alike.refl U.vm) h4, h5, Sx_same h6 rfl rfl⟩
theorem pre_here {G : gG} {ad : Nat → Nat} {A : Nat → Prop} {n : Nat} {Rf : MR} {I : MI} {s : State} {H : Heap} {locs : List Loc} (hP : va_P G.1 vwCl (wl G ad n Rf I) H) (hD : va_D A (wl G ad n Rf I)) (hS : va_S A s.heap H locs) (hK : va_K G.1 vwCl (tysG G) s) (hX : Sx G A s) (hA : ∀ q, va_A (wl G ad n Rf I) H.size q → A q) : ∀ U : State, U.heap = H → s.WarmedH U.vm → PreU G ad n Rf I H.size U := by
  intro U hU hW
  exact ⟨by rw [hU], by rw [hU]; exact hP, va_K.moved hW.alike hK, hD.weaken (fun _ _ _ _ => trivial), Sx_go hX hS hU hW hA⟩
theorem free_all {G : gG} {ad : Nat → Nat} {A : Nat → Prop} {n : Nat} {Rf : MR} {I : MI} {s : State} {H : Heap} {locs : List Loc} (hD : va_D A (wl G ad n Rf I)) (hS : va_S A s.heap H locs) (hA : ∀ q, s.heap.size ≤ q → A q) : ∀ q, va_A (wl G ad n Rf I) H.size q → A q := by
  intro q h
  rcases h with ⟨k, x, h⟩ | h
  · exact hD.2 k _ h
  · exact hA q (Nat.le_trans hS.1 h)
theorem good_ws {μ μ' : mD} (h : Cond.code μ'.1 μ'.2.1 μ'.2.2.1 μ'.2.2.2.1 ∈ tbl) : GoodIn (wsM μ) (wsM μ') := by
  intro w hw
  rcases List.mem_cons.mp hw with rfl | hw
  · exact ⟨List.mem_cons_of_mem _ h, good_of_word (tb_gd h)⟩
  · exact ⟨List.mem_cons_of_mem _ hw, good_of_word (tb_gd hw)⟩
def okN (μ : mD) (np : Nat) : Prop := plainName μ.1.cls = true ∧ Cond.initialized μ.1.cls ∈ tbl ∧ Cond.code μ.1 μ.2.1 μ.2.2.1 μ.2.2.2.1 ∈ tbl ∧ (μ.1.cls ≠ "java/lang/invoke/MethodHandle" ∧ μ.1.cls ≠ "java/lang/invoke/VarHandle" ∧ (parseMethodDescriptor μ.1.desc).map (fun d => d.parameters.length) = some np)
def okV (μ : mD) (np : Nat) : Prop := okN μ np ∧ Cond.instanceMethod μ.1 ∈ tbl ∧ Cond.selects μ.1.cls μ.1 μ.1 ∈ tbl
def okS (μ : mD) (np : Nat) : Prop := okN μ np ∧ Cond.static μ.1 ∈ tbl
section WD
variable {μ μ' : mD} {n : Nat} {Rf : MR} {pc idx np : Nat} {ls : List (Option Value)} {st As : List Value} {I : MI} {Q : Option Value → MI → Prop}
theorem out_map {G : gG} {ad : Nat → Nat} (v : Option Value) (st : List Value) : (v.toList ++ st).map (cvt G ad) = (v.map (cvt G ad)).toList ++ st.map (cvt G ad) := by
  cases v <;> simp
theorem w_callV {c0 ci : Nat} {q : vw_C} (hd : decode μ.2.1 pc = .ok (.invokevirtual idx, 3)) (hw : Cond.methodLink μ.1.cls idx μ'.1 ∈ tbl) (ho : okV μ' np) (h0 : kd c0 = (0, ci)) (hlt : c0 < n) (hcn : vwCl[ci]? = some q) (hcq : q.1 = μ'.1.cls) (hnp : As.length = np) (hlen : (ent (.ref c0 :: As)).length ≤ μ'.2.2.1) (hR : μ'.2.2.2.2.1 + 1 ≤ μ.2.2.2.2.1 ∧ 8 + (μ'.2.2.1 + 11) + μ'.2.2.2.2.2 ≤ μ.2.2.2.2.2) (hst : (st.map fun v => v.category).sum ≤ 8)
    (K : WPm μ' n Rf (.ref c0 :: As) I (fun v I1 => WP μ n Rf (pc + 3) ls (v.toList ++ st) I1 Q)) : WP μ n Rf pc ls (As.reverse ++ .ref c0 :: st) I Q := by
  intro G ad A p l e s m args below meth c H locs lsA C hP hD hS hl
  obtain ⟨hx, hb, hr, hml, hown, hts, hlk, hK, hA, hX⟩ := id C
  have hfm := Sx_fm hX
  have hF := free_all (G := G) hD hS hA
  have hM := wp_met ho.1.1 hlen K l G ad H.size
  have hrun : va_Run p l e (rmD μ) s m args below meth c H locs 0 0 0 0 (F0 m pc lsA ((As.reverse ++ .ref c0 :: st).map (cvt G ad))) (st.map (cvt G ad)) (Po G ad (va_A (wl G ad n Rf I) H.size) n Rf (fun v I1 => WP μ n Rf (pc + 3) ls (v.toList ++ st) I1 Q) (Value.ref (ad c0) :: As.map (cvt G ad)).toArray) (va_A (wl G ad n Rf I) H.size) := by
    refine va_runV (As := As.map (cvt G ad)) (rest := st.map (cvt G ad)) (C := μ'.1.cls) (n := np) ⟨hx, hb, hml, hown, hts⟩ hM ⟨callB_of np hts (good_ws ho.1.2.2.1) rfl rfl rfl (Cx_w C ho.1.2.1) (Cx_w C hw) ho.1.2.2.2 hR, Cx_w C ho.2.1, Cx_w C ho.2.2⟩ ⟨pre_blind, ?_, fun U hU hW => ⟨rfl, pre_here hP hD hS hK hX hF U hU hW⟩⟩ rfl (by rw [List.length_map]; exact hnp) hl.1 ?_ ?_ hd ⟨Nat.le_refl 0, Nat.le_refl 0⟩
    · obtain ⟨cell, q1, q2, q3⟩ := va_recv hK hP hcn (wl_of h0 hlt)
      exact ⟨cell, q1, q2, by rw [← hcq]; exact q3⟩
    · simp [cvt]
    · refine lv_room ?_
      rw [cvt_sum hfm]; exact hst
  refine wc_go hrun hS hF (fun v I1 H1 locs1 hq hP1 hD1 hS1 => ?_)
  have := hq G ad A p l e s m args below meth c H1 locs1 lsA C hP1 hD1 hS1 hl
  rw [out_map] at this
  exact this
theorem w_callS (hd : decode μ.2.1 pc = .ok (.invokestatic idx, 3)) (hw : Cond.methodLink μ.1.cls idx μ'.1 ∈ tbl) (ho : okS μ' np) (hnp : As.length = np) (hlen : (ent As).length ≤ μ'.2.2.1) (hR : μ'.2.2.2.2.1 + 1 ≤ μ.2.2.2.2.1 ∧ 8 + (μ'.2.2.1 + 11) + μ'.2.2.2.2.2 ≤ μ.2.2.2.2.2) (hst : (st.map fun v => v.category).sum ≤ 8)
    (K : WPm μ' n Rf As I (fun v I1 => WP μ n Rf (pc + 3) ls (v.toList ++ st) I1 Q)) : WP μ n Rf pc ls (As.reverse ++ st) I Q := by
  intro G ad A p l e s m args below meth c H locs lsA C hP hD hS hl
  obtain ⟨hx, hb, hr, hml, hown, hts, hlk, hK, hA, hX⟩ := id C
  have hfm := Sx_fm hX
  have hF := free_all (G := G) hD hS hA
  have hM := wp_met ho.1.1 hlen K l G ad H.size
  have hrun : va_Run p l e (rmD μ) s m args below meth c H locs 0 0 0 0 (F0 m pc lsA ((As.reverse ++ st).map (cvt G ad))) (st.map (cvt G ad)) (Po G ad (va_A (wl G ad n Rf I) H.size) n Rf (fun v I1 => WP μ n Rf (pc + 3) ls (v.toList ++ st) I1 Q) (As.map (cvt G ad)).toArray) (va_A (wl G ad n Rf I) H.size) := by
    refine va_runS (As := As.map (cvt G ad)) (rest := st.map (cvt G ad)) (n := np) ⟨hx, hb, hml, hown, hts⟩ hM ⟨callB_of np hts (good_ws ho.1.2.2.1) rfl rfl rfl (Cx_w C ho.1.2.1) (Cx_w C hw) ho.1.2.2.2 hR, Cx_w C ho.2⟩ ⟨pre_blind, fun U hU hW => ⟨rfl, pre_here hP hD hS hK hX hF U hU hW⟩⟩ rfl (by rw [List.length_map]; exact hnp) hl.1 ?_ ?_ hd ⟨Nat.le_refl 0, Nat.le_refl 0⟩
    · simp
    · refine lv_room ?_
      rw [cvt_sum hfm]; exact hst
  refine wc_go hrun hS hF (fun v I1 H1 locs1 hq hP1 hD1 hS1 => ?_)
  have := hq G ad A p l e s m args below meth c H1 locs1 lsA C hP1 hD1 hS1 hl
  rw [out_map] at this
  exact this
/-- a virtual call on one of the seven words -/
theorem w_callW {j : Nat} (hj : j < 7) (hd : decode μ.2.1 pc = .ok (.invokevirtual idx, 3)) (hw : Cond.methodLink μ.1.cls idx μ'.1 ∈ tbl) (ho : okV μ' np) (hcq : μ'.1.cls = "java/lang/String") (hnp : As.length = np) (hlen : (ent (.retAddr (2 * j + 1) :: As)).length ≤ μ'.2.2.1) (hR : μ'.2.2.2.2.1 + 1 ≤ μ.2.2.2.2.1 ∧ 8 + (μ'.2.2.1 + 11) + μ'.2.2.2.2.2 ≤ μ.2.2.2.2.2) (hst : (st.map fun v => v.category).sum ≤ 8)
    (K : WPm μ' n Rf (.retAddr (2 * j + 1) :: As) I (fun v I1 => WP μ n Rf (pc + 3) ls (v.toList ++ st) I1 Q)) : WP μ n Rf pc ls (As.reverse ++ .retAddr (2 * j + 1) :: st) I Q := by
  intro G ad A p l e s m args below meth c H locs lsA C hP hD hS hl
  obtain ⟨hx, hb, hr, hml, hown, hts, hlk, hK, hA, hX⟩ := id C
  have hfm := Sx_fm hX
  have hF := free_all (G := G) hD hS hA
  have hM := wp_met ho.1.1 hlen K l G ad H.size
  have e0 : (Value.retAddr (2 * j + 1) :: As).map (cvt G ad) = Value.ref (G.2.2.2.1 j) :: As.map (cvt G ad) := by rw [List.map_cons, cvt_S]
  rw [e0] at hM
  have hrun : va_Run p l e (rmD μ) s m args below meth c H locs 0 0 0 0 (F0 m pc lsA ((As.reverse ++ .retAddr (2 * j + 1) :: st).map (cvt G ad))) (st.map (cvt G ad)) (Po G ad (va_A (wl G ad n Rf I) H.size) n Rf (fun v I1 => WP μ n Rf (pc + 3) ls (v.toList ++ st) I1 Q) (Value.ref (G.2.2.2.1 j) :: As.map (cvt G ad)).toArray) (va_A (wl G ad n Rf I) H.size) := by
    refine va_runV (As := As.map (cvt G ad)) (rest := st.map (cvt G ad)) (C := μ'.1.cls) (n := np) ⟨hx, hb, hml, hown, hts⟩ hM ⟨callB_of np hts (good_ws ho.1.2.2.1) rfl rfl rfl (Cx_w C ho.1.2.1) (Cx_w C hw) ho.1.2.2.2 hR, Cx_w C ho.2.1, Cx_w C ho.2.2⟩ ⟨pre_blind, ?_, fun U hU hW => ⟨rfl, pre_here hP hD hS hK hX hF U hU hW⟩⟩ rfl (by rw [List.length_map]; exact hnp) hl.1 ?_ ?_ hd ⟨Nat.le_refl 0, Nat.le_refl 0⟩
    · rw [hcq]
      exact vk_recv hX.1 hj hS
    · rw [List.map_append, List.map_cons, cvt_S, List.map_reverse]
    · refine lv_room ?_
      rw [cvt_sum hfm]; exact hst
  refine wc_go hrun hS hF (fun v I1 H1 locs1 hq hP1 hD1 hS1 => ?_)
  have := hq G ad A p l e s m args below meth c H1 locs1 lsA C hP1 hD1 hS1 hl
  rw [out_map] at this
  exact this
/-- the JDK's own reads of a word: its bytes, its coder, a byte, how many, COMPACT_STRINGS, the formatter -/
theorem w_strV {j : Nat} {ref : String} (hj : j < 7) (hd : decode μ.2.1 pc = .ok (.getfield idx, 3)) (hw : Cond.fieldLink μ.1.cls idx "java/lang/String" "value" "[B" ∈ tbl) (K : WP μ n Rf (pc + 3) ls (.retAddr (2 * j + 2) :: st) I Q) : WP μ n Rf pc ls (.retAddr (2 * j + 1) :: st) I Q := by
  intro G ad A p l e s m args below meth c H locs lsA C hP hD hS hl
  have hk := K G ad A p l e s m args below meth c H locs lsA C hP hD hS hl
  rw [List.map_cons, cvt_V] at hk
  rw [List.map_cons, cvt_S]
  exact vk_getf C.1 C.2.1 (C.2.2.2.2.2.2.2.2.2.1.1 j hj).2.2.1 hS C.2.2.2.2.1 (Cx_w C hw) (fun _ h => h) hd hk
theorem w_strC {j : Nat} (hj : j < 7) (hd : decode μ.2.1 pc = .ok (.getfield idx, 3)) (hw : Cond.fieldLink μ.1.cls idx "java/lang/String" "coder" "B" ∈ tbl) (K : WP μ n Rf (pc + 3) ls (.int 0 :: st) I Q) : WP μ n Rf pc ls (.retAddr (2 * j + 1) :: st) I Q := by
  intro G ad A p l e s m args below meth c H locs lsA C hP hD hS hl
  have hk := K G ad A p l e s m args below meth c H locs lsA C hP hD hS hl
  rw [List.map_cons, cvt_S]
  exact vk_getf C.1 C.2.1 (C.2.2.2.2.2.2.2.2.2.1.1 j hj).2.1 hS C.2.2.2.2.1 (Cx_w C hw) (fun _ h => h) hd hk
theorem w_strB {j : Nat} {i : Int32} (hj : j < 7) (hd : decode μ.2.1 pc = .ok (.baload, 1)) (hi : vp_in i (strLen.getD j 0)) (K : WP μ n Rf (pc + 1) ls (.int ((strByt.getD j []).getD i.toNatClampNeg 0) :: st) I Q) : WP μ n Rf pc ls (.int i :: .retAddr (2 * j + 2) :: st) I Q := by
  intro G ad A p l e s m args below meth c H locs lsA C hP hD hS hl
  have hk := K G ad A p l e s m args below meth c H locs lsA C hP hD hS hl
  rw [List.map_cons, List.map_cons, cvt_V]
  exact va_tb C.1 C.2.1 (C.2.2.2.2.2.2.2.2.2.1.1 j hj).2.2.2 hS hi rfl hd hk
theorem w_strL {j : Nat} {v : Int32} (hj : j < 7) (hd : decode μ.2.1 pc = .ok (.arraylength, 1)) (hv : Int32.ofNat (strLen.getD j 0) = v) (K : WP μ n Rf (pc + 1) ls (.int v :: st) I Q) : WP μ n Rf pc ls (.retAddr (2 * j + 2) :: st) I Q := by
  intro G ad A p l e s m args below meth c H locs lsA C hP hD hS hl
  have hk := K G ad A p l e s m args below meth c H locs lsA C hP hD hS hl
  rw [List.map_cons, cvt_V]
  exact va_tlen C.1 C.2.1 (C.2.2.2.2.2.2.2.2.2.1.1 j hj).2.2.2 hS hv hd hk
theorem w_strK (hd : decode μ.2.1 pc = .ok (.getstatic idx, 3)) (hw : Cond.fieldLink μ.1.cls idx "java/lang/String" "COMPACT_STRINGS" "Z" ∈ tbl) (K : WP μ n Rf (pc + 3) ls (.int 1 :: st) I Q) : WP μ n Rf pc ls st I Q := by
  intro G ad A p l e s m args below meth c H locs lsA C hP hD hS hl
  exact va_gets C.1 C.2.1 C.2.2.2.2.2.2.2.2.2.2.2.1 hS C.2.2.2.2.1 (Cx_w C hw) (fun _ h => h) hd (K G ad A p l e s m args below meth c H locs lsA C hP hD hS hl)
theorem w_strF (hd : decode μ.2.1 pc = .ok (.getstatic idx, 3)) (hw : Cond.fieldLink μ.1.cls idx "jdk/internal/util/Preconditions" "SIOOBE_FORMATTER" "Ljava/util/function/BiFunction;" ∈ tbl) (K : WP μ n Rf (pc + 3) ls (.retAddr 0 :: st) I Q) : WP μ n Rf pc ls st I Q := by
  intro G ad A p l e s m args below meth c H locs lsA C hP hD hS hl
  exact va_gets C.1 C.2.1 C.2.2.2.2.2.2.2.2.2.2.2.2.1 hS C.2.2.2.2.1 (Cx_w C hw) (fun _ h => h) hd (K G ad A p l e s m args below meth c H locs lsA C hP hD hS hl)
end WD
/-! what a method answers: a number, nothing, a cell -/
def qi (Q : Int32 → MI → Prop) : Option Value → MI → Prop := fun v I => ∃ r, v = some (.int r) ∧ Q r I
def qv (Q : MI → Prop) : Option Value → MI → Prop := fun v I => v = none ∧ Q I
def qr (Q : Nat → MI → Prop) : Option Value → MI → Prop := fun v I => ∃ r, v = some (.ref r) ∧ Q r I
def Wi (μ : mD) (vs : List Value) (I : MI) (Q : Int32 → MI → Prop) : Prop := WPm μ 286 Rf0 vs I (qi Q)
def Wv (μ : mD) (vs : List Value) (I : MI) (Q : MI → Prop) : Prop := WPm μ 286 Rf0 vs I (qv Q)
def Wr (μ : mD) (vs : List Value) (I : MI) (Q : Nat → MI → Prop) : Prop := WPm μ 286 Rf0 vs I (qr Q)
theorem WP.mono {μ : mD} {n : Nat} {Rf : MR} {pc : Nat} {ls : List (Option Value)} {st : List Value} {I : MI} {Q Q' : Option Value → MI → Prop} (h : WP μ n Rf pc ls st I Q) (hq : ∀ v I, Q v I → Q' v I) : WP μ n Rf pc ls st I Q' := by
  intro G ad A p l e s m args below meth c H locs lsA C hP hD hS hl T hT X
  obtain ⟨t, h1, o, h2, h3, ⟨⟨v, I1, h4, h5, h6⟩, h7⟩, h8⟩ := h G ad A p l e s m args below meth c H locs lsA C hP hD hS hl T hT X
  exact ⟨t, h1, o, h2, h3, ⟨⟨v, I1, h4, hq v I1 h5, h6⟩, h7⟩, h8⟩
/-- what goes on behind a call, by what it answers -/
theorem wk_i {μ' : mD} {n : Nat} {Rf : MR} {vs : List Value} {I : MI} {K : Option Value → MI → Prop} (h : WPm μ' n Rf vs I (qi fun r I1 => K (some (.int r)) I1)) : WPm μ' n Rf vs I K :=
  WP.mono h (fun v I1 hv => by obtain ⟨r, rfl, h⟩ := hv; exact h)
theorem wk_v {μ' : mD} {n : Nat} {Rf : MR} {vs : List Value} {I : MI} {K : Option Value → MI → Prop} (h : WPm μ' n Rf vs I (qv fun I1 => K none I1)) : WPm μ' n Rf vs I K :=
  WP.mono h (fun v I1 hv => by obtain ⟨rfl, h⟩ := hv; exact h)
theorem wk_r {μ' : mD} {n : Nat} {Rf : MR} {vs : List Value} {I : MI} {K : Option Value → MI → Prop} (h : WPm μ' n Rf vs I (qr fun r I1 => K (some (.ref r)) I1)) : WPm μ' n Rf vs I K :=
  WP.mono h (fun v I1 hv => by obtain ⟨r, rfl, h⟩ := hv; exact h)
end
