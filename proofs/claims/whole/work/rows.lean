section
-- ===== PART A: goes FIRST, ahead of the names: the tables' words, and 'selects' of the private methods out of them =====
/-- a private method of a class that the tables say can be made, by its rows of tables_1 -/
def lw_okq (q : MethodName × Nat) : Prop := (q.1.cls ≠ "java/lang/invoke/MethodHandle" ∧ q.1.cls ≠ "java/lang/invoke/VarHandle") ∧ Cond.instantiable q.1.cls q.2 ∈ tables_1 ∧ Cond.privateMethod q.1 ∈ tables_1 ∧ Cond.instanceMethod q.1 ∈ tables_1
theorem lw_p0 : lw_okq (⟨"DeliveryRound", "emptySlots", "()V"⟩, 12) := ⟨⟨by decide +kernel, by decide +kernel⟩, List.mem_of_getElem? (i := 22) (by decide +kernel), List.mem_of_getElem? (i := 620) (by decide +kernel), List.mem_of_getElem? (i := 621) (by decide +kernel)⟩
theorem lw_p1 : lw_okq (⟨"DeliveryRound", "isHouse", "(I)Z"⟩, 12) := ⟨⟨by decide +kernel, by decide +kernel⟩, List.mem_of_getElem? (i := 22) (by decide +kernel), List.mem_of_getElem? (i := 652) (by decide +kernel), List.mem_of_getElem? (i := 653) (by decide +kernel)⟩
theorem lw_p2 : lw_okq (⟨"DeliveryRound", "isStreet", "(I)Z"⟩, 12) := ⟨⟨by decide +kernel, by decide +kernel⟩, List.mem_of_getElem? (i := 22) (by decide +kernel), List.mem_of_getElem? (i := 667) (by decide +kernel), List.mem_of_getElem? (i := 668) (by decide +kernel)⟩
theorem lw_p3 : lw_okq (⟨"DeliveryRound", "isNode", "(I)Z"⟩, 12) := ⟨⟨by decide +kernel, by decide +kernel⟩, List.mem_of_getElem? (i := 22) (by decide +kernel), List.mem_of_getElem? (i := 675) (by decide +kernel), List.mem_of_getElem? (i := 676) (by decide +kernel)⟩
theorem lw_p4 : lw_okq (⟨"DeliveryRound", "chooseByHabit", "()V"⟩, 12) := ⟨⟨by decide +kernel, by decide +kernel⟩, List.mem_of_getElem? (i := 22) (by decide +kernel), List.mem_of_getElem? (i := 737) (by decide +kernel), List.mem_of_getElem? (i := 738) (by decide +kernel)⟩
theorem lw_p5 : lw_okq (⟨"DeliveryRound", "horseChoice", "(II)I"⟩, 12) := ⟨⟨by decide +kernel, by decide +kernel⟩, List.mem_of_getElem? (i := 22) (by decide +kernel), List.mem_of_getElem? (i := 745) (by decide +kernel), List.mem_of_getElem? (i := 746) (by decide +kernel)⟩
theorem lw_p6 : lw_okq (⟨"DeliveryRound", "chooseRoute", "(I)Z"⟩, 12) := ⟨⟨by decide +kernel, by decide +kernel⟩, List.mem_of_getElem? (i := 22) (by decide +kernel), List.mem_of_getElem? (i := 833) (by decide +kernel), List.mem_of_getElem? (i := 834) (by decide +kernel)⟩
theorem lw_p7 : lw_okq (⟨"DeliveryRound", "isVisit", "(I)Z"⟩, 12) := ⟨⟨by decide +kernel, by decide +kernel⟩, List.mem_of_getElem? (i := 22) (by decide +kernel), List.mem_of_getElem? (i := 920) (by decide +kernel), List.mem_of_getElem? (i := 921) (by decide +kernel)⟩
theorem lw_p8 : lw_okq (⟨"DeliveryRound", "beginChange", "()V"⟩, 12) := ⟨⟨by decide +kernel, by decide +kernel⟩, List.mem_of_getElem? (i := 22) (by decide +kernel), List.mem_of_getElem? (i := 940) (by decide +kernel), List.mem_of_getElem? (i := 941) (by decide +kernel)⟩
theorem lw_p9 : lw_okq (⟨"DeliveryRound", "settleAccounts", "(LDeliveryRound$Log;)V"⟩, 12) := ⟨⟨by decide +kernel, by decide +kernel⟩, List.mem_of_getElem? (i := 22) (by decide +kernel), List.mem_of_getElem? (i := 950) (by decide +kernel), List.mem_of_getElem? (i := 951) (by decide +kernel)⟩
theorem lw_p10 : lw_okq (⟨"DeliveryRound", "learnHabits", "(LDeliveryRound$Log;)V"⟩, 12) := ⟨⟨by decide +kernel, by decide +kernel⟩, List.mem_of_getElem? (i := 22) (by decide +kernel), List.mem_of_getElem? (i := 954) (by decide +kernel), List.mem_of_getElem? (i := 955) (by decide +kernel)⟩
theorem lw_p11 : lw_okq (⟨"DeliveryRoundModel", "clearLedger", "()V"⟩, 45) := ⟨⟨by decide +kernel, by decide +kernel⟩, List.mem_of_getElem? (i := 999) (by decide +kernel), List.mem_of_getElem? (i := 1005) (by decide +kernel), List.mem_of_getElem? (i := 1006) (by decide +kernel)⟩
theorem lw_p12 : lw_okq (⟨"DeliveryRoundModel", "appendInt", "(I)V"⟩, 45) := ⟨⟨by decide +kernel, by decide +kernel⟩, List.mem_of_getElem? (i := 999) (by decide +kernel), List.mem_of_getElem? (i := 1149) (by decide +kernel), List.mem_of_getElem? (i := 1150) (by decide +kernel)⟩
theorem lw_p13 : lw_okq (⟨"DeliveryRoundModel", "nextToken", "()V"⟩, 45) := ⟨⟨by decide +kernel, by decide +kernel⟩, List.mem_of_getElem? (i := 999) (by decide +kernel), List.mem_of_getElem? (i := 1160) (by decide +kernel), List.mem_of_getElem? (i := 1161) (by decide +kernel)⟩
theorem lw_p14 : lw_okq (⟨"DeliveryRoundModel", "byteAt", "(I)I"⟩, 45) := ⟨⟨by decide +kernel, by decide +kernel⟩, List.mem_of_getElem? (i := 999) (by decide +kernel), List.mem_of_getElem? (i := 1164) (by decide +kernel), List.mem_of_getElem? (i := 1165) (by decide +kernel)⟩
theorem lw_p15 : lw_okq (⟨"DeliveryRoundModel", "statement", "()V"⟩, 45) := ⟨⟨by decide +kernel, by decide +kernel⟩, List.mem_of_getElem? (i := 999) (by decide +kernel), List.mem_of_getElem? (i := 1172) (by decide +kernel), List.mem_of_getElem? (i := 1173) (by decide +kernel)⟩
def lw_privs_1 : List (MethodName × Nat) := [(⟨"DeliveryRound", "emptySlots", "()V"⟩, 12), (⟨"DeliveryRound", "isHouse", "(I)Z"⟩, 12), (⟨"DeliveryRound", "isStreet", "(I)Z"⟩, 12), (⟨"DeliveryRound", "isNode", "(I)Z"⟩, 12), (⟨"DeliveryRound", "chooseByHabit", "()V"⟩, 12), (⟨"DeliveryRound", "horseChoice", "(II)I"⟩, 12), (⟨"DeliveryRound", "chooseRoute", "(I)Z"⟩, 12), (⟨"DeliveryRound", "isVisit", "(I)Z"⟩, 12), (⟨"DeliveryRound", "beginChange", "()V"⟩, 12), (⟨"DeliveryRound", "settleAccounts", "(LDeliveryRound$Log;)V"⟩, 12), (⟨"DeliveryRound", "learnHabits", "(LDeliveryRound$Log;)V"⟩, 12), (⟨"DeliveryRoundModel", "clearLedger", "()V"⟩, 45), (⟨"DeliveryRoundModel", "appendInt", "(I)V"⟩, 45), (⟨"DeliveryRoundModel", "nextToken", "()V"⟩, 45), (⟨"DeliveryRoundModel", "byteAt", "(I)I"⟩, 45), (⟨"DeliveryRoundModel", "statement", "()V"⟩, 45)]
theorem lw_r1 : ∀ q ∈ lw_privs_1, lw_okq q := List.forall_mem_cons.mpr ⟨lw_p0, List.forall_mem_cons.mpr ⟨lw_p1, List.forall_mem_cons.mpr ⟨lw_p2, List.forall_mem_cons.mpr ⟨lw_p3, List.forall_mem_cons.mpr ⟨lw_p4, List.forall_mem_cons.mpr ⟨lw_p5, List.forall_mem_cons.mpr ⟨lw_p6, List.forall_mem_cons.mpr ⟨lw_p7, List.forall_mem_cons.mpr ⟨lw_p8, List.forall_mem_cons.mpr ⟨lw_p9, List.forall_mem_cons.mpr ⟨lw_p10, List.forall_mem_cons.mpr ⟨lw_p11, List.forall_mem_cons.mpr ⟨lw_p12, List.forall_mem_cons.mpr ⟨lw_p13, List.forall_mem_cons.mpr ⟨lw_p14, List.forall_mem_cons.mpr ⟨lw_p15, fun _ h => absurd h List.not_mem_nil⟩⟩⟩⟩⟩⟩⟩⟩⟩⟩⟩⟩⟩⟩⟩⟩
theorem lw_p16 : lw_okq (⟨"DeliveryRoundModel", "is", "(Ljava/lang/String;)Z"⟩, 45) := ⟨⟨by decide +kernel, by decide +kernel⟩, List.mem_of_getElem? (i := 999) (by decide +kernel), List.mem_of_getElem? (i := 1177) (by decide +kernel), List.mem_of_getElem? (i := 1178) (by decide +kernel)⟩
theorem lw_p17 : lw_okq (⟨"DeliveryRoundModel", "readStreet", "()V"⟩, 45) := ⟨⟨by decide +kernel, by decide +kernel⟩, List.mem_of_getElem? (i := 999) (by decide +kernel), List.mem_of_getElem? (i := 1183) (by decide +kernel), List.mem_of_getElem? (i := 1184) (by decide +kernel)⟩
theorem lw_p18 : lw_okq (⟨"DeliveryRoundModel", "must", "(ZI)Z"⟩, 45) := ⟨⟨by decide +kernel, by decide +kernel⟩, List.mem_of_getElem? (i := 999) (by decide +kernel), List.mem_of_getElem? (i := 1187) (by decide +kernel), List.mem_of_getElem? (i := 1188) (by decide +kernel)⟩
theorem lw_p19 : lw_okq (⟨"DeliveryRoundModel", "number", "(II)I"⟩, 45) := ⟨⟨by decide +kernel, by decide +kernel⟩, List.mem_of_getElem? (i := 999) (by decide +kernel), List.mem_of_getElem? (i := 1191) (by decide +kernel), List.mem_of_getElem? (i := 1192) (by decide +kernel)⟩
theorem lw_p20 : lw_okq (⟨"DeliveryRoundModel", "isJoined", "(III)Z"⟩, 45) := ⟨⟨by decide +kernel, by decide +kernel⟩, List.mem_of_getElem? (i := 999) (by decide +kernel), List.mem_of_getElem? (i := 1195) (by decide +kernel), List.mem_of_getElem? (i := 1196) (by decide +kernel)⟩
theorem lw_p21 : lw_okq (⟨"DeliveryRoundModel", "readHouse", "()V"⟩, 45) := ⟨⟨by decide +kernel, by decide +kernel⟩, List.mem_of_getElem? (i := 999) (by decide +kernel), List.mem_of_getElem? (i := 1201) (by decide +kernel), List.mem_of_getElem? (i := 1202) (by decide +kernel)⟩
theorem lw_p22 : lw_okq (⟨"DeliveryRoundModel", "once", "(I)V"⟩, 45) := ⟨⟨by decide +kernel, by decide +kernel⟩, List.mem_of_getElem? (i := 999) (by decide +kernel), List.mem_of_getElem? (i := 1206) (by decide +kernel), List.mem_of_getElem? (i := 1207) (by decide +kernel)⟩
theorem lw_p23 : lw_okq (⟨"DeliveryRoundModel", "isHouse", "(I)Z"⟩, 45) := ⟨⟨by decide +kernel, by decide +kernel⟩, List.mem_of_getElem? (i := 999) (by decide +kernel), List.mem_of_getElem? (i := 1240) (by decide +kernel), List.mem_of_getElem? (i := 1241) (by decide +kernel)⟩
theorem lw_p24 : lw_okq (⟨"DeliveryRoundModel", "isStreet", "(I)Z"⟩, 45) := ⟨⟨by decide +kernel, by decide +kernel⟩, List.mem_of_getElem? (i := 999) (by decide +kernel), List.mem_of_getElem? (i := 1253) (by decide +kernel), List.mem_of_getElem? (i := 1254) (by decide +kernel)⟩
theorem lw_p25 : lw_okq (⟨"DeliveryRoundModel", "isNode", "(I)Z"⟩, 45) := ⟨⟨by decide +kernel, by decide +kernel⟩, List.mem_of_getElem? (i := 999) (by decide +kernel), List.mem_of_getElem? (i := 1261) (by decide +kernel), List.mem_of_getElem? (i := 1262) (by decide +kernel)⟩
theorem lw_p26 : lw_okq (⟨"DeliveryRoundModel", "arrivalOf", "(III)I"⟩, 45) := ⟨⟨by decide +kernel, by decide +kernel⟩, List.mem_of_getElem? (i := 999) (by decide +kernel), List.mem_of_getElem? (i := 1266) (by decide +kernel), List.mem_of_getElem? (i := 1267) (by decide +kernel)⟩
theorem lw_p27 : lw_okq (⟨"DeliveryRoundModel", "layArrivals", "(II)V"⟩, 45) := ⟨⟨by decide +kernel, by decide +kernel⟩, List.mem_of_getElem? (i := 999) (by decide +kernel), List.mem_of_getElem? (i := 1270) (by decide +kernel), List.mem_of_getElem? (i := 1271) (by decide +kernel)⟩
theorem lw_p28 : lw_okq (⟨"DeliveryRoundModel", "through", "(II)I"⟩, 45) := ⟨⟨by decide +kernel, by decide +kernel⟩, List.mem_of_getElem? (i := 999) (by decide +kernel), List.mem_of_getElem? (i := 1275) (by decide +kernel), List.mem_of_getElem? (i := 1276) (by decide +kernel)⟩
theorem lw_p29 : lw_okq (⟨"DeliveryRoundModel", "demandOf", "(I)I"⟩, 45) := ⟨⟨by decide +kernel, by decide +kernel⟩, List.mem_of_getElem? (i := 999) (by decide +kernel), List.mem_of_getElem? (i := 1284) (by decide +kernel), List.mem_of_getElem? (i := 1285) (by decide +kernel)⟩
theorem lw_p30 : lw_okq (⟨"DeliveryRoundModel", "totalOf", "()I"⟩, 45) := ⟨⟨by decide +kernel, by decide +kernel⟩, List.mem_of_getElem? (i := 999) (by decide +kernel), List.mem_of_getElem? (i := 1292) (by decide +kernel), List.mem_of_getElem? (i := 1293) (by decide +kernel)⟩
theorem lw_p31 : lw_okq (⟨"DeliveryRoundModel", "stopSet", "()I"⟩, 45) := ⟨⟨by decide +kernel, by decide +kernel⟩, List.mem_of_getElem? (i := 999) (by decide +kernel), List.mem_of_getElem? (i := 1300) (by decide +kernel), List.mem_of_getElem? (i := 1301) (by decide +kernel)⟩
def lw_privs_2 : List (MethodName × Nat) := [(⟨"DeliveryRoundModel", "is", "(Ljava/lang/String;)Z"⟩, 45), (⟨"DeliveryRoundModel", "readStreet", "()V"⟩, 45), (⟨"DeliveryRoundModel", "must", "(ZI)Z"⟩, 45), (⟨"DeliveryRoundModel", "number", "(II)I"⟩, 45), (⟨"DeliveryRoundModel", "isJoined", "(III)Z"⟩, 45), (⟨"DeliveryRoundModel", "readHouse", "()V"⟩, 45), (⟨"DeliveryRoundModel", "once", "(I)V"⟩, 45), (⟨"DeliveryRoundModel", "isHouse", "(I)Z"⟩, 45), (⟨"DeliveryRoundModel", "isStreet", "(I)Z"⟩, 45), (⟨"DeliveryRoundModel", "isNode", "(I)Z"⟩, 45), (⟨"DeliveryRoundModel", "arrivalOf", "(III)I"⟩, 45), (⟨"DeliveryRoundModel", "layArrivals", "(II)V"⟩, 45), (⟨"DeliveryRoundModel", "through", "(II)I"⟩, 45), (⟨"DeliveryRoundModel", "demandOf", "(I)I"⟩, 45), (⟨"DeliveryRoundModel", "totalOf", "()I"⟩, 45), (⟨"DeliveryRoundModel", "stopSet", "()I"⟩, 45)]
theorem lw_r2 : ∀ q ∈ lw_privs_2, lw_okq q := List.forall_mem_cons.mpr ⟨lw_p16, List.forall_mem_cons.mpr ⟨lw_p17, List.forall_mem_cons.mpr ⟨lw_p18, List.forall_mem_cons.mpr ⟨lw_p19, List.forall_mem_cons.mpr ⟨lw_p20, List.forall_mem_cons.mpr ⟨lw_p21, List.forall_mem_cons.mpr ⟨lw_p22, List.forall_mem_cons.mpr ⟨lw_p23, List.forall_mem_cons.mpr ⟨lw_p24, List.forall_mem_cons.mpr ⟨lw_p25, List.forall_mem_cons.mpr ⟨lw_p26, List.forall_mem_cons.mpr ⟨lw_p27, List.forall_mem_cons.mpr ⟨lw_p28, List.forall_mem_cons.mpr ⟨lw_p29, List.forall_mem_cons.mpr ⟨lw_p30, List.forall_mem_cons.mpr ⟨lw_p31, fun _ h => absurd h List.not_mem_nil⟩⟩⟩⟩⟩⟩⟩⟩⟩⟩⟩⟩⟩⟩⟩⟩
theorem lw_p32 : lw_okq (⟨"DeliveryRoundModel", "habitOf", "(II)I"⟩, 45) := ⟨⟨by decide +kernel, by decide +kernel⟩, List.mem_of_getElem? (i := 999) (by decide +kernel), List.mem_of_getElem? (i := 1308) (by decide +kernel), List.mem_of_getElem? (i := 1309) (by decide +kernel)⟩
theorem lw_p33 : lw_okq (⟨"DeliveryRoundModel", "layHorse", "()V"⟩, 45) := ⟨⟨by decide +kernel, by decide +kernel⟩, List.mem_of_getElem? (i := 999) (by decide +kernel), List.mem_of_getElem? (i := 1316) (by decide +kernel), List.mem_of_getElem? (i := 1317) (by decide +kernel)⟩
theorem lw_p34 : lw_okq (⟨"DeliveryRoundModel", "stopAt", "(I)I"⟩, 45) := ⟨⟨by decide +kernel, by decide +kernel⟩, List.mem_of_getElem? (i := 999) (by decide +kernel), List.mem_of_getElem? (i := 1320) (by decide +kernel), List.mem_of_getElem? (i := 1321) (by decide +kernel)⟩
theorem lw_p35 : lw_okq (⟨"DeliveryRoundModel", "layFastest", "()Z"⟩, 45) := ⟨⟨by decide +kernel, by decide +kernel⟩, List.mem_of_getElem? (i := 999) (by decide +kernel), List.mem_of_getElem? (i := 1328) (by decide +kernel), List.mem_of_getElem? (i := 1329) (by decide +kernel)⟩
theorem lw_p36 : lw_okq (⟨"DeliveryRoundModel", "bestEnd", "(III)I"⟩, 45) := ⟨⟨by decide +kernel, by decide +kernel⟩, List.mem_of_getElem? (i := 999) (by decide +kernel), List.mem_of_getElem? (i := 1332) (by decide +kernel), List.mem_of_getElem? (i := 1333) (by decide +kernel)⟩
theorem lw_p37 : lw_okq (⟨"DeliveryRoundModel", "stayAt", "(I)I"⟩, 45) := ⟨⟨by decide +kernel, by decide +kernel⟩, List.mem_of_getElem? (i := 999) (by decide +kernel), List.mem_of_getElem? (i := 1336) (by decide +kernel), List.mem_of_getElem? (i := 1337) (by decide +kernel)⟩
theorem lw_p38 : lw_okq (⟨"DeliveryRoundModel", "goesOn", "(III)V"⟩, 45) := ⟨⟨by decide +kernel, by decide +kernel⟩, List.mem_of_getElem? (i := 999) (by decide +kernel), List.mem_of_getElem? (i := 1340) (by decide +kernel), List.mem_of_getElem? (i := 1341) (by decide +kernel)⟩
theorem lw_p39 : lw_okq (⟨"DeliveryRoundModel", "layOrder", "(I)Z"⟩, 45) := ⟨⟨by decide +kernel, by decide +kernel⟩, List.mem_of_getElem? (i := 999) (by decide +kernel), List.mem_of_getElem? (i := 1353) (by decide +kernel), List.mem_of_getElem? (i := 1354) (by decide +kernel)⟩
theorem lw_p40 : lw_okq (⟨"DeliveryRoundModel", "layByNumber", "()V"⟩, 45) := ⟨⟨by decide +kernel, by decide +kernel⟩, List.mem_of_getElem? (i := 999) (by decide +kernel), List.mem_of_getElem? (i := 1357) (by decide +kernel), List.mem_of_getElem? (i := 1358) (by decide +kernel)⟩
theorem lw_p41 : lw_okq (⟨"DeliveryRoundModel", "playRound", "()V"⟩, 45) := ⟨⟨by decide +kernel, by decide +kernel⟩, List.mem_of_getElem? (i := 999) (by decide +kernel), List.mem_of_getElem? (i := 1361) (by decide +kernel), List.mem_of_getElem? (i := 1362) (by decide +kernel)⟩
theorem lw_p42 : lw_okq (⟨"DeliveryRoundModel", "leaveOut", "(I)V"⟩, 45) := ⟨⟨by decide +kernel, by decide +kernel⟩, List.mem_of_getElem? (i := 999) (by decide +kernel), List.mem_of_getElem? (i := 1365) (by decide +kernel), List.mem_of_getElem? (i := 1366) (by decide +kernel)⟩
theorem lw_p43 : lw_okq (⟨"DeliveryRoundModel", "visitStop", "(I)V"⟩, 45) := ⟨⟨by decide +kernel, by decide +kernel⟩, List.mem_of_getElem? (i := 999) (by decide +kernel), List.mem_of_getElem? (i := 1369) (by decide +kernel), List.mem_of_getElem? (i := 1370) (by decide +kernel)⟩
theorem lw_p44 : lw_okq (⟨"DeliveryRoundModel", "reload", "(I)V"⟩, 45) := ⟨⟨by decide +kernel, by decide +kernel⟩, List.mem_of_getElem? (i := 999) (by decide +kernel), List.mem_of_getElem? (i := 1373) (by decide +kernel), List.mem_of_getElem? (i := 1374) (by decide +kernel)⟩
theorem lw_p45 : lw_okq (⟨"DeliveryRoundModel", "stillWanted", "()I"⟩, 45) := ⟨⟨by decide +kernel, by decide +kernel⟩, List.mem_of_getElem? (i := 999) (by decide +kernel), List.mem_of_getElem? (i := 1377) (by decide +kernel), List.mem_of_getElem? (i := 1378) (by decide +kernel)⟩
theorem lw_p46 : lw_okq (⟨"DeliveryRoundModel", "visit", "(I)V"⟩, 45) := ⟨⟨by decide +kernel, by decide +kernel⟩, List.mem_of_getElem? (i := 999) (by decide +kernel), List.mem_of_getElem? (i := 1381) (by decide +kernel), List.mem_of_getElem? (i := 1382) (by decide +kernel)⟩
theorem lw_p47 : lw_okq (⟨"DeliveryRoundModel", "keepState", "()V"⟩, 45) := ⟨⟨by decide +kernel, by decide +kernel⟩, List.mem_of_getElem? (i := 999) (by decide +kernel), List.mem_of_getElem? (i := 1390) (by decide +kernel), List.mem_of_getElem? (i := 1391) (by decide +kernel)⟩
def lw_privs_3 : List (MethodName × Nat) := [(⟨"DeliveryRoundModel", "habitOf", "(II)I"⟩, 45), (⟨"DeliveryRoundModel", "layHorse", "()V"⟩, 45), (⟨"DeliveryRoundModel", "stopAt", "(I)I"⟩, 45), (⟨"DeliveryRoundModel", "layFastest", "()Z"⟩, 45), (⟨"DeliveryRoundModel", "bestEnd", "(III)I"⟩, 45), (⟨"DeliveryRoundModel", "stayAt", "(I)I"⟩, 45), (⟨"DeliveryRoundModel", "goesOn", "(III)V"⟩, 45), (⟨"DeliveryRoundModel", "layOrder", "(I)Z"⟩, 45), (⟨"DeliveryRoundModel", "layByNumber", "()V"⟩, 45), (⟨"DeliveryRoundModel", "playRound", "()V"⟩, 45), (⟨"DeliveryRoundModel", "leaveOut", "(I)V"⟩, 45), (⟨"DeliveryRoundModel", "visitStop", "(I)V"⟩, 45), (⟨"DeliveryRoundModel", "reload", "(I)V"⟩, 45), (⟨"DeliveryRoundModel", "stillWanted", "()I"⟩, 45), (⟨"DeliveryRoundModel", "visit", "(I)V"⟩, 45), (⟨"DeliveryRoundModel", "keepState", "()V"⟩, 45)]
theorem lw_r3 : ∀ q ∈ lw_privs_3, lw_okq q := List.forall_mem_cons.mpr ⟨lw_p32, List.forall_mem_cons.mpr ⟨lw_p33, List.forall_mem_cons.mpr ⟨lw_p34, List.forall_mem_cons.mpr ⟨lw_p35, List.forall_mem_cons.mpr ⟨lw_p36, List.forall_mem_cons.mpr ⟨lw_p37, List.forall_mem_cons.mpr ⟨lw_p38, List.forall_mem_cons.mpr ⟨lw_p39, List.forall_mem_cons.mpr ⟨lw_p40, List.forall_mem_cons.mpr ⟨lw_p41, List.forall_mem_cons.mpr ⟨lw_p42, List.forall_mem_cons.mpr ⟨lw_p43, List.forall_mem_cons.mpr ⟨lw_p44, List.forall_mem_cons.mpr ⟨lw_p45, List.forall_mem_cons.mpr ⟨lw_p46, List.forall_mem_cons.mpr ⟨lw_p47, fun _ h => absurd h List.not_mem_nil⟩⟩⟩⟩⟩⟩⟩⟩⟩⟩⟩⟩⟩⟩⟩⟩
theorem lw_p48 : lw_okq (⟨"DeliveryRoundModel", "learn", "(II)V"⟩, 45) := ⟨⟨by decide +kernel, by decide +kernel⟩, List.mem_of_getElem? (i := 999) (by decide +kernel), List.mem_of_getElem? (i := 1394) (by decide +kernel), List.mem_of_getElem? (i := 1395) (by decide +kernel)⟩
theorem lw_p49 : lw_okq (⟨"DeliveryRoundModel", "recordOf", "(II)I"⟩, 45) := ⟨⟨by decide +kernel, by decide +kernel⟩, List.mem_of_getElem? (i := 999) (by decide +kernel), List.mem_of_getElem? (i := 1434) (by decide +kernel), List.mem_of_getElem? (i := 1435) (by decide +kernel)⟩
theorem lw_p50 : lw_okq (⟨"DeliveryRoundModel", "exchange", "(II)I"⟩, 45) := ⟨⟨by decide +kernel, by decide +kernel⟩, List.mem_of_getElem? (i := 999) (by decide +kernel), List.mem_of_getElem? (i := 1463) (by decide +kernel), List.mem_of_getElem? (i := 1464) (by decide +kernel)⟩
def lw_privs_4 : List (MethodName × Nat) := [(⟨"DeliveryRoundModel", "learn", "(II)V"⟩, 45), (⟨"DeliveryRoundModel", "recordOf", "(II)I"⟩, 45), (⟨"DeliveryRoundModel", "exchange", "(II)I"⟩, 45)]
theorem lw_r4 : ∀ q ∈ lw_privs_4, lw_okq q := List.forall_mem_cons.mpr ⟨lw_p48, List.forall_mem_cons.mpr ⟨lw_p49, List.forall_mem_cons.mpr ⟨lw_p50, fun _ h => absurd h List.not_mem_nil⟩⟩⟩
def lw_privs : List (MethodName × Nat) := lw_privs_1 ++ (lw_privs_2 ++ (lw_privs_3 ++ (lw_privs_4)))
def lw_tbl : List Cond := k2_sels lw_privs ++ tables_1
theorem lw_privs_ok : ∀ q ∈ lw_privs, lw_okq q := by
  show ∀ q ∈ lw_privs_1 ++ (lw_privs_2 ++ (lw_privs_3 ++ (lw_privs_4))), lw_okq q
  exact List.forall_mem_append.mpr ⟨lw_r1, List.forall_mem_append.mpr ⟨lw_r2, List.forall_mem_append.mpr ⟨lw_r3, lw_r4⟩⟩⟩
-- ===== end of PART A; then your names; then what follows =====
def RX0 : String := "DeliveryRound$Cart"
def TX0 : u_T := fun k => match k with
  | 0 => ("DeliveryRound$Cart", "plan", "LDeliveryRound$Plan;", true)
  | 1 => ("DeliveryRound$Cart", "state", "LDeliveryRound$State;", true)
  | 2 => ("DeliveryRound$Cart", "today", "LDeliveryRound$Today;", true)
  | 3 => ("DeliveryRound$Cart", "network", "LDeliveryRound$Network;", true)
  | 4 => ("DeliveryRound$Cart", "log", "LDeliveryRound$Log;", true)
  | 5 => ("DeliveryRound$Cart", "node", "I", false)
  | 6 => ("DeliveryRound$Cart", "minute", "I", false)
  | 7 => ("DeliveryRound$Cart", "full", "I", false)
  | 8 => ("DeliveryRound$Cart", "empty", "I", false)
  | 9 => ("DeliveryRound$Cart", "waiting", "I", false)
  | _ => ("DeliveryRound$Cart", "ended", "Z", false)
def tyX0 : Nat → FieldType := fun k => match k with
  | 0 => .object "DeliveryRound$Plan"
  | 1 => .object "DeliveryRound$State"
  | 2 => .object "DeliveryRound$Today"
  | 3 => .object "DeliveryRound$Network"
  | 4 => .object "DeliveryRound$Log"
  | 5 => .int
  | 6 => .int
  | 7 => .int
  | 8 => .int
  | 9 => .int
  | _ => .boolean
theorem nmX0 : ∀ a, a < 11 → ∀ b, b < 11 → a ≠ b → (TX0 a).2.1 ≠ (TX0 b).2.1 := by decide +kernel
theorem tyX0_ok : ∀ k, k < 11 → parseFieldDescriptor (TX0 k).2.2.1 = some (tyX0 k) := by decide +kernel
def RX1 : String := "DeliveryRound$Fastest"
def TX1 : u_T := fun k => match k with
  | 0 => ("DeliveryRound$Fastest", "plan", "LDeliveryRound$Plan;", true)
  | 1 => ("DeliveryRound$Fastest", "today", "LDeliveryRound$Today;", true)
  | 2 => ("DeliveryRound$Fastest", "network", "LDeliveryRound$Network;", true)
  | 3 => ("DeliveryRound$Fastest", "route", "LDeliveryRound$Route;", true)
  | 4 => ("DeliveryRound$Fastest", "minutesAt", "[I", true)
  | 5 => ("DeliveryRound$Fastest", "earliest", "[I", true)
  | 6 => ("DeliveryRound$Fastest", "latest", "[I", true)
  | 7 => ("DeliveryRound$Fastest", "all", "I", false)
  | 8 => ("DeliveryRound$Fastest", "finish", "I", false)
  | _ => ("DeliveryRound$Fastest", "known", "Z", false)
def tyX1 : Nat → FieldType := fun k => match k with
  | 0 => .object "DeliveryRound$Plan"
  | 1 => .object "DeliveryRound$Today"
  | 2 => .object "DeliveryRound$Network"
  | 3 => .object "DeliveryRound$Route"
  | 4 => .array .int
  | 5 => .array .int
  | 6 => .array .int
  | 7 => .int
  | 8 => .int
  | _ => .boolean
theorem nmX1 : ∀ a, a < 10 → ∀ b, b < 10 → a ≠ b → (TX1 a).2.1 ≠ (TX1 b).2.1 := by decide +kernel
theorem tyX1_ok : ∀ k, k < 10 → parseFieldDescriptor (TX1 k).2.2.1 = some (tyX1 k) := by decide +kernel
def RX2 : String := "DeliveryRound$History"
def TX2 : u_T := fun k => match k with
  | 0 => ("DeliveryRound$History", "past", "[LDeliveryRound$State;", true)
  | 1 => ("DeliveryRound$History", "next", "I", false)
  | _ => ("DeliveryRound$History", "count", "I", false)
def tyX2 : Nat → FieldType := fun k => match k with
  | 0 => .array (.object "DeliveryRound$State")
  | 1 => .int
  | _ => .int
theorem nmX2 : ∀ a, a < 3 → ∀ b, b < 3 → a ≠ b → (TX2 a).2.1 ≠ (TX2 b).2.1 := by decide +kernel
theorem tyX2_ok : ∀ k, k < 3 → parseFieldDescriptor (TX2 k).2.2.1 = some (tyX2 k) := by decide +kernel
def RX3 : String := "DeliveryRound$Log"
def TX3 : u_T := fun k => match k with
  | 0 => ("DeliveryRound$Log", "finish", "I", false)
  | 1 => ("DeliveryRound$Log", "visits", "I", false)
  | 2 => ("DeliveryRound$Log", "reloads", "I", false)
  | 3 => ("DeliveryRound$Log", "house", "[I", true)
  | 4 => ("DeliveryRound$Log", "minute", "[I", true)
  | _ => ("DeliveryRound$Log", "returned", "[I", true)
def tyX3 : Nat → FieldType := fun k => match k with
  | 0 => .int
  | 1 => .int
  | 2 => .int
  | 3 => .array .int
  | 4 => .array .int
  | _ => .array .int
theorem nmX3 : ∀ a, a < 6 → ∀ b, b < 6 → a ≠ b → (TX3 a).2.1 ≠ (TX3 b).2.1 := by decide +kernel
theorem tyX3_ok : ∀ k, k < 6 → parseFieldDescriptor (TX3 k).2.2.1 = some (tyX3 k) := by decide +kernel
def RX4 : String := "DeliveryRound$Network"
def TX4 : u_T := fun k => match k with
  | 0 => ("DeliveryRound$Network", "plan", "LDeliveryRound$Plan;", true)
  | 1 => ("DeliveryRound$Network", "state", "LDeliveryRound$State;", true)
  | 2 => ("DeliveryRound$Network", "arrivals", "[I", true)
  | _ => ("DeliveryRound$Network", "departures", "[I", true)
def tyX4 : Nat → FieldType := fun k => match k with
  | 0 => .object "DeliveryRound$Plan"
  | 1 => .object "DeliveryRound$State"
  | 2 => .array .int
  | _ => .array .int
theorem nmX4 : ∀ a, a < 4 → ∀ b, b < 4 → a ≠ b → (TX4 a).2.1 ≠ (TX4 b).2.1 := by decide +kernel
theorem tyX4_ok : ∀ k, k < 4 → parseFieldDescriptor (TX4 k).2.2.1 = some (tyX4 k) := by decide +kernel
def RX5 : String := "DeliveryRound$Parser"
def TX5 : u_T := fun k => match k with
  | 0 => ("DeliveryRound$Parser", "text", "LDeliveryRound$Text;", true)
  | 1 => ("DeliveryRound$Parser", "plan", "LDeliveryRound$Plan;", true)
  | 2 => ("DeliveryRound$Parser", "state", "LDeliveryRound$State;", true)
  | 3 => ("DeliveryRound$Parser", "seen", "I", false)
  | _ => ("DeliveryRound$Parser", "error", "I", false)
def tyX5 : Nat → FieldType := fun k => match k with
  | 0 => .object "DeliveryRound$Text"
  | 1 => .object "DeliveryRound$Plan"
  | 2 => .object "DeliveryRound$State"
  | 3 => .int
  | _ => .int
theorem nmX5 : ∀ a, a < 5 → ∀ b, b < 5 → a ≠ b → (TX5 a).2.1 ≠ (TX5 b).2.1 := by decide +kernel
theorem tyX5_ok : ∀ k, k < 5 → parseFieldDescriptor (TX5 k).2.2.1 = some (tyX5 k) := by decide +kernel
def RX6 : String := "DeliveryRound$Plan"
def TX6 : u_T := fun k => match k with
  | 0 => ("DeliveryRound$Plan", "nodeCount", "I", false)
  | 1 => ("DeliveryRound$Plan", "streetCount", "I", false)
  | 2 => ("DeliveryRound$Plan", "houseCount", "I", false)
  | 3 => ("DeliveryRound$Plan", "capacity", "I", false)
  | 4 => ("DeliveryRound$Plan", "start", "I", false)
  | 5 => ("DeliveryRound$Plan", "price", "I", false)
  | 6 => ("DeliveryRound$Plan", "deposit", "I", false)
  | 7 => ("DeliveryRound$Plan", "streetA", "[I", true)
  | 8 => ("DeliveryRound$Plan", "streetB", "[I", true)
  | 9 => ("DeliveryRound$Plan", "streetLength", "[I", true)
  | 10 => ("DeliveryRound$Plan", "houseNode", "[I", true)
  | _ => ("DeliveryRound$Plan", "houseWalk", "[I", true)
def tyX6 : Nat → FieldType := fun k => match k with
  | 0 => .int
  | 1 => .int
  | 2 => .int
  | 3 => .int
  | 4 => .int
  | 5 => .int
  | 6 => .int
  | 7 => .array .int
  | 8 => .array .int
  | 9 => .array .int
  | 10 => .array .int
  | _ => .array .int
theorem nmX6 : ∀ a, a < 12 → ∀ b, b < 12 → a ≠ b → (TX6 a).2.1 ≠ (TX6 b).2.1 := by decide +kernel
theorem tyX6_ok : ∀ k, k < 12 → parseFieldDescriptor (TX6 k).2.2.1 = some (tyX6 k) := by decide +kernel
def RX7 : String := "DeliveryRound$Route"
def TX7 : u_T := fun k => match k with
  | 0 => ("DeliveryRound$Route", "nodes", "[I", true)
  | _ => ("DeliveryRound$Route", "count", "I", false)
def tyX7 : Nat → FieldType := fun k => match k with
  | 0 => .array .int
  | _ => .int
theorem nmX7 : ∀ a, a < 2 → ∀ b, b < 2 → a ≠ b → (TX7 a).2.1 ≠ (TX7 b).2.1 := by decide +kernel
theorem tyX7_ok : ∀ k, k < 2 → parseFieldDescriptor (TX7 k).2.2.1 = some (tyX7 k) := by decide +kernel
def RX8 : String := "DeliveryRound$State"
def TX8 : u_T := fun k => match k with
  | 0 => ("DeliveryRound$State", "day", "I", false)
  | 1 => ("DeliveryRound$State", "skipped", "I", false)
  | 2 => ("DeliveryRound$State", "orders", "[I", true)
  | 3 => ("DeliveryRound$State", "keep", "[I", true)
  | 4 => ("DeliveryRound$State", "gateFrom", "[I", true)
  | 5 => ("DeliveryRound$State", "gateTo", "[I", true)
  | 6 => ("DeliveryRound$State", "bottles", "[I", true)
  | 7 => ("DeliveryRound$State", "delivered", "[I", true)
  | 8 => ("DeliveryRound$State", "returned", "[I", true)
  | 9 => ("DeliveryRound$State", "broken", "[I", true)
  | 10 => ("DeliveryRound$State", "habits", "[I", true)
  | _ => ("DeliveryRound$State", "log", "LDeliveryRound$Log;", true)
def tyX8 : Nat → FieldType := fun k => match k with
  | 0 => .int
  | 1 => .int
  | 2 => .array .int
  | 3 => .array .int
  | 4 => .array .int
  | 5 => .array .int
  | 6 => .array .int
  | 7 => .array .int
  | 8 => .array .int
  | 9 => .array .int
  | 10 => .array .int
  | _ => .object "DeliveryRound$Log"
theorem nmX8 : ∀ a, a < 12 → ∀ b, b < 12 → a ≠ b → (TX8 a).2.1 ≠ (TX8 b).2.1 := by decide +kernel
theorem tyX8_ok : ∀ k, k < 12 → parseFieldDescriptor (TX8 k).2.2.1 = some (tyX8 k) := by decide +kernel
def RX9 : String := "DeliveryRound$Text"
def TX9 : u_T := fun k => match k with
  | 0 => ("DeliveryRound$Text", "bytes", "[B", true)
  | 1 => ("DeliveryRound$Text", "count", "I", false)
  | 2 => ("DeliveryRound$Text", "length", "I", false)
  | 3 => ("DeliveryRound$Text", "start", "I", false)
  | 4 => ("DeliveryRound$Text", "end", "I", false)
  | _ => ("DeliveryRound$Text", "kind", "I", false)
def tyX9 : Nat → FieldType := fun k => match k with
  | 0 => .array .byte
  | 1 => .int
  | 2 => .int
  | 3 => .int
  | 4 => .int
  | _ => .int
theorem nmX9 : ∀ a, a < 6 → ∀ b, b < 6 → a ≠ b → (TX9 a).2.1 ≠ (TX9 b).2.1 := by decide +kernel
theorem tyX9_ok : ∀ k, k < 6 → parseFieldDescriptor (TX9 k).2.2.1 = some (tyX9 k) := by decide +kernel
def RX10 : String := "DeliveryRound$Today"
def TX10 : u_T := fun k => match k with
  | 0 => ("DeliveryRound$Today", "plan", "LDeliveryRound$Plan;", true)
  | _ => ("DeliveryRound$Today", "state", "LDeliveryRound$State;", true)
def tyX10 : Nat → FieldType := fun k => match k with
  | 0 => .object "DeliveryRound$Plan"
  | _ => .object "DeliveryRound$State"
theorem nmX10 : ∀ a, a < 2 → ∀ b, b < 2 → a ≠ b → (TX10 a).2.1 ≠ (TX10 b).2.1 := by decide +kernel
theorem tyX10_ok : ∀ k, k < 2 → parseFieldDescriptor (TX10 k).2.2.1 = some (tyX10 k) := by decide +kernel
def RX11 : String := "DeliveryRound"
def TX11 : u_T := fun k => match k with
  | 0 => ("DeliveryRound", "text", "LDeliveryRound$Text;", true)
  | 1 => ("DeliveryRound", "parser", "LDeliveryRound$Parser;", true)
  | 2 => ("DeliveryRound", "plan", "LDeliveryRound$Plan;", true)
  | 3 => ("DeliveryRound", "state", "LDeliveryRound$State;", true)
  | 4 => ("DeliveryRound", "today", "LDeliveryRound$Today;", true)
  | 5 => ("DeliveryRound", "network", "LDeliveryRound$Network;", true)
  | 6 => ("DeliveryRound", "route", "LDeliveryRound$Route;", true)
  | 7 => ("DeliveryRound", "fastest", "LDeliveryRound$Fastest;", true)
  | 8 => ("DeliveryRound", "cart", "LDeliveryRound$Cart;", true)
  | 9 => ("DeliveryRound", "history", "LDeliveryRound$History;", true)
  | 10 => ("DeliveryRound", "slots", "[LDeliveryRound$State;", true)
  | _ => ("DeliveryRound", "slotFilled", "[Z", true)
def tyX11 : Nat → FieldType := fun k => match k with
  | 0 => .object "DeliveryRound$Text"
  | 1 => .object "DeliveryRound$Parser"
  | 2 => .object "DeliveryRound$Plan"
  | 3 => .object "DeliveryRound$State"
  | 4 => .object "DeliveryRound$Today"
  | 5 => .object "DeliveryRound$Network"
  | 6 => .object "DeliveryRound$Route"
  | 7 => .object "DeliveryRound$Fastest"
  | 8 => .object "DeliveryRound$Cart"
  | 9 => .object "DeliveryRound$History"
  | 10 => .array (.object "DeliveryRound$State")
  | _ => .array .boolean
theorem nmX11 : ∀ a, a < 12 → ∀ b, b < 12 → a ≠ b → (TX11 a).2.1 ≠ (TX11 b).2.1 := by decide +kernel
theorem tyX11_ok : ∀ k, k < 12 → parseFieldDescriptor (TX11 k).2.2.1 = some (tyX11 k) := by decide +kernel
def RX12 : String := "DeliveryRoundModel"
def TX12 : u_T := fun k => match k with
  | 0 => ("DeliveryRoundModel", "thrown", "I", false)
  | 1 => ("DeliveryRoundModel", "buffer", "[B", true)
  | 2 => ("DeliveryRoundModel", "length", "I", false)
  | 3 => ("DeliveryRoundModel", "textLength", "I", false)
  | 4 => ("DeliveryRoundModel", "tokenStart", "I", false)
  | 5 => ("DeliveryRoundModel", "tokenEnd", "I", false)
  | 6 => ("DeliveryRoundModel", "token", "I", false)
  | 7 => ("DeliveryRoundModel", "value", "I", false)
  | 8 => ("DeliveryRoundModel", "error", "I", false)
  | 9 => ("DeliveryRoundModel", "errorOffset", "I", false)
  | 10 => ("DeliveryRoundModel", "basic", "[I", true)
  | 11 => ("DeliveryRoundModel", "draft", "[I", true)
  | 12 => ("DeliveryRoundModel", "streetA", "[I", true)
  | 13 => ("DeliveryRoundModel", "streetB", "[I", true)
  | 14 => ("DeliveryRoundModel", "streetLength", "[I", true)
  | 15 => ("DeliveryRoundModel", "streetFrom", "[I", true)
  | 16 => ("DeliveryRoundModel", "streetTo", "[I", true)
  | 17 => ("DeliveryRoundModel", "nodeOf", "[I", true)
  | 18 => ("DeliveryRoundModel", "walkOf", "[I", true)
  | 19 => ("DeliveryRoundModel", "keepOf", "[I", true)
  | 20 => ("DeliveryRoundModel", "orderOf", "[I", true)
  | 21 => ("DeliveryRoundModel", "given", "I", false)
  | 22 => ("DeliveryRoundModel", "state", "[I", true)
  | 23 => ("DeliveryRoundModel", "history", "[I", true)
  | 24 => ("DeliveryRoundModel", "depth", "I", false)
  | 25 => ("DeliveryRoundModel", "slots", "[I", true)
  | 26 => ("DeliveryRoundModel", "isSaved", "[Z", true)
  | 27 => ("DeliveryRoundModel", "arrivals", "[I", true)
  | 28 => ("DeliveryRoundModel", "isDone", "[Z", true)
  | 29 => ("DeliveryRoundModel", "sequence", "[I", true)
  | 30 => ("DeliveryRoundModel", "sequenceMany", "I", false)
  | 31 => ("DeliveryRoundModel", "least", "[I", true)
  | 32 => ("DeliveryRoundModel", "fastestEnd", "I", false)
  | 33 => ("DeliveryRoundModel", "minute", "I", false)
  | 34 => ("DeliveryRoundModel", "node", "I", false)
  | 35 => ("DeliveryRoundModel", "full", "I", false)
  | 36 => ("DeliveryRoundModel", "empty", "I", false)
  | 37 => ("DeliveryRoundModel", "finishedAt", "I", false)
  | 38 => ("DeliveryRoundModel", "isOver", "Z", false)
  | 39 => ("DeliveryRoundModel", "visitMany", "I", false)
  | 40 => ("DeliveryRoundModel", "reloadMany", "I", false)
  | 41 => ("DeliveryRoundModel", "visitedHouse", "[I", true)
  | 42 => ("DeliveryRoundModel", "visitedMinute", "[I", true)
  | 43 => ("DeliveryRoundModel", "visitedBack", "[I", true)
  | _ => ("DeliveryRoundModel", "mark", "[I", true)
def tyX12 : Nat → FieldType := fun k => match k with
  | 0 => .int
  | 1 => .array .byte
  | 2 => .int
  | 3 => .int
  | 4 => .int
  | 5 => .int
  | 6 => .int
  | 7 => .int
  | 8 => .int
  | 9 => .int
  | 10 => .array .int
  | 11 => .array .int
  | 12 => .array .int
  | 13 => .array .int
  | 14 => .array .int
  | 15 => .array .int
  | 16 => .array .int
  | 17 => .array .int
  | 18 => .array .int
  | 19 => .array .int
  | 20 => .array .int
  | 21 => .int
  | 22 => .array .int
  | 23 => .array .int
  | 24 => .int
  | 25 => .array .int
  | 26 => .array .boolean
  | 27 => .array .int
  | 28 => .array .boolean
  | 29 => .array .int
  | 30 => .int
  | 31 => .array .int
  | 32 => .int
  | 33 => .int
  | 34 => .int
  | 35 => .int
  | 36 => .int
  | 37 => .int
  | 38 => .boolean
  | 39 => .int
  | 40 => .int
  | 41 => .array .int
  | 42 => .array .int
  | 43 => .array .int
  | _ => .array .int
theorem nmX12 : ∀ a, a < 45 → ∀ b, b < 45 → a ≠ b → (TX12 a).2.1 ≠ (TX12 b).2.1 := by decide +kernel
theorem tyX12_ok : ∀ k, k < 45 → parseFieldDescriptor (TX12 k).2.2.1 = some (tyX12 k) := by decide +kernel
def RJ9 : String := "java/lang/Math"
def RJ0 : String := "java/lang/String"
def RJ1 : String := "java/lang/StringLatin1"
def RJ2 : String := "java/lang/StringUTF16"
def RJ10 : String := "java/lang/System"
def RJ7 : String := "java/util/Arrays"
def RJ3 : String := "jdk/internal/util/Preconditions"
abbrev vwCl : List vw_C := [(RX0, TX0, 11), (RX1, TX1, 10), (RX2, TX2, 3), (RX3, TX3, 6), (RX4, TX4, 4), (RX5, TX5, 5), (RX6, TX6, 12), (RX7, TX7, 2), (RX8, TX8, 12), (RX9, TX9, 6), (RX10, TX10, 2), (RX11, TX11, 12), (RX12, TX12, 45)]
abbrev cX0_init : ByteArray := prog_2_method_1_code
abbrev yX0_init : MethodName := ⟨RX0, "<init>", "(LDeliveryRound$Plan;LDeliveryRound$State;LDeliveryRound$Today;LDeliveryRound$Network;)V"⟩
abbrev cX0_travel : ByteArray := prog_2_method_2_code
abbrev yX0_travel : MethodName := ⟨RX0, "travel", "(LDeliveryRound$Route;)V"⟩
abbrev cX0_driveTo : ByteArray := prog_2_method_3_code
abbrev yX0_driveTo : MethodName := ⟨RX0, "driveTo", "(I)Z"⟩
abbrev cX0_serveStop : ByteArray := prog_2_method_4_code
abbrev yX0_serveStop : MethodName := ⟨RX0, "serveStop", "(I)V"⟩
abbrev cX0_reload : ByteArray := prog_2_method_5_code
abbrev yX0_reload : MethodName := ⟨RX0, "reload", "(I)Z"⟩
abbrev cX0_serveHouse : ByteArray := prog_2_method_6_code
abbrev yX0_serveHouse : MethodName := ⟨RX0, "serveHouse", "(II)V"⟩
abbrev cX1_init : ByteArray := prog_3_method_1_code
abbrev yX1_init : MethodName := ⟨RX1, "<init>", "(LDeliveryRound$Plan;LDeliveryRound$Today;LDeliveryRound$Network;)V"⟩
abbrev cX1_forget : ByteArray := prog_3_method_2_code
abbrev yX1_forget : MethodName := ⟨RX1, "forget", "()V"⟩
abbrev cX1_find : ByteArray := prog_3_method_3_code
abbrev yX1_find : MethodName := ⟨RX1, "find", "()V"⟩
abbrev cX1_sumVisits : ByteArray := prog_3_method_4_code
abbrev yX1_sumVisits : MethodName := ⟨RX1, "sumVisits", "()V"⟩
abbrev cX1_place : ByteArray := prog_3_method_5_code
abbrev yX1_place : MethodName := ⟨RX1, "place", "(II)I"⟩
abbrev cX1_isLast : ByteArray := prog_3_method_6_code
abbrev yX1_isLast : MethodName := ⟨RX1, "isLast", "(II)Z"⟩
abbrev cX1_isPart : ByteArray := prog_3_method_7_code
abbrev yX1_isPart : MethodName := ⟨RX1, "isPart", "(I)Z"⟩
abbrev cX1_findEarliest : ByteArray := prog_3_method_8_code
abbrev yX1_findEarliest : MethodName := ⟨RX1, "findEarliest", "()V"⟩
abbrev cX1_driveOn : ByteArray := prog_3_method_9_code
abbrev yX1_driveOn : MethodName := ⟨RX1, "driveOn", "(II)V"⟩
abbrev cX1_findLatest : ByteArray := prog_3_method_10_code
abbrev yX1_findLatest : MethodName := ⟨RX1, "findLatest", "()V"⟩
abbrev cX1_allow : ByteArray := prog_3_method_11_code
abbrev yX1_allow : MethodName := ⟨RX1, "allow", "(I[I)V"⟩
abbrev cX1_walk : ByteArray := prog_3_method_12_code
abbrev yX1_walk : MethodName := ⟨RX1, "walk", "()V"⟩
abbrev cX1_firstInTime : ByteArray := prog_3_method_13_code
abbrev yX1_firstInTime : MethodName := ⟨RX1, "firstInTime", "(I[I)I"⟩
abbrev cX2_init : ByteArray := prog_4_method_1_code
abbrev yX2_init : MethodName := ⟨RX2, "<init>", "()V"⟩
abbrev cX2_clear : ByteArray := prog_4_method_2_code
abbrev yX2_clear : MethodName := ⟨RX2, "clear", "()V"⟩
abbrev cX2_remember : ByteArray := prog_4_method_3_code
abbrev yX2_remember : MethodName := ⟨RX2, "remember", "(LDeliveryRound$State;)V"⟩
abbrev cX2_recall : ByteArray := prog_4_method_4_code
abbrev yX2_recall : MethodName := ⟨RX2, "recall", "(LDeliveryRound$State;)V"⟩
abbrev cX3_init : ByteArray := prog_5_method_1_code
abbrev yX3_init : MethodName := ⟨RX3, "<init>", "()V"⟩
abbrev cX3_clear : ByteArray := prog_5_method_2_code
abbrev yX3_clear : MethodName := ⟨RX3, "clear", "()V"⟩
abbrev cX3_add : ByteArray := prog_5_method_3_code
abbrev yX3_add : MethodName := ⟨RX3, "add", "(III)V"⟩
abbrev cX3_copyFrom : ByteArray := prog_5_method_4_code
abbrev yX3_copyFrom : MethodName := ⟨RX3, "copyFrom", "(LDeliveryRound$Log;)V"⟩
abbrev cX4_init : ByteArray := prog_6_method_1_code
abbrev yX4_init : MethodName := ⟨RX4, "<init>", "(LDeliveryRound$Plan;LDeliveryRound$State;)V"⟩
abbrev cX4_arrivalsFrom : ByteArray := prog_6_method_2_code
abbrev yX4_arrivalsFrom : MethodName := ⟨RX4, "arrivalsFrom", "(II)[I"⟩
abbrev cX4_sweepStreets : ByteArray := prog_6_method_3_code
abbrev yX4_sweepStreets : MethodName := ⟨RX4, "sweepStreets", "(Z)V"⟩
abbrev cX4_improveArrival : ByteArray := prog_6_method_4_code
abbrev yX4_improveArrival : MethodName := ⟨RX4, "improveArrival", "(III)Z"⟩
abbrev cX4_departuresTo : ByteArray := prog_6_method_5_code
abbrev yX4_departuresTo : MethodName := ⟨RX4, "departuresTo", "(II)[I"⟩
abbrev cX4_improveDeparture : ByteArray := prog_6_method_6_code
abbrev yX4_improveDeparture : MethodName := ⟨RX4, "improveDeparture", "(III)Z"⟩
abbrev cX5_init : ByteArray := prog_7_method_1_code
abbrev yX5_init : MethodName := ⟨RX5, "<init>", "(LDeliveryRound$Text;)V"⟩
abbrev cX5_readRound : ByteArray := prog_7_method_2_code
abbrev yX5_readRound : MethodName := ⟨RX5, "readRound", "(I)V"⟩
abbrev cX5_readStatement : ByteArray := prog_7_method_3_code
abbrev yX5_readStatement : MethodName := ⟨RX5, "readStatement", "()V"⟩
abbrev cX5_readNodes : ByteArray := prog_7_method_4_code
abbrev yX5_readNodes : MethodName := ⟨RX5, "readNodes", "()V"⟩
abbrev cX5_readStreet : ByteArray := prog_7_method_5_code
abbrev yX5_readStreet : MethodName := ⟨RX5, "readStreet", "()V"⟩
abbrev cX5_readGate : ByteArray := prog_7_method_6_code
abbrev yX5_readGate : MethodName := ⟨RX5, "readGate", "(I)V"⟩
abbrev cX5_readHouse : ByteArray := prog_7_method_7_code
abbrev yX5_readHouse : MethodName := ⟨RX5, "readHouse", "()V"⟩
abbrev cX5_takeOnce : ByteArray := prog_7_method_8_code
abbrev yX5_takeOnce : MethodName := ⟨RX5, "takeOnce", "(I)V"⟩
abbrev cX5_readNumber : ByteArray := prog_7_method_9_code
abbrev yX5_readNumber : MethodName := ⟨RX5, "readNumber", "(II)I"⟩
abbrev cX5_readSemicolon : ByteArray := prog_7_method_10_code
abbrev yX5_readSemicolon : MethodName := ⟨RX5, "readSemicolon", "()V"⟩
abbrev cX5_fail : ByteArray := prog_7_method_11_code
abbrev yX5_fail : MethodName := ⟨RX5, "fail", "(II)V"⟩
abbrev cX6_init : ByteArray := prog_8_method_1_code
abbrev yX6_init : MethodName := ⟨RX6, "<init>", "()V"⟩
abbrev cX6_clear : ByteArray := prog_8_method_2_code
abbrev yX6_clear : MethodName := ⟨RX6, "clear", "()V"⟩
abbrev cX6_copyFrom : ByteArray := prog_8_method_3_code
abbrev yX6_copyFrom : MethodName := ⟨RX6, "copyFrom", "(LDeliveryRound$Plan;)V"⟩
abbrev cX6_joins : ByteArray := prog_8_method_4_code
abbrev yX6_joins : MethodName := ⟨RX6, "joins", "(II)Z"⟩
abbrev cX7_init : ByteArray := prog_9_method_1_code
abbrev yX7_init : MethodName := ⟨RX7, "<init>", "()V"⟩
abbrev cX7_clear : ByteArray := prog_9_method_2_code
abbrev yX7_clear : MethodName := ⟨RX7, "clear", "()V"⟩
abbrev cX7_add : ByteArray := prog_9_method_3_code
abbrev yX7_add : MethodName := ⟨RX7, "add", "(I)V"⟩
abbrev cX7_fillByNumber : ByteArray := prog_9_method_4_code
abbrev yX7_fillByNumber : MethodName := ⟨RX7, "fillByNumber", "(I)V"⟩
abbrev cX7_copyFrom : ByteArray := prog_9_method_5_code
abbrev yX7_copyFrom : MethodName := ⟨RX7, "copyFrom", "(LDeliveryRound$Route;)V"⟩
abbrev cX7_stopAt : ByteArray := prog_9_method_6_code
abbrev yX7_stopAt : MethodName := ⟨RX7, "stopAt", "(I)I"⟩
abbrev cX8_init : ByteArray := prog_10_method_1_code
abbrev yX8_init : MethodName := ⟨RX8, "<init>", "()V"⟩
abbrev cX8_isSkipped : ByteArray := prog_10_method_2_code
abbrev yX8_isSkipped : MethodName := ⟨RX8, "isSkipped", "(I)Z"⟩
abbrev cX8_copyFrom : ByteArray := prog_10_method_3_code
abbrev yX8_copyFrom : MethodName := ⟨RX8, "copyFrom", "(LDeliveryRound$State;)V"⟩
abbrev cX9_init : ByteArray := prog_11_method_1_code
abbrev yX9_init : MethodName := ⟨RX9, "<init>", "()V"⟩
abbrev cX9_addFour : ByteArray := prog_11_method_2_code
abbrev yX9_addFour : MethodName := ⟨RX9, "addFour", "(I)V"⟩
abbrev cX9_begin : ByteArray := prog_11_method_3_code
abbrev yX9_begin : MethodName := ⟨RX9, "begin", "(I)V"⟩
abbrev cX9_advance : ByteArray := prog_11_method_4_code
abbrev yX9_advance : MethodName := ⟨RX9, "advance", "()V"⟩
abbrev cX9_kindOf : ByteArray := prog_11_method_5_code
abbrev yX9_kindOf : MethodName := ⟨RX9, "kindOf", "(B)I"⟩
abbrev cX9_isWord : ByteArray := prog_11_method_6_code
abbrev yX9_isWord : MethodName := ⟨RX9, "isWord", "(Ljava/lang/String;)Z"⟩
abbrev cX9_value : ByteArray := prog_11_method_7_code
abbrev yX9_value : MethodName := ⟨RX9, "value", "()I"⟩
abbrev cX10_init : ByteArray := prog_12_method_1_code
abbrev yX10_init : MethodName := ⟨RX10, "<init>", "(LDeliveryRound$Plan;LDeliveryRound$State;)V"⟩
abbrev cX10_demandOf : ByteArray := prog_12_method_2_code
abbrev yX10_demandOf : MethodName := ⟨RX10, "demandOf", "(I)I"⟩
abbrev cX10_demandAtNode : ByteArray := prog_12_method_3_code
abbrev yX10_demandAtNode : MethodName := ⟨RX10, "demandAtNode", "(I)I"⟩
abbrev cX10_sumOfDemands : ByteArray := prog_12_method_4_code
abbrev yX10_sumOfDemands : MethodName := ⟨RX10, "sumOfDemands", "()I"⟩
abbrev cX10_stopSet : ByteArray := prog_12_method_5_code
abbrev yX10_stopSet : MethodName := ⟨RX10, "stopSet", "()I"⟩
abbrev cX10_visitMinutes : ByteArray := prog_12_method_6_code
abbrev yX10_visitMinutes : MethodName := ⟨RX10, "visitMinutes", "(I)I"⟩
abbrev cX11_init : ByteArray := prog_1_method_1_code
abbrev yX11_init : MethodName := ⟨RX11, "<init>", "()V"⟩
abbrev cX11_append : ByteArray := prog_1_method_2_code
abbrev yX11_append : MethodName := ⟨RX11, "append", "(IIIII)I"⟩
abbrev cX11_parse : ByteArray := prog_1_method_3_code
abbrev yX11_parse : MethodName := ⟨RX11, "parse", "(I)I"⟩
abbrev cX11_nodeCount : ByteArray := prog_1_method_4_code
abbrev yX11_nodeCount : MethodName := ⟨RX11, "nodeCount", "()I"⟩
abbrev cX11_streetCount : ByteArray := prog_1_method_5_code
abbrev yX11_streetCount : MethodName := ⟨RX11, "streetCount", "()I"⟩
abbrev cX11_houseCount : ByteArray := prog_1_method_6_code
abbrev yX11_houseCount : MethodName := ⟨RX11, "houseCount", "()I"⟩
abbrev cX11_capacity : ByteArray := prog_1_method_7_code
abbrev yX11_capacity : MethodName := ⟨RX11, "capacity", "()I"⟩
abbrev cX11_day : ByteArray := prog_1_method_8_code
abbrev yX11_day : MethodName := ⟨RX11, "day", "()I"⟩
abbrev cX11_houseNode : ByteArray := prog_1_method_9_code
abbrev yX11_houseNode : MethodName := ⟨RX11, "houseNode", "(I)I"⟩
abbrev cX11_order : ByteArray := prog_1_method_10_code
abbrev yX11_order : MethodName := ⟨RX11, "order", "(II)I"⟩
abbrev cX11_isOpen : ByteArray := prog_1_method_11_code
abbrev yX11_isOpen : MethodName := ⟨RX11, "isOpen", "(II)I"⟩
abbrev cX11_arrival : ByteArray := prog_1_method_12_code
abbrev yX11_arrival : MethodName := ⟨RX11, "arrival", "(III)I"⟩
abbrev cX11_demand : ByteArray := prog_1_method_13_code
abbrev yX11_demand : MethodName := ⟨RX11, "demand", "(I)I"⟩
abbrev cX11_totalDemand : ByteArray := prog_1_method_14_code
abbrev yX11_totalDemand : MethodName := ⟨RX11, "totalDemand", "()I"⟩
abbrev cX11_stops : ByteArray := prog_1_method_15_code
abbrev yX11_stops : MethodName := ⟨RX11, "stops", "()I"⟩
abbrev cX11_habit : ByteArray := prog_1_method_16_code
abbrev yX11_habit : MethodName := ⟨RX11, "habit", "(II)I"⟩
abbrev cX11_horseStop : ByteArray := prog_1_method_17_code
abbrev yX11_horseStop : MethodName := ⟨RX11, "horseStop", "(I)I"⟩
abbrev cX11_fastestFinish : ByteArray := prog_1_method_18_code
abbrev yX11_fastestFinish : MethodName := ⟨RX11, "fastestFinish", "()I"⟩
abbrev cX11_fastestStop : ByteArray := prog_1_method_19_code
abbrev yX11_fastestStop : MethodName := ⟨RX11, "fastestStop", "(I)I"⟩
abbrev cX11_previewFinish : ByteArray := prog_1_method_20_code
abbrev yX11_previewFinish : MethodName := ⟨RX11, "previewFinish", "(I)I"⟩
abbrev cX11_bottlesAt : ByteArray := prog_1_method_21_code
abbrev yX11_bottlesAt : MethodName := ⟨RX11, "bottlesAt", "(I)I"⟩
abbrev cX11_delivered : ByteArray := prog_1_method_22_code
abbrev yX11_delivered : MethodName := ⟨RX11, "delivered", "(I)I"⟩
abbrev cX11_returned : ByteArray := prog_1_method_23_code
abbrev yX11_returned : MethodName := ⟨RX11, "returned", "(I)I"⟩
abbrev cX11_broken : ByteArray := prog_1_method_24_code
abbrev yX11_broken : MethodName := ⟨RX11, "broken", "(I)I"⟩
abbrev cX11_bill : ByteArray := prog_1_method_25_code
abbrev yX11_bill : MethodName := ⟨RX11, "bill", "(I)I"⟩
abbrev cX11_bottlesOut : ByteArray := prog_1_method_26_code
abbrev yX11_bottlesOut : MethodName := ⟨RX11, "bottlesOut", "()I"⟩
abbrev cX11_finish : ByteArray := prog_1_method_27_code
abbrev yX11_finish : MethodName := ⟨RX11, "finish", "()I"⟩
abbrev cX11_visitCount : ByteArray := prog_1_method_28_code
abbrev yX11_visitCount : MethodName := ⟨RX11, "visitCount", "()I"⟩
abbrev cX11_visitHouse : ByteArray := prog_1_method_29_code
abbrev yX11_visitHouse : MethodName := ⟨RX11, "visitHouse", "(I)I"⟩
abbrev cX11_visitMinute : ByteArray := prog_1_method_30_code
abbrev yX11_visitMinute : MethodName := ⟨RX11, "visitMinute", "(I)I"⟩
abbrev cX11_visitReturned : ByteArray := prog_1_method_31_code
abbrev yX11_visitReturned : MethodName := ⟨RX11, "visitReturned", "(I)I"⟩
abbrev cX11_reloads : ByteArray := prog_1_method_32_code
abbrev yX11_reloads : MethodName := ⟨RX11, "reloads", "()I"⟩
abbrev cX11_carryOut : ByteArray := prog_1_method_33_code
abbrev yX11_carryOut : MethodName := ⟨RX11, "carryOut", "(I)I"⟩
abbrev cX11_setSkipped : ByteArray := prog_1_method_34_code
abbrev yX11_setSkipped : MethodName := ⟨RX11, "setSkipped", "(IZ)Z"⟩
abbrev cX11_breakBottles : ByteArray := prog_1_method_35_code
abbrev yX11_breakBottles : MethodName := ⟨RX11, "breakBottles", "(II)I"⟩
abbrev cX11_setOrder : ByteArray := prog_1_method_36_code
abbrev yX11_setOrder : MethodName := ⟨RX11, "setOrder", "(III)I"⟩
abbrev cX11_setKeep : ByteArray := prog_1_method_37_code
abbrev yX11_setKeep : MethodName := ⟨RX11, "setKeep", "(II)I"⟩
abbrev cX11_setGate : ByteArray := prog_1_method_38_code
abbrev yX11_setGate : MethodName := ⟨RX11, "setGate", "(III)Z"⟩
abbrev cX11_undo : ByteArray := prog_1_method_39_code
abbrev yX11_undo : MethodName := ⟨RX11, "undo", "()I"⟩
abbrev cX11_saveSnapshot : ByteArray := prog_1_method_40_code
abbrev yX11_saveSnapshot : MethodName := ⟨RX11, "saveSnapshot", "(I)Z"⟩
abbrev cX11_restoreSnapshot : ByteArray := prog_1_method_41_code
abbrev yX11_restoreSnapshot : MethodName := ⟨RX11, "restoreSnapshot", "(I)Z"⟩
abbrev cX11_isHouse : ByteArray := prog_1_method_42_code
abbrev yX11_isHouse : MethodName := ⟨RX11, "isHouse", "(I)Z"⟩
abbrev cX11_isStreet : ByteArray := prog_1_method_43_code
abbrev yX11_isStreet : MethodName := ⟨RX11, "isStreet", "(I)Z"⟩
abbrev cX11_isNode : ByteArray := prog_1_method_44_code
abbrev yX11_isNode : MethodName := ⟨RX11, "isNode", "(I)Z"⟩
abbrev cX11_isVisit : ByteArray := prog_1_method_45_code
abbrev yX11_isVisit : MethodName := ⟨RX11, "isVisit", "(I)Z"⟩
abbrev cX11_isWeekday : ByteArray := prog_1_method_46_code
abbrev yX11_isWeekday : MethodName := ⟨RX11, "isWeekday", "(I)Z"⟩
abbrev cX11_isChoice : ByteArray := prog_1_method_47_code
abbrev yX11_isChoice : MethodName := ⟨RX11, "isChoice", "(I)Z"⟩
abbrev cX11_isSlot : ByteArray := prog_1_method_48_code
abbrev yX11_isSlot : MethodName := ⟨RX11, "isSlot", "(I)Z"⟩
abbrev cX11_emptySlots : ByteArray := prog_1_method_49_code
abbrev yX11_emptySlots : MethodName := ⟨RX11, "emptySlots", "()V"⟩
abbrev cX11_beginChange : ByteArray := prog_1_method_50_code
abbrev yX11_beginChange : MethodName := ⟨RX11, "beginChange", "()V"⟩
abbrev cX11_chooseRoute : ByteArray := prog_1_method_51_code
abbrev yX11_chooseRoute : MethodName := ⟨RX11, "chooseRoute", "(I)Z"⟩
abbrev cX11_chooseByHabit : ByteArray := prog_1_method_52_code
abbrev yX11_chooseByHabit : MethodName := ⟨RX11, "chooseByHabit", "()V"⟩
abbrev cX11_horseChoice : ByteArray := prog_1_method_53_code
abbrev yX11_horseChoice : MethodName := ⟨RX11, "horseChoice", "(II)I"⟩
abbrev cX11_settleAccounts : ByteArray := prog_1_method_54_code
abbrev yX11_settleAccounts : MethodName := ⟨RX11, "settleAccounts", "(LDeliveryRound$Log;)V"⟩
abbrev cX11_learnHabits : ByteArray := prog_1_method_55_code
abbrev yX11_learnHabits : MethodName := ⟨RX11, "learnHabits", "(LDeliveryRound$Log;)V"⟩
abbrev cX12_init : ByteArray := prog_14_method_1_code
abbrev yX12_init : MethodName := ⟨RX12, "<init>", "()V"⟩
abbrev cX12_within : ByteArray := prog_14_method_3_code
abbrev yX12_within : MethodName := ⟨RX12, "within", "(JJJ)Z"⟩
abbrev cX12_appendInt : ByteArray := prog_14_method_4_code
abbrev yX12_appendInt : MethodName := ⟨RX12, "appendInt", "(I)V"⟩
abbrev cX12_append : ByteArray := prog_14_method_5_code
abbrev yX12_append : MethodName := ⟨RX12, "append", "(IIIII)I"⟩
abbrev cX12_byteAt : ByteArray := prog_14_method_6_code
abbrev yX12_byteAt : MethodName := ⟨RX12, "byteAt", "(I)I"⟩
abbrev cX12_nextToken : ByteArray := prog_14_method_7_code
abbrev yX12_nextToken : MethodName := ⟨RX12, "nextToken", "()V"⟩
abbrev cX12_must : ByteArray := prog_14_method_8_code
abbrev yX12_must : MethodName := ⟨RX12, "must", "(ZI)Z"⟩
abbrev cX12_is : ByteArray := prog_14_method_9_code
abbrev yX12_is : MethodName := ⟨RX12, "is", "(Ljava/lang/String;)Z"⟩
abbrev cX12_number : ByteArray := prog_14_method_10_code
abbrev yX12_number : MethodName := ⟨RX12, "number", "(II)I"⟩
abbrev cX12_isJoined : ByteArray := prog_14_method_11_code
abbrev yX12_isJoined : MethodName := ⟨RX12, "isJoined", "(III)Z"⟩
abbrev cX12_readStreet : ByteArray := prog_14_method_12_code
abbrev yX12_readStreet : MethodName := ⟨RX12, "readStreet", "()V"⟩
abbrev cX12_readHouse : ByteArray := prog_14_method_13_code
abbrev yX12_readHouse : MethodName := ⟨RX12, "readHouse", "()V"⟩
abbrev cX12_once : ByteArray := prog_14_method_14_code
abbrev yX12_once : MethodName := ⟨RX12, "once", "(I)V"⟩
abbrev cX12_statement : ByteArray := prog_14_method_15_code
abbrev yX12_statement : MethodName := ⟨RX12, "statement", "()V"⟩
abbrev cX12_adopt : ByteArray := prog_14_method_16_code
abbrev yX12_adopt : MethodName := ⟨RX12, "adopt", "([I)V"⟩
abbrev cX12_parse : ByteArray := prog_14_method_17_code
abbrev yX12_parse : MethodName := ⟨RX12, "parse", "(I)I"⟩
abbrev cX12_clearLedger : ByteArray := prog_14_method_18_code
abbrev yX12_clearLedger : MethodName := ⟨RX12, "clearLedger", "()V"⟩
abbrev cX12_keepState : ByteArray := prog_14_method_19_code
abbrev yX12_keepState : MethodName := ⟨RX12, "keepState", "()V"⟩
abbrev cX12_isHouse : ByteArray := prog_14_method_20_code
abbrev yX12_isHouse : MethodName := ⟨RX12, "isHouse", "(I)Z"⟩
abbrev cX12_isStreet : ByteArray := prog_14_method_21_code
abbrev yX12_isStreet : MethodName := ⟨RX12, "isStreet", "(I)Z"⟩
abbrev cX12_isNode : ByteArray := prog_14_method_22_code
abbrev yX12_isNode : MethodName := ⟨RX12, "isNode", "(I)Z"⟩
abbrev cX12_nodeCount : ByteArray := prog_14_method_23_code
abbrev yX12_nodeCount : MethodName := ⟨RX12, "nodeCount", "()I"⟩
abbrev cX12_streetCount : ByteArray := prog_14_method_24_code
abbrev yX12_streetCount : MethodName := ⟨RX12, "streetCount", "()I"⟩
abbrev cX12_houseCount : ByteArray := prog_14_method_25_code
abbrev yX12_houseCount : MethodName := ⟨RX12, "houseCount", "()I"⟩
abbrev cX12_capacity : ByteArray := prog_14_method_26_code
abbrev yX12_capacity : MethodName := ⟨RX12, "capacity", "()I"⟩
abbrev cX12_day : ByteArray := prog_14_method_27_code
abbrev yX12_day : MethodName := ⟨RX12, "day", "()I"⟩
abbrev cX12_houseNode : ByteArray := prog_14_method_28_code
abbrev yX12_houseNode : MethodName := ⟨RX12, "houseNode", "(I)I"⟩
abbrev cX12_order : ByteArray := prog_14_method_29_code
abbrev yX12_order : MethodName := ⟨RX12, "order", "(II)I"⟩
abbrev cX12_through : ByteArray := prog_14_method_30_code
abbrev yX12_through : MethodName := ⟨RX12, "through", "(II)I"⟩
abbrev cX12_layArrivals : ByteArray := prog_14_method_31_code
abbrev yX12_layArrivals : MethodName := ⟨RX12, "layArrivals", "(II)V"⟩
abbrev cX12_arrivalOf : ByteArray := prog_14_method_32_code
abbrev yX12_arrivalOf : MethodName := ⟨RX12, "arrivalOf", "(III)I"⟩
abbrev cX12_isOpen : ByteArray := prog_14_method_33_code
abbrev yX12_isOpen : MethodName := ⟨RX12, "isOpen", "(II)I"⟩
abbrev cX12_arrival : ByteArray := prog_14_method_34_code
abbrev yX12_arrival : MethodName := ⟨RX12, "arrival", "(III)I"⟩
abbrev cX12_demandOf : ByteArray := prog_14_method_35_code
abbrev yX12_demandOf : MethodName := ⟨RX12, "demandOf", "(I)I"⟩
abbrev cX12_demand : ByteArray := prog_14_method_36_code
abbrev yX12_demand : MethodName := ⟨RX12, "demand", "(I)I"⟩
abbrev cX12_totalOf : ByteArray := prog_14_method_37_code
abbrev yX12_totalOf : MethodName := ⟨RX12, "totalOf", "()I"⟩
abbrev cX12_totalDemand : ByteArray := prog_14_method_38_code
abbrev yX12_totalDemand : MethodName := ⟨RX12, "totalDemand", "()I"⟩
abbrev cX12_stopSet : ByteArray := prog_14_method_39_code
abbrev yX12_stopSet : MethodName := ⟨RX12, "stopSet", "()I"⟩
abbrev cX12_stops : ByteArray := prog_14_method_40_code
abbrev yX12_stops : MethodName := ⟨RX12, "stops", "()I"⟩
abbrev cX12_habitOf : ByteArray := prog_14_method_41_code
abbrev yX12_habitOf : MethodName := ⟨RX12, "habitOf", "(II)I"⟩
abbrev cX12_habit : ByteArray := prog_14_method_42_code
abbrev yX12_habit : MethodName := ⟨RX12, "habit", "(II)I"⟩
abbrev cX12_layByNumber : ByteArray := prog_14_method_43_code
abbrev yX12_layByNumber : MethodName := ⟨RX12, "layByNumber", "()V"⟩
abbrev cX12_layHorse : ByteArray := prog_14_method_44_code
abbrev yX12_layHorse : MethodName := ⟨RX12, "layHorse", "()V"⟩
abbrev cX12_stayAt : ByteArray := prog_14_method_45_code
abbrev yX12_stayAt : MethodName := ⟨RX12, "stayAt", "(I)I"⟩
abbrev cX12_bestEnd : ByteArray := prog_14_method_46_code
abbrev yX12_bestEnd : MethodName := ⟨RX12, "bestEnd", "(III)I"⟩
abbrev cX12_goesOn : ByteArray := prog_14_method_47_code
abbrev yX12_goesOn : MethodName := ⟨RX12, "goesOn", "(III)V"⟩
abbrev cX12_layFastest : ByteArray := prog_14_method_48_code
abbrev yX12_layFastest : MethodName := ⟨RX12, "layFastest", "()Z"⟩
abbrev cX12_stopAt : ByteArray := prog_14_method_49_code
abbrev yX12_stopAt : MethodName := ⟨RX12, "stopAt", "(I)I"⟩
abbrev cX12_horseStop : ByteArray := prog_14_method_50_code
abbrev yX12_horseStop : MethodName := ⟨RX12, "horseStop", "(I)I"⟩
abbrev cX12_fastestFinish : ByteArray := prog_14_method_51_code
abbrev yX12_fastestFinish : MethodName := ⟨RX12, "fastestFinish", "()I"⟩
abbrev cX12_fastestStop : ByteArray := prog_14_method_52_code
abbrev yX12_fastestStop : MethodName := ⟨RX12, "fastestStop", "(I)I"⟩
abbrev cX12_layOrder : ByteArray := prog_14_method_53_code
abbrev yX12_layOrder : MethodName := ⟨RX12, "layOrder", "(I)Z"⟩
abbrev cX12_stillWanted : ByteArray := prog_14_method_54_code
abbrev yX12_stillWanted : MethodName := ⟨RX12, "stillWanted", "()I"⟩
abbrev cX12_reload : ByteArray := prog_14_method_55_code
abbrev yX12_reload : MethodName := ⟨RX12, "reload", "(I)V"⟩
abbrev cX12_visit : ByteArray := prog_14_method_56_code
abbrev yX12_visit : MethodName := ⟨RX12, "visit", "(I)V"⟩
abbrev cX12_visitStop : ByteArray := prog_14_method_57_code
abbrev yX12_visitStop : MethodName := ⟨RX12, "visitStop", "(I)V"⟩
abbrev cX12_leaveOut : ByteArray := prog_14_method_58_code
abbrev yX12_leaveOut : MethodName := ⟨RX12, "leaveOut", "(I)V"⟩
abbrev cX12_playRound : ByteArray := prog_14_method_59_code
abbrev yX12_playRound : MethodName := ⟨RX12, "playRound", "()V"⟩
abbrev cX12_previewFinish : ByteArray := prog_14_method_60_code
abbrev yX12_previewFinish : MethodName := ⟨RX12, "previewFinish", "(I)I"⟩
abbrev cX12_learn : ByteArray := prog_14_method_61_code
abbrev yX12_learn : MethodName := ⟨RX12, "learn", "(II)V"⟩
abbrev cX12_carryOut : ByteArray := prog_14_method_62_code
abbrev yX12_carryOut : MethodName := ⟨RX12, "carryOut", "(I)I"⟩
abbrev cX12_bottlesAt : ByteArray := prog_14_method_63_code
abbrev yX12_bottlesAt : MethodName := ⟨RX12, "bottlesAt", "(I)I"⟩
abbrev cX12_delivered : ByteArray := prog_14_method_64_code
abbrev yX12_delivered : MethodName := ⟨RX12, "delivered", "(I)I"⟩
abbrev cX12_returned : ByteArray := prog_14_method_65_code
abbrev yX12_returned : MethodName := ⟨RX12, "returned", "(I)I"⟩
abbrev cX12_broken : ByteArray := prog_14_method_66_code
abbrev yX12_broken : MethodName := ⟨RX12, "broken", "(I)I"⟩
abbrev cX12_bill : ByteArray := prog_14_method_67_code
abbrev yX12_bill : MethodName := ⟨RX12, "bill", "(I)I"⟩
abbrev cX12_bottlesOut : ByteArray := prog_14_method_68_code
abbrev yX12_bottlesOut : MethodName := ⟨RX12, "bottlesOut", "()I"⟩
abbrev cX12_finish : ByteArray := prog_14_method_69_code
abbrev yX12_finish : MethodName := ⟨RX12, "finish", "()I"⟩
abbrev cX12_visitCount : ByteArray := prog_14_method_70_code
abbrev yX12_visitCount : MethodName := ⟨RX12, "visitCount", "()I"⟩
abbrev cX12_recordOf : ByteArray := prog_14_method_71_code
abbrev yX12_recordOf : MethodName := ⟨RX12, "recordOf", "(II)I"⟩
abbrev cX12_visitHouse : ByteArray := prog_14_method_72_code
abbrev yX12_visitHouse : MethodName := ⟨RX12, "visitHouse", "(I)I"⟩
abbrev cX12_visitMinute : ByteArray := prog_14_method_73_code
abbrev yX12_visitMinute : MethodName := ⟨RX12, "visitMinute", "(I)I"⟩
abbrev cX12_visitReturned : ByteArray := prog_14_method_74_code
abbrev yX12_visitReturned : MethodName := ⟨RX12, "visitReturned", "(I)I"⟩
abbrev cX12_reloads : ByteArray := prog_14_method_75_code
abbrev yX12_reloads : MethodName := ⟨RX12, "reloads", "()I"⟩
abbrev cX12_setSkipped : ByteArray := prog_14_method_76_code
abbrev yX12_setSkipped : MethodName := ⟨RX12, "setSkipped", "(IZ)Z"⟩
abbrev cX12_breakBottles : ByteArray := prog_14_method_77_code
abbrev yX12_breakBottles : MethodName := ⟨RX12, "breakBottles", "(II)I"⟩
abbrev cX12_exchange : ByteArray := prog_14_method_78_code
abbrev yX12_exchange : MethodName := ⟨RX12, "exchange", "(II)I"⟩
abbrev cX12_setOrder : ByteArray := prog_14_method_79_code
abbrev yX12_setOrder : MethodName := ⟨RX12, "setOrder", "(III)I"⟩
abbrev cX12_setKeep : ByteArray := prog_14_method_80_code
abbrev yX12_setKeep : MethodName := ⟨RX12, "setKeep", "(II)I"⟩
abbrev cX12_setGate : ByteArray := prog_14_method_81_code
abbrev yX12_setGate : MethodName := ⟨RX12, "setGate", "(III)Z"⟩
abbrev cX12_undo : ByteArray := prog_14_method_82_code
abbrev yX12_undo : MethodName := ⟨RX12, "undo", "()I"⟩
abbrev cX12_saveSnapshot : ByteArray := prog_14_method_83_code
abbrev yX12_saveSnapshot : MethodName := ⟨RX12, "saveSnapshot", "(I)Z"⟩
abbrev cX12_restoreSnapshot : ByteArray := prog_14_method_84_code
abbrev yX12_restoreSnapshot : MethodName := ⟨RX12, "restoreSnapshot", "(I)Z"⟩
abbrev cJ9_max_7cf53 : ByteArray := prog_15_method_65_code
abbrev yJ9_max_7cf53 : MethodName := ⟨RJ9, "max", "(II)I"⟩
abbrev cJ9_min_7cf53 : ByteArray := prog_15_method_69_code
abbrev yJ9_min_7cf53 : MethodName := ⟨RJ9, "min", "(II)I"⟩
abbrev cJ0_length_8abf5 : ByteArray := prog_16_method_54_code
abbrev yJ0_length_8abf5 : MethodName := ⟨RJ0, "length", "()I"⟩
abbrev cJ0_charAt_5068e : ByteArray := prog_16_method_56_code
abbrev yJ0_charAt_5068e : MethodName := ⟨RJ0, "charAt", "(I)C"⟩
abbrev cJ0_coder_7d493 : ByteArray := prog_16_method_152_code
abbrev yJ0_coder_7d493 : MethodName := ⟨RJ0, "coder", "()B"⟩
abbrev cJ0_isLatin1_aae02 : ByteArray := prog_16_method_154_code
abbrev yJ0_isLatin1_aae02 : MethodName := ⟨RJ0, "isLatin1", "()Z"⟩
abbrev cJ0_checkIndex_df160 : ByteArray := prog_16_method_155_code
abbrev yJ0_checkIndex_df160 : MethodName := ⟨RJ0, "checkIndex", "(II)V"⟩
abbrev cJ1_charAt_3b067 : ByteArray := prog_17_method_2_code
abbrev yJ1_charAt_3b067 : MethodName := ⟨RJ1, "charAt", "([BI)C"⟩
abbrev cJ2_getChar_3b067 : ByteArray := prog_18_method_5_code
abbrev yJ2_getChar_3b067 : MethodName := ⟨RJ2, "getChar", "([BI)C"⟩
abbrev cJ2_length_9d52b : ByteArray := prog_18_method_6_code
abbrev yJ2_length_9d52b : MethodName := ⟨RJ2, "length", "([B)I"⟩
abbrev cJ2_charAt_3b067 : ByteArray := prog_18_method_83_code
abbrev yJ2_charAt_3b067 : MethodName := ⟨RJ2, "charAt", "([BI)C"⟩
abbrev cJ2_checkIndex_2214a : ByteArray := prog_18_method_91_code
abbrev yJ2_checkIndex_2214a : MethodName := ⟨RJ2, "checkIndex", "(I[B)V"⟩
abbrev cJ7_fill_53178 : ByteArray := prog_20_method_103_code
abbrev yJ7_fill_53178 : MethodName := ⟨RJ7, "fill", "([II)V"⟩
abbrev cJ3_checkIndex_8e157 : ByteArray := prog_21_method_11_code
abbrev yJ3_checkIndex_8e157 : MethodName := ⟨RJ3, "checkIndex", "(IILjava/util/function/BiFunction;)I"⟩
/-- the tables' words that go over to a callee -/
def tbl : List Cond := lw_tbl.filter goodWord
theorem tb_in {w : Cond} (i : Nat) (h : lw_tbl[i]? = some w) (hg : goodWord w = true) : w ∈ tbl := List.mem_filter.mpr ⟨List.mem_of_getElem? h, hg⟩
theorem tb_lw {w : Cond} (h : w ∈ tbl) : w ∈ lw_tbl := (List.mem_filter.mp h).1
theorem tb_gd {w : Cond} (h : w ∈ tbl) : goodWord w = true := (List.mem_filter.mp h).2
theorem tb_ws {C : String} {T : u_T} {N : Nat} (ps : List Nat) (h : ∀ k, k < N → lw_tbl[ps.getD k 0]? = some (u_lay C T k)) (hg : ∀ k, k < N → goodWord (u_lay C T k) = true) : ∀ w ∈ u_ws C T N, w ∈ tbl := by
  intro w hw
  obtain ⟨k, hk, rfl⟩ := List.mem_map.mp hw
  have hk := List.mem_range.mp hk
  exact tb_in _ (h k hk) (hg k hk)
theorem inX0 : ∀ w ∈ u_ws RX0 TX0 11, w ∈ tbl := tb_ws [433, 435, 437, 439, 441, 443, 445, 447, 449, 451, 453] (by decide +kernel) (by decide +kernel)
theorem inX1 : ∀ w ∈ u_ws RX1 TX1 10, w ∈ tbl := tb_ws [392, 394, 396, 398, 400, 402, 404, 406, 408, 410] (by decide +kernel) (by decide +kernel)
theorem inX2 : ∀ w ∈ u_ws RX2 TX2 3, w ∈ tbl := tb_ws [469, 471, 473] (by decide +kernel) (by decide +kernel)
theorem inX3 : ∀ w ∈ u_ws RX3 TX3 6, w ∈ tbl := tb_ws [229, 231, 233, 235, 237, 239] (by decide +kernel) (by decide +kernel)
theorem inX4 : ∀ w ∈ u_ws RX4 TX4 4, w ∈ tbl := tb_ws [347, 349, 351, 353] (by decide +kernel) (by decide +kernel)
theorem inX5 : ∀ w ∈ u_ws RX5 TX5 5, w ∈ tbl := tb_ws [309, 311, 313, 315, 317] (by decide +kernel) (by decide +kernel)
theorem inX6 : ∀ w ∈ u_ws RX6 TX6 12, w ∈ tbl := tb_ws [173, 175, 177, 179, 181, 183, 185, 187, 189, 191, 193, 195] (by decide +kernel) (by decide +kernel)
theorem inX7 : ∀ w ∈ u_ws RX7 TX7 2, w ∈ tbl := tb_ws [366, 368] (by decide +kernel) (by decide +kernel)
theorem inX8 : ∀ w ∈ u_ws RX8 TX8 12, w ∈ tbl := tb_ws [276, 278, 280, 282, 284, 286, 288, 290, 292, 294, 296, 298] (by decide +kernel) (by decide +kernel)
theorem inX9 : ∀ w ∈ u_ws RX9 TX9 6, w ∈ tbl := tb_ws [95, 97, 99, 101, 103, 105] (by decide +kernel) (by decide +kernel)
theorem inX10 : ∀ w ∈ u_ws RX10 TX10 2, w ∈ tbl := tb_ws [332, 334] (by decide +kernel) (by decide +kernel)
theorem inX11 : ∀ w ∈ u_ws RX11 TX11 12, w ∈ tbl := tb_ws [488, 490, 492, 494, 496, 498, 500, 502, 504, 506, 508, 510] (by decide +kernel) (by decide +kernel)
theorem inX12 : ∀ w ∈ u_ws RX12 TX12 45, w ∈ tbl := tb_ws [1104, 1106, 1108, 1110, 1112, 1114, 1116, 1118, 1120, 1122, 1124, 1126, 1128, 1130, 1132, 1134, 1136, 1138, 1140, 1142, 1144, 1146, 1148, 1150, 1152, 1154, 1156, 1158, 1160, 1162, 1164, 1166, 1168, 1170, 1172, 1174, 1176, 1178, 1180, 1182, 1184, 1186, 1188, 1190, 1192] (by decide +kernel) (by decide +kernel)
end
section
/-- the cells, in the order in which they are made: (0, class), (1, length) int[], 2 byte[], 3 boolean[], 4 State[] -/
def K0 : List (Nat × Nat) := [(0, 11), (0, 9), (2, 900), (0, 5), (0, 6), (1, 18), (1, 18), (1, 18), (1, 12), (1, 12), (0, 8), (1, 84), (1, 12), (1, 18), (1, 18), (1, 12), (1, 12), (1, 12), (1, 12), (1, 100), (0, 3), (1, 12), (1, 12), (1, 12), (0, 6), (1, 18), (1, 18), (1, 18), (1, 12), (1, 12), (0, 8), (1, 84), (1, 12), (1, 18), (1, 18), (1, 12), (1, 12), (1, 12), (1, 12), (1, 100), (0, 3), (1, 12), (1, 12), (1, 12), (0, 10), (0, 4), (1, 10), (1, 10), (0, 7), (1, 10), (0, 1), (0, 7), (1, 10), (1, 10), (1, 5120), (1, 5120), (0, 0), (0, 3), (1, 12), (1, 12), (1, 12), (0, 2), (4, 12), (0, 8), (1, 84), (1, 12), (1, 18), (1, 18), (1, 12), (1, 12), (1, 12), (1, 12), (1, 100), (0, 3), (1, 12), (1, 12), (1, 12), (0, 8), (1, 84), (1, 12), (1, 18), (1, 18), (1, 12), (1, 12), (1, 12), (1, 12), (1, 100), (0, 3), (1, 12), (1, 12), (1, 12), (0, 8), (1, 84), (1, 12), (1, 18), (1, 18), (1, 12), (1, 12), (1, 12), (1, 12), (1, 100), (0, 3), (1, 12), (1, 12), (1, 12), (0, 8), (1, 84), (1, 12), (1, 18), (1, 18), (1, 12), (1, 12), (1, 12), (1, 12), (1, 100), (0, 3), (1, 12), (1, 12), (1, 12), (0, 8), (1, 84), (1, 12), (1, 18), (1, 18), (1, 12), (1, 12), (1, 12), (1, 12), (1, 100), (0, 3), (1, 12), (1, 12), (1, 12), (0, 8), (1, 84), (1, 12), (1, 18), (1, 18), (1, 12), (1, 12), (1, 12), (1, 12), (1, 100), (0, 3), (1, 12), (1, 12), (1, 12), (0, 8), (1, 84), (1, 12), (1, 18), (1, 18), (1, 12), (1, 12), (1, 12), (1, 12), (1, 100), (0, 3), (1, 12), (1, 12), (1, 12), (0, 8), (1, 84), (1, 12), (1, 18), (1, 18), (1, 12), (1, 12), (1, 12), (1, 12), (1, 100), (0, 3), (1, 12), (1, 12), (1, 12), (0, 8), (1, 84), (1, 12), (1, 18), (1, 18), (1, 12), (1, 12), (1, 12), (1, 12), (1, 100), (0, 3), (1, 12), (1, 12), (1, 12), (0, 8), (1, 84), (1, 12), (1, 18), (1, 18), (1, 12), (1, 12), (1, 12), (1, 12), (1, 100), (0, 3), (1, 12), (1, 12), (1, 12), (0, 8), (1, 84), (1, 12), (1, 18), (1, 18), (1, 12), (1, 12), (1, 12), (1, 12), (1, 100), (0, 3), (1, 12), (1, 12), (1, 12), (0, 8), (1, 84), (1, 12), (1, 18), (1, 18), (1, 12), (1, 12), (1, 12), (1, 12), (1, 100), (0, 3), (1, 12), (1, 12), (1, 12), (4, 2), (0, 8), (1, 84), (1, 12), (1, 18), (1, 18), (1, 12), (1, 12), (1, 12), (1, 12), (1, 100), (0, 3), (1, 12), (1, 12), (1, 12), (0, 8), (1, 84), (1, 12), (1, 18), (1, 18), (1, 12), (1, 12), (1, 12), (1, 12), (1, 100), (0, 3), (1, 12), (1, 12), (1, 12), (3, 2), (0, 12), (2, 900), (1, 7), (1, 7), (1, 36), (1, 36), (1, 36), (1, 36), (1, 36), (1, 24), (1, 24), (1, 24), (1, 168), (1, 332), (1, 3984), (1, 664), (3, 2), (1, 10), (3, 10), (1, 10), (1, 10240), (1, 12), (1, 12), (1, 12), (1, 12)]
def kd (c : Nat) : Nat × Nat := K0.getD c (9, 0)
def FRL : List (List Bool) := [[true, true, true, true, true, false, false, false, false, false, false], [true, true, true, true, true, true, true, false, false, false], [true, false, false], [false, false, false, true, true, true], [true, true, true, true], [true, true, true, false, false], [false, false, false, false, false, false, false, true, true, true, true, true], [true, false], [false, false, true, true, true, true, true, true, true, true, true, true], [true, false, false, false, false, false], [true, true], [true, true, true, true, true, true, true, true, true, true, true, true], [false, true, false, false, false, false, false, false, false, false, true, true, true, true, true, true, true, true, true, true, true, false, true, true, false, true, true, true, true, true, false, true, false, false, false, false, false, false, false, false, false, true, true, true, true]]
def fR (ci k : Nat) : Bool := (FRL.getD ci []).getD k false
def NFL : List Nat := [11, 10, 3, 6, 4, 5, 12, 2, 12, 6, 2, 12, 45]
def nf (ci : Nat) : Nat := NFL.getD ci 0
/-- the references between the cells, once all are made -/
def RL0 : List (List (Option Nat)) := [[some 1, some 3, some 24, some 30, some 44, some 45, some 48, some 50, some 56, some 61, some 231, some 260], [some 2], [], [some 1, some 4, some 10], [none, none, none, none, none, none, none, some 5, some 6, some 7, some 8, some 9], [], [], [], [], [], [none, none, some 11, some 12, some 13, some 14, some 15, some 16, some 17, some 18, some 19, some 20], [], [], [], [], [], [], [], [], [], [none, none, none, some 21, some 22, some 23], [], [], [], [none, none, none, none, none, none, none, some 25, some 26, some 27, some 28, some 29], [], [], [], [], [], [none, none, some 31, some 32, some 33, some 34, some 35, some 36, some 37, some 38, some 39, some 40], [], [], [], [], [], [], [], [], [], [none, none, none, some 41, some 42, some 43], [], [], [], [some 24, some 30], [some 24, some 30, some 46, some 47], [], [], [some 49], [], [some 24, some 44, some 45, some 51, some 53, some 54, some 55], [some 52], [], [], [], [], [some 24, some 30, some 44, some 45, some 57], [none, none, none, some 58, some 59, some 60], [], [], [], [some 62], [some 63, some 77, some 91, some 105, some 119, some 133, some 147, some 161, some 175, some 189, some 203, some 217], [none, none, some 64, some 65, some 66, some 67, some 68, some 69, some 70, some 71, some 72, some 73], [], [], [], [], [], [], [], [], [], [none, none, none, some 74, some 75, some 76], [], [], [], [none, none, some 78, some 79, some 80, some 81, some 82, some 83, some 84, some 85, some 86, some 87], [], [], [], [], [], [], [], [], [], [none, none, none, some 88, some 89, some 90], [], [], [], [none, none, some 92, some 93, some 94, some 95, some 96, some 97, some 98, some 99, some 100, some 101], [], [], [], [], [], [], [], [], [], [none, none, none, some 102, some 103, some 104], [], [], [], [none, none, some 106, some 107, some 108, some 109, some 110, some 111, some 112, some 113, some 114, some 115], [], [], [], [], [], [], [], [], [], [none, none, none, some 116, some 117, some 118], [], [], [], [none, none, some 120, some 121, some 122, some 123, some 124, some 125, some 126, some 127, some 128, some 129], [], [], [], [], [], [], [], [], [], [none, none, none, some 130, some 131, some 132], [], [], [], [none, none, some 134, some 135, some 136, some 137, some 138, some 139, some 140, some 141, some 142, some 143], [], [], [], [], [], [], [], [], [], [none, none, none, some 144, some 145, some 146], [], [], [], [none, none, some 148, some 149, some 150, some 151, some 152, some 153, some 154, some 155, some 156, some 157], [], [], [], [], [], [], [], [], [], [none, none, none, some 158, some 159, some 160], [], [], [], [none, none, some 162, some 163, some 164, some 165, some 166, some 167, some 168, some 169, some 170, some 171], [], [], [], [], [], [], [], [], [], [none, none, none, some 172, some 173, some 174], [], [], [], [none, none, some 176, some 177, some 178, some 179, some 180, some 181, some 182, some 183, some 184, some 185], [], [], [], [], [], [], [], [], [], [none, none, none, some 186, some 187, some 188], [], [], [], [none, none, some 190, some 191, some 192, some 193, some 194, some 195, some 196, some 197, some 198, some 199], [], [], [], [], [], [], [], [], [], [none, none, none, some 200, some 201, some 202], [], [], [], [none, none, some 204, some 205, some 206, some 207, some 208, some 209, some 210, some 211, some 212, some 213], [], [], [], [], [], [], [], [], [], [none, none, none, some 214, some 215, some 216], [], [], [], [none, none, some 218, some 219, some 220, some 221, some 222, some 223, some 224, some 225, some 226, some 227], [], [], [], [], [], [], [], [], [], [none, none, none, some 228, some 229, some 230], [], [], [], [some 232, some 246], [none, none, some 233, some 234, some 235, some 236, some 237, some 238, some 239, some 240, some 241, some 242], [], [], [], [], [], [], [], [], [], [none, none, none, some 243, some 244, some 245], [], [], [], [none, none, some 247, some 248, some 249, some 250, some 251, some 252, some 253, some 254, some 255, some 256], [], [], [], [], [], [], [], [], [], [none, none, none, some 257, some 258, some 259], [], [], [], [], [none, some 262, none, none, none, none, none, none, none, none, some 263, some 264, some 265, some 266, some 267, some 268, some 269, some 270, some 271, some 272, some 273, none, some 274, some 275, none, some 276, some 277, some 278, some 279, some 280, none, some 281, none, none, none, none, none, none, none, none, none, some 282, some 283, some 284, some 285], [], [], [], [], [], [], [], [], [], [], [], [], [], [], [], [], [], [], [], [], [], [], [], []]
def Rf0 : Nat → Nat → Option Nat := fun c k => (RL0.getD c []).getD k none
def strLen : List Nat := [5, 4, 5, 5, 6, 5, 4]
def strByt : List (List Int32) := [[110, 111, 100, 101, 115], [99, 97, 114, 116], [115, 116, 97, 114, 116], [112, 114, 105, 99, 101], [115, 116, 114, 101, 101, 116], [104, 111, 117, 115, 101], [103, 97, 116, 101]]
/-- where the class files name the seven words: (class, entry, word, its number) -/
def strL : List (String × Nat × String × Nat) := [("DeliveryRound$Parser", 54, "nodes", 0), ("DeliveryRound$Parser", 63, "cart", 1), ("DeliveryRound$Parser", 75, "start", 2), ("DeliveryRound$Parser", 79, "price", 3), ("DeliveryRound$Parser", 86, "street", 4), ("DeliveryRound$Parser", 136, "gate", 6), ("DeliveryRound$Parser", 91, "house", 5), ("DeliveryRoundModel", 168, "street", 4), ("DeliveryRoundModel", 159, "gate", 6), ("DeliveryRoundModel", 173, "house", 5), ("DeliveryRoundModel", 178, "nodes", 0), ("DeliveryRoundModel", 183, "cart", 1), ("DeliveryRoundModel", 185, "start", 2), ("DeliveryRoundModel", 187, "price", 3)]
abbrev MI : Type := Nat → Nat → Int32
abbrev MR : Type := Nat → Nat → Option Nat
/-- what is fixed of a launch: the classes' numbers and slots, the array classes, the formatter, the words' addresses and their bytes' -/
abbrev gG : Type := va_G × (ClassId × ClassId × ClassId × ClassId) × Value × (Nat → Nat) × (Nat → Nat)
def tysG (G : gG) : List (ClassId × FieldType) := [(G.2.1.1, .int), (G.2.1.2.1, .byte), (G.2.1.2.2.1, .boolean), (G.2.1.2.2.2, .object "DeliveryRound$State")]
def fv (ad : Nat → Nat) (ci : Nat) (r : Nat → Option Nat) (f : Nat → Int32) (k : Nat) : Value := if fR ci k = true then va_rf ((r k).map ad) else .int (f k)
/-- a cell's contents -/
def ce (G : gG) (ad : Nat → Nat) (t : Nat × Nat) (r : Nat → Option Nat) (f : Nat → Int32) : va_E := match t.1 with
  | 0 => .inr (t.2, (List.range (nf t.2)).map (fv ad t.2 r f))
  | 1 => .inl (G.2.1.1, t.2, .inl f)
  | 2 => .inl (G.2.1.2.1, t.2, .inl f)
  | 3 => .inl (G.2.1.2.2.1, t.2, .inl f)
  | _ => .inl (G.2.1.2.2.2, t.2, .inr (.inr (.inr (.inr (fun k => (r k).map ad)))))
/-- the world: the first n cells -/
def wl (G : gG) (ad : Nat → Nat) (n : Nat) (Rf : MR) (I : MI) : va_W := (List.range n).map (fun c => (ad c, ce G ad (kd c) (Rf c) (I c)))
theorem wl_at {G : gG} {ad : Nat → Nat} {n : Nat} {Rf : MR} {I : MI} {c : Nat} (h : c < n) : (wl G ad n Rf I)[c]? = some (ad c, ce G ad (kd c) (Rf c) (I c)) := by
  simp [wl, h]
theorem wl_of {G : gG} {ad : Nat → Nat} {n : Nat} {Rf : MR} {I : MI} {c : Nat} {t : Nat × Nat} (hk : kd c = t) (h : c < n) : (wl G ad n Rf I)[c]? = some (ad c, ce G ad t (Rf c) (I c)) := by
  rw [wl_at h, hk]
def upA (I : MI) (c : Nat) (f : Nat → Int32) : MI := fun i => if i = c then f else I i
def up2 (I : MI) (c k : Nat) (x : Int32) : MI := upA I c (upd (I c) k x)
theorem upA_same (I : MI) (c : Nat) (f : Nat → Int32) : upA I c f c = f := if_pos rfl
theorem upA_ne (I : MI) {c i : Nat} (f : Nat → Int32) (h : i ≠ c) : upA I c f i = I i := if_neg h
theorem wl_set {G : gG} {ad : Nat → Nat} {n : Nat} {Rf : MR} {I : MI} {c : Nat} {t : Nat × Nat} (hk : kd c = t) (f : Nat → Int32) : (wl G ad n Rf I).set c (ad c, ce G ad t (Rf c) f) = wl G ad n Rf (upA I c f) := by
  apply List.ext_getElem?
  intro i
  by_cases hi : i < n
  · by_cases h : i = c
    · subst h
      have hlen : i < (wl G ad n Rf I).length := by simp [wl, hi]
      rw [List.getElem?_set_self hlen, wl_at hi, upA_same, hk]
    · rw [List.getElem?_set_ne (fun q => h q.symm), wl_at hi, wl_at hi, upA_ne I f h]
  · have h1 : (wl G ad n Rf (upA I c f))[i]? = none := List.getElem?_eq_none (by simp [wl]; omega)
    have h2 : ((wl G ad n Rf I).set c (ad c, ce G ad t (Rf c) f))[i]? = none := List.getElem?_eq_none (by simp [wl]; omega)
    rw [h1, h2]
theorem fv_set {ad : Nat → Nat} {ci N k : Nat} {r : Nat → Option Nat} {f : Nat → Int32} {x : Int32} (hf : fR ci k = false) : ((List.range N).map (fv ad ci r f)).set k (.int x) = (List.range N).map (fv ad ci r (upd f k x)) := by
  apply List.ext_getElem?
  intro i
  by_cases hi : i < N
  · by_cases h : i = k
    · subst h
      rw [List.getElem?_set_self (by simp [hi])]
      simp [hi, fv, hf, upd]
    · rw [List.getElem?_set_ne (fun q => h q.symm)]
      simp [hi, fv, upd, h]
  · rw [List.getElem?_eq_none (by simp; omega), List.getElem?_eq_none (by simp; omega)]
/-- an abstract value as the machine's: a cell's number becomes its address; the words, their bytes and the formatter stand as return addresses -/
def cvt (G : gG) (ad : Nat → Nat) : Value → Value
  | .ref r => .ref (ad r)
  | .retAddr k => if k = 0 then G.2.2.1 else if k % 2 = 1 then .ref (G.2.2.2.1 (k / 2)) else .ref (G.2.2.2.2 (k / 2 - 1))
  | v => v
theorem cvt_cat {G : gG} {ad : Nat → Nat} (hf : G.2.2.1.category = 1) (v : Value) : (cvt G ad v).category = v.category := by
  cases v with
  | retAddr k =>
    show (if k = 0 then G.2.2.1 else if k % 2 = 1 then Value.ref (G.2.2.2.1 (k / 2)) else Value.ref (G.2.2.2.2 (k / 2 - 1))).category = 1
    by_cases h : k = 0
    · rw [if_pos h, hf]
    · rw [if_neg h]
      by_cases h2 : k % 2 = 1
      · rw [if_pos h2]; rfl
      · rw [if_neg h2]; rfl
  | _ => rfl
theorem cvt_sum {G : gG} {ad : Nat → Nat} (hf : G.2.2.1.category = 1) (st : List Value) : ((st.map (cvt G ad)).map fun v => v.category).sum = (st.map fun v => v.category).sum := by
  induction st with
  | nil => rfl
  | cons v st ih => simp only [List.map_cons, List.sum_cons, cvt_cat hf, ih]
/-- the locals -/
def lvs (G : gG) (ad : Nat → Nat) (lsA : Array Slot) (nL : Nat) (ls : List (Option Value)) : Prop := lsA.size = nL ∧ lv_wf lsA ∧ ∀ (k : Nat) (v : Value), ls[k]? = some (some v) → lsA[k]? = some (.val (cvt G ad v))
def asc (G : gG) (ad : Nat → Nat) (ls : List (Option Value)) : List (Nat × Value) := (List.range ls.length).filterMap (fun k => match ls[k]? with | some (some v) => some (k, cvt G ad v) | _ => none)
theorem asc_in {G : gG} {ad : Nat → Nat} {ls : List (Option Value)} {k : Nat} {v : Value} (h : ls[k]? = some (some v)) : (k, cvt G ad v) ∈ asc G ad ls := by
  refine List.mem_filterMap.mpr ⟨k, List.mem_range.mpr (List.getElem?_eq_some_iff.mp h).1, ?_⟩
  simp [h]
theorem lvs_has {G : gG} {ad : Nat → Nat} {lsA : Array Slot} {nL : Nat} {ls : List (Option Value)} (h : lvs G ad lsA nL ls) : lv_has lsA nL (asc G ad ls) := by
  refine ⟨h.1, h.2.1, fun q hq => ?_⟩
  obtain ⟨k, -, hk⟩ := List.mem_filterMap.mp hq
  split at hk
  · rename_i v hv
    cases hk
    exact h.2.2 k v hv
  · cases hk
def c1 (ls : List (Option Value)) : Bool := ls.all (fun o => match o with | some v => v.category == 1 | none => true)
theorem lvs_set {G : gG} {ad : Nat → Nat} {lsA : Array Slot} {nL i : Nat} {ls : List (Option Value)} {v : Value} (hf : G.2.2.1.category = 1) (hc : c1 ls = true)
    (h : lv_has lsA nL ((i, cvt G ad v) :: (asc G ad ls).filter (fun q => !(q.1 == i) && !(q.1 + 1 == i && q.2.category == 2)))) : lvs G ad lsA nL (ls.set i (some v)) := by
  refine ⟨h.1, h.2.1, fun k w hk => ?_⟩
  by_cases hi : k = i
  · subst hi
    have hl : k < (ls.set k (some v)).length := (List.getElem?_eq_some_iff.mp hk).1
    rw [List.getElem?_set_self (by simpa using hl)] at hk
    cases hk
    exact h.2.2 (k, cvt G ad v) List.mem_cons_self
  · rw [List.getElem?_set_ne (fun q => hi q.symm)] at hk
    refine h.2.2 (k, cvt G ad w) (List.mem_cons_of_mem _ (List.mem_filter.mpr ⟨asc_in hk, ?_⟩))
    have hw : w.category = 1 := by
      have := List.all_eq_true.mp hc (some w) (List.mem_of_getElem? hk)
      simpa using this
    simp [hi, cvt_cat hf, hw]
/-- a method: its name, code, locals, answer; the frames and words of locals that it needs below it -/
abbrev mD : Type := MethodName × ByteArray × Nat × Option FieldType × Nat × Nat
abbrev rmD (μ : mD) : Room := { frames := μ.2.2.2.2.1, cells := 0, slots := 0, locals := μ.2.2.2.2.2 }
def wsM (μ : mD) : List Cond := Cond.code μ.1 μ.2.1 μ.2.2.1 μ.2.2.2.1 :: tbl
/-- the words and the JDK's statics: no cell that changes -/
def Sx (G : gG) (A : Nat → Prop) (s : State) : Prop :=
  vk_S 7 strLen strByt G.2.2.2.1 G.2.2.2.2 A s s.heap ∧ (∀ q ∈ strL, vk_R q.1 q.2.1 q.2.2.1 (G.2.2.2.1 q.2.2.2) s) ∧ va_Z "java/lang/String" "COMPACT_STRINGS" "Z" (.int 1) A s s.heap ∧ va_Z "jdk/internal/util/Preconditions" "SIOOBE_FORMATTER" "Ljava/util/function/BiFunction;" G.2.2.1 A s s.heap ∧ (G.2.2.1 = .null ∨ ∃ t, G.2.2.1 = .ref t)
theorem Sx_fm {G : gG} {A : Nat → Prop} {s : State} (h : Sx G A s) : G.2.2.1.category = 1 := by
  rcases h.2.2.2.2 with h | ⟨t, h⟩ <;> rw [h] <;> rfl
theorem Sx_go {G : gG} {A B : Nat → Prop} {s U : State} {H : Heap} {locs : List Loc} (h : Sx G A s) (hS : va_S A s.heap H locs) (hU : U.heap = H) (hW : s.WarmedH U.vm) (hBA : ∀ q, B q → A q) : Sx G B U := by
  refine ⟨?_, fun q hq => (h.2.1 q hq).warm hW, ?_, ?_, h.2.2.2.2⟩
  · rw [hU]; exact ((h.1.kept hS.2.1).narrow hBA).moved hW.alike
  · rw [hU]; exact ((h.2.2.1.kept hS.2.1).narrow hBA).moved hW.alike
  · rw [hU]; exact ((h.2.2.2.1.kept hS.2.1).narrow hBA).moved hW.alike
theorem Sx_same {G : gG} {A : Nat → Prop} {s U : State} (h : Sx G A s) (hv : U.vm = s.vm) (hU : U.heap = s.heap) : Sx G A U := by
  have ha : s.vm.Alike U.vm := by rw [hv]; exact Vm.Alike.refl s.vm
  refine ⟨?_, fun q hq => (h.2.1 q hq).same hv, ?_, ?_, h.2.2.2.2⟩
  · rw [hU]; exact h.1.moved ha
  · rw [hU]; exact h.2.2.1.moved ha
  · rw [hU]; exact h.2.2.2.1.moved ha
/-- what holds in a method's body -/
def Cx (G : gG) (μ : mD) (A : Nat → Prop) (p : Program) (s : State) (m : MethodId) (args : Array Value) (meth : Method) (c : Code) : Prop :=
  p.tables.exec = Jvm.exec ∧ c.code = μ.2.1 ∧ meth.sig.returnType = μ.2.2.2.1 ∧ c.maxLocals = μ.2.2.1 ∧ s.vm.findClass μ.1.cls = some m.cls ∧ (∀ w ∈ wsM μ, w.before args s = true) ∧ meth.locks = false ∧ va_K G.1 vwCl (tysG G) s ∧ (∀ q, s.heap.size ≤ q → A q) ∧ Sx G A s
def Po (G : gG) (ad : Nat → Nat) (A : Nat → Prop) (n : Nat) (Rf : MR) (Q : Option Value → MI → Prop) : Array Value → State → Outcome → State → Prop := fun _ st o t =>
  (∃ (v : Option Value) (I : MI), o = .returned (v.map (cvt G ad)) ∧ Q v I ∧ va_P G.1 vwCl (wl G ad n Rf I) t.heap ∧ va_D A (wl G ad n Rf I)) ∧ va_F A st t
/-- from pc, with these locals, this stack and these numbers in the cells, the method comes to its end with Q -/
def WP (μ : mD) (n : Nat) (Rf : MR) (pc : Nat) (ls : List (Option Value)) (st : List Value) (I : MI) (Q : Option Value → MI → Prop) : Prop :=
  ∀ (G : gG) (ad : Nat → Nat) (A : Nat → Prop) (p : Program) (l : Launch) (e : Env) (s : State) (m : MethodId) (args : Array Value) (below : List Frame) (meth : Method) (c : Code) (H : Heap) (locs : List Loc) (lsA : Array Slot),
    Cx G μ A p s m args meth c → va_P G.1 vwCl (wl G ad n Rf I) H → va_D A (wl G ad n Rf I) → va_S A s.heap H locs → lvs G ad lsA μ.2.2.1 ls →
    W p l e (rmD μ) s m args below meth c H locs 0 0 (MQ below (Po G ad A n Rf Q) args s 0 0 A) (F0 m pc lsA (st.map (cvt G ad)))
def okC (ci : Nat) (C : String) (T : u_T) (N : Nat) (ty : Nat → FieldType) : Prop := vwCl[ci]? = some (C, T, N) ∧ (∀ w ∈ u_ws C T N, w ∈ tbl) ∧ nf ci = N ∧ (∀ k, k < N → parseFieldDescriptor (T k).2.2.1 = some (ty k)) ∧ (∀ a, a < N → ∀ b, b < N → a ≠ b → (T a).2.1 ≠ (T b).2.1)

theorem okC0 : okC 0 RX0 TX0 11 tyX0 := ⟨rfl, inX0, rfl, tyX0_ok, nmX0⟩
theorem okC1 : okC 1 RX1 TX1 10 tyX1 := ⟨rfl, inX1, rfl, tyX1_ok, nmX1⟩
theorem okC2 : okC 2 RX2 TX2 3 tyX2 := ⟨rfl, inX2, rfl, tyX2_ok, nmX2⟩
theorem okC3 : okC 3 RX3 TX3 6 tyX3 := ⟨rfl, inX3, rfl, tyX3_ok, nmX3⟩
theorem okC4 : okC 4 RX4 TX4 4 tyX4 := ⟨rfl, inX4, rfl, tyX4_ok, nmX4⟩
theorem okC5 : okC 5 RX5 TX5 5 tyX5 := ⟨rfl, inX5, rfl, tyX5_ok, nmX5⟩
theorem okC6 : okC 6 RX6 TX6 12 tyX6 := ⟨rfl, inX6, rfl, tyX6_ok, nmX6⟩
theorem okC7 : okC 7 RX7 TX7 2 tyX7 := ⟨rfl, inX7, rfl, tyX7_ok, nmX7⟩
theorem okC8 : okC 8 RX8 TX8 12 tyX8 := ⟨rfl, inX8, rfl, tyX8_ok, nmX8⟩
theorem okC9 : okC 9 RX9 TX9 6 tyX9 := ⟨rfl, inX9, rfl, tyX9_ok, nmX9⟩
theorem okC10 : okC 10 RX10 TX10 2 tyX10 := ⟨rfl, inX10, rfl, tyX10_ok, nmX10⟩
theorem okC11 : okC 11 RX11 TX11 12 tyX11 := ⟨rfl, inX11, rfl, tyX11_ok, nmX11⟩
theorem okC12 : okC 12 RX12 TX12 45 tyX12 := ⟨rfl, inX12, rfl, tyX12_ok, nmX12⟩
end
section
/-! one row an instruction, over WP -/
section WR
variable {μ : mD} {n : Nat} {Rf : MR} {pc : Nat} {ls : List (Option Value)} {st : List Value} {I : MI} {Q : Option Value → MI → Prop}
theorem w_iconst {k : Int} {v : Int32} (hd : decode μ.2.1 pc = .ok (.iconst k, 1)) (hv : Int32.ofInt k = v) (K : WP μ n Rf (pc + 1) ls (.int v :: st) I Q) : WP μ n Rf pc ls st I Q := by
  intro G ad A p l e s m args below meth c H locs lsA C hP hD hS hl
  exact lv_iconst C.1 C.2.1 hd hv (K G ad A p l e s m args below meth c H locs lsA C hP hD hS hl)
theorem w_bipush {k : Int} {v : Int32} (hd : decode μ.2.1 pc = .ok (.bipush k, 2)) (hv : (Int8.ofInt k).toInt32 = v) (K : WP μ n Rf (pc + 2) ls (.int v :: st) I Q) : WP μ n Rf pc ls st I Q := by
  intro G ad A p l e s m args below meth c H locs lsA C hP hD hS hl
  exact lv_bipush C.1 C.2.1 hd hv (K G ad A p l e s m args below meth c H locs lsA C hP hD hS hl)
theorem w_sipush {k : Int} {v : Int32} (hd : decode μ.2.1 pc = .ok (.sipush k, 3)) (hv : (Int16.ofInt k).toInt32 = v) (K : WP μ n Rf (pc + 3) ls (.int v :: st) I Q) : WP μ n Rf pc ls st I Q := by
  intro G ad A p l e s m args below meth c H locs lsA C hP hD hS hl
  exact lv_sipush C.1 C.2.1 hd hv (K G ad A p l e s m args below meth c H locs lsA C hP hD hS hl)
theorem w_lconst {k : Fin 2} {v : Int64} (hd : decode μ.2.1 pc = .ok (.lconst k, 1)) (hv : Int64.ofNat (k : Nat) = v) (K : WP μ n Rf (pc + 1) ls (.long v :: st) I Q) : WP μ n Rf pc ls st I Q := by
  intro G ad A p l e s m args below meth c H locs lsA C hP hD hS hl
  exact lv_lconst C.1 C.2.1 hd hv (K G ad A p l e s m args below meth c H locs lsA C hP hD hS hl)
theorem w_ldc {k : Nat} {v : Int32} (hd : decode μ.2.1 pc = .ok (.ldc k, 2)) (hw : Cond.constant μ.1.cls k v ∈ tbl) (K : WP μ n Rf (pc + 2) ls (.int v :: st) I Q) : WP μ n Rf pc ls st I Q := by
  intro G ad A p l e s m args below meth c H locs lsA C hP hD hS hl
  exact lv_ldc C.1 C.2.1 C.2.2.2.2.1 (C.2.2.2.2.2.1 _ (List.mem_cons_of_mem _ hw)) hd (K G ad A p l e s m args below meth c H locs lsA C hP hD hS hl)
theorem w_ldc2 {k : Nat} {v : Int64} (hd : decode μ.2.1 pc = .ok (.ldc2_w k, 3)) (hw : Cond.constantLong μ.1.cls k v ∈ tbl) (K : WP μ n Rf (pc + 3) ls (.long v :: st) I Q) : WP μ n Rf pc ls st I Q := by
  intro G ad A p l e s m args below meth c H locs lsA C hP hD hS hl
  exact lv_ldc2 C.1 C.2.1 C.2.2.2.2.1 (C.2.2.2.2.2.1 _ (List.mem_cons_of_mem _ hw)) hd (K G ad A p l e s m args below meth c H locs lsA C hP hD hS hl)
/-- a word: number j, as the return address 2 j + 1 -/
theorem w_ldcS {k j : Nat} {tx : String} (hd : decode μ.2.1 pc = .ok (.ldc k, 2)) (hw : (μ.1.cls, k, tx, j) ∈ strL) (K : WP μ n Rf (pc + 2) ls (.retAddr (2 * j + 1) :: st) I Q) : WP μ n Rf pc ls st I Q := by
  intro G ad A p l e s m args below meth c H locs lsA C hP hD hS hl
  refine va_ldcS C.1 C.2.1 C.2.2.2.2.1 (C.2.2.2.2.2.2.2.2.2.2.1 _ hw) hd ?_
  have hk := K G ad A p l e s m args below meth c H locs lsA C hP hD hS hl
  have e1 : cvt G ad (.retAddr (2 * j + 1)) = .ref (G.2.2.2.1 j) := by
    show (if 2 * j + 1 = 0 then G.2.2.1 else if (2 * j + 1) % 2 = 1 then Value.ref (G.2.2.2.1 ((2 * j + 1) / 2)) else Value.ref (G.2.2.2.2 ((2 * j + 1) / 2 - 1))) = _
    rw [if_neg (by omega), if_pos (by omega), show (2 * j + 1) / 2 = j by omega]
  rw [List.map_cons, e1] at hk
  exact hk
theorem w_iload_n {k : Fin 4} {i : Nat} {x : Int32} (hd : decode μ.2.1 pc = .ok (.iload_n k, 1)) (hi : (k : Nat) = i) (hx : ls[i]? = some (some (.int x))) (K : WP μ n Rf (pc + 1) ls (.int x :: st) I Q) : WP μ n Rf pc ls st I Q := by
  intro G ad A p l e s m args below meth c H locs lsA C hP hD hS hl
  exact lv_iload_n C.1 C.2.1 hd hi (hl.2.2 _ _ hx) (K G ad A p l e s m args below meth c H locs lsA C hP hD hS hl)
theorem w_iload {i : Nat} {x : Int32} (hd : decode μ.2.1 pc = .ok (.iload i, 2)) (hx : ls[i]? = some (some (.int x))) (K : WP μ n Rf (pc + 2) ls (.int x :: st) I Q) : WP μ n Rf pc ls st I Q := by
  intro G ad A p l e s m args below meth c H locs lsA C hP hD hS hl
  exact lv_iload C.1 C.2.1 hd (hl.2.2 _ _ hx) (K G ad A p l e s m args below meth c H locs lsA C hP hD hS hl)
theorem w_lload_n {k : Fin 4} {i : Nat} {x : Int64} (hd : decode μ.2.1 pc = .ok (.lload_n k, 1)) (hi : (k : Nat) = i) (hx : ls[i]? = some (some (.long x))) (K : WP μ n Rf (pc + 1) ls (.long x :: st) I Q) : WP μ n Rf pc ls st I Q := by
  intro G ad A p l e s m args below meth c H locs lsA C hP hD hS hl
  exact lv_lload_n C.1 C.2.1 hd hi (hl.2.2 _ _ hx) (K G ad A p l e s m args below meth c H locs lsA C hP hD hS hl)
theorem w_lload {i : Nat} {x : Int64} (hd : decode μ.2.1 pc = .ok (.lload i, 2)) (hx : ls[i]? = some (some (.long x))) (K : WP μ n Rf (pc + 2) ls (.long x :: st) I Q) : WP μ n Rf pc ls st I Q := by
  intro G ad A p l e s m args below meth c H locs lsA C hP hD hS hl
  exact lv_lload C.1 C.2.1 hd (hl.2.2 _ _ hx) (K G ad A p l e s m args below meth c H locs lsA C hP hD hS hl)
theorem w_aload_n {k : Fin 4} {i : Nat} {r : Nat} (hd : decode μ.2.1 pc = .ok (.aload_n k, 1)) (hi : (k : Nat) = i) (hx : ls[i]? = some (some (.ref r))) (K : WP μ n Rf (pc + 1) ls (.ref r :: st) I Q) : WP μ n Rf pc ls st I Q := by
  intro G ad A p l e s m args below meth c H locs lsA C hP hD hS hl
  exact lv_aload_n C.1 C.2.1 hd hi (hl.2.2 _ _ hx) (K G ad A p l e s m args below meth c H locs lsA C hP hD hS hl)
theorem w_aload {i : Nat} {r : Nat} (hd : decode μ.2.1 pc = .ok (.aload i, 2)) (hx : ls[i]? = some (some (.ref r))) (K : WP μ n Rf (pc + 2) ls (.ref r :: st) I Q) : WP μ n Rf pc ls st I Q := by
  intro G ad A p l e s m args below meth c H locs lsA C hP hD hS hl
  exact lv_aload C.1 C.2.1 hd (hl.2.2 _ _ hx) (K G ad A p l e s m args below meth c H locs lsA C hP hD hS hl)
theorem cvt_S (G : gG) (ad : Nat → Nat) (j : Nat) : cvt G ad (.retAddr (2 * j + 1)) = .ref (G.2.2.2.1 j) := by
  show (if 2 * j + 1 = 0 then G.2.2.1 else if (2 * j + 1) % 2 = 1 then Value.ref (G.2.2.2.1 ((2 * j + 1) / 2)) else Value.ref (G.2.2.2.2 ((2 * j + 1) / 2 - 1))) = _
  rw [if_neg (by omega), if_pos (by omega), show (2 * j + 1) / 2 = j by omega]
theorem cvt_V (G : gG) (ad : Nat → Nat) (j : Nat) : cvt G ad (.retAddr (2 * j + 2)) = .ref (G.2.2.2.2 j) := by
  show (if 2 * j + 2 = 0 then G.2.2.1 else if (2 * j + 2) % 2 = 1 then Value.ref (G.2.2.2.1 ((2 * j + 2) / 2)) else Value.ref (G.2.2.2.2 ((2 * j + 2) / 2 - 1))) = _
  rw [if_neg (by omega), if_neg (by omega), show (2 * j + 2) / 2 - 1 = j by omega]
theorem w_aload_nS {k : Fin 4} {i j : Nat} (hd : decode μ.2.1 pc = .ok (.aload_n k, 1)) (hi : (k : Nat) = i) (hx : ls[i]? = some (some (.retAddr (2 * j + 1)))) (K : WP μ n Rf (pc + 1) ls (.retAddr (2 * j + 1) :: st) I Q) : WP μ n Rf pc ls st I Q := by
  intro G ad A p l e s m args below meth c H locs lsA C hP hD hS hl
  have hk := K G ad A p l e s m args below meth c H locs lsA C hP hD hS hl
  have h := hl.2.2 _ _ hx
  rw [cvt_S] at h
  rw [List.map_cons, cvt_S] at hk
  exact lv_aload_n C.1 C.2.1 hd hi h hk
theorem w_aload_nV {k : Fin 4} {i j : Nat} (hd : decode μ.2.1 pc = .ok (.aload_n k, 1)) (hi : (k : Nat) = i) (hx : ls[i]? = some (some (.retAddr (2 * j + 2)))) (K : WP μ n Rf (pc + 1) ls (.retAddr (2 * j + 2) :: st) I Q) : WP μ n Rf pc ls st I Q := by
  intro G ad A p l e s m args below meth c H locs lsA C hP hD hS hl
  have hk := K G ad A p l e s m args below meth c H locs lsA C hP hD hS hl
  have h := hl.2.2 _ _ hx
  rw [cvt_V] at h
  rw [List.map_cons, cvt_V] at hk
  exact lv_aload_n C.1 C.2.1 hd hi h hk
theorem w_istore_n {k : Fin 4} {i : Nat} {x : Int32} {ls' : List (Option Value)} (hd : decode μ.2.1 pc = .ok (.istore_n k, 1)) (hi : (k : Nat) = i) (hn : i < μ.2.2.1) (hc : c1 ls = true) (hl' : ls.set i (some (.int x)) = ls') (K : WP μ n Rf (pc + 1) ls' st I Q) : WP μ n Rf pc ls (.int x :: st) I Q := by
  intro G ad A p l e s m args below meth c H locs lsA C hP hD hS hl
  subst hl'
  exact lv_istore_n C.1 C.2.1 hd hi (lvs_has hl) hn rfl (fun lsB hB => K G ad A p l e s m args below meth c H locs lsB C hP hD hS (lvs_set (v := .int x) (Sx_fm C.2.2.2.2.2.2.2.2.2) hc hB))
theorem w_istore {i : Nat} {x : Int32} {ls' : List (Option Value)} (hd : decode μ.2.1 pc = .ok (.istore i, 2)) (hn : i < μ.2.2.1) (hc : c1 ls = true) (hl' : ls.set i (some (.int x)) = ls') (K : WP μ n Rf (pc + 2) ls' st I Q) : WP μ n Rf pc ls (.int x :: st) I Q := by
  intro G ad A p l e s m args below meth c H locs lsA C hP hD hS hl
  subst hl'
  exact lv_istore C.1 C.2.1 hd (lvs_has hl) hn rfl (fun lsB hB => K G ad A p l e s m args below meth c H locs lsB C hP hD hS (lvs_set (v := .int x) (Sx_fm C.2.2.2.2.2.2.2.2.2) hc hB))
theorem w_astore_n {k : Fin 4} {i : Nat} {r : Nat} {ls' : List (Option Value)} (hd : decode μ.2.1 pc = .ok (.astore_n k, 1)) (hi : (k : Nat) = i) (hn : i < μ.2.2.1) (hc : c1 ls = true) (hl' : ls.set i (some (.ref r)) = ls') (K : WP μ n Rf (pc + 1) ls' st I Q) : WP μ n Rf pc ls (.ref r :: st) I Q := by
  intro G ad A p l e s m args below meth c H locs lsA C hP hD hS hl
  subst hl'
  exact lv_astore_n C.1 C.2.1 hd hi (lvs_has hl) hn rfl (fun lsB hB => K G ad A p l e s m args below meth c H locs lsB C hP hD hS (lvs_set (v := .ref r) (Sx_fm C.2.2.2.2.2.2.2.2.2) hc hB))
theorem w_astore {i : Nat} {r : Nat} {ls' : List (Option Value)} (hd : decode μ.2.1 pc = .ok (.astore i, 2)) (hn : i < μ.2.2.1) (hc : c1 ls = true) (hl' : ls.set i (some (.ref r)) = ls') (K : WP μ n Rf (pc + 2) ls' st I Q) : WP μ n Rf pc ls (.ref r :: st) I Q := by
  intro G ad A p l e s m args below meth c H locs lsA C hP hD hS hl
  subst hl'
  exact lv_astore C.1 C.2.1 hd (lvs_has hl) hn rfl (fun lsB hB => K G ad A p l e s m args below meth c H locs lsB C hP hD hS (lvs_set (v := .ref r) (Sx_fm C.2.2.2.2.2.2.2.2.2) hc hB))
theorem w_iinc {i : Nat} {k : Int} {x v : Int32} {ls' : List (Option Value)} (hd : decode μ.2.1 pc = .ok (.iinc i k, 3)) (hx : ls[i]? = some (some (.int x))) (hv : x + Int32.ofInt k = v) (hn : i < μ.2.2.1) (hc : c1 ls = true) (hl' : ls.set i (some (.int v)) = ls') (K : WP μ n Rf (pc + 3) ls' st I Q) : WP μ n Rf pc ls st I Q := by
  intro G ad A p l e s m args below meth c H locs lsA C hP hD hS hl
  subst hl'
  obtain ⟨q, hq⟩ := List.getElem?_of_mem (asc_in (G := G) (ad := ad) hx)
  exact lv_iinc C.1 C.2.1 hd (lvs_has hl) hq hv hn rfl (fun lsB hB => K G ad A p l e s m args below meth c H locs lsB C hP hD hS (lvs_set (v := .int v) (Sx_fm C.2.2.2.2.2.2.2.2.2) hc hB))
theorem w_iadd {x y : Int32} (hd : decode μ.2.1 pc = .ok (.iadd, 1)) (K : WP μ n Rf (pc + 1) ls (.int (x + y) :: st) I Q) : WP μ n Rf pc ls (.int y :: .int x :: st) I Q := by
  intro G ad A p l e s m args below meth c H locs lsA C hP hD hS hl
  exact lv_iadd C.1 C.2.1 hd (K G ad A p l e s m args below meth c H locs lsA C hP hD hS hl)
theorem w_isub {x y : Int32} (hd : decode μ.2.1 pc = .ok (.isub, 1)) (K : WP μ n Rf (pc + 1) ls (.int (x - y) :: st) I Q) : WP μ n Rf pc ls (.int y :: .int x :: st) I Q := by
  intro G ad A p l e s m args below meth c H locs lsA C hP hD hS hl
  exact lv_isub C.1 C.2.1 hd (K G ad A p l e s m args below meth c H locs lsA C hP hD hS hl)
theorem w_imul {x y : Int32} (hd : decode μ.2.1 pc = .ok (.imul, 1)) (K : WP μ n Rf (pc + 1) ls (.int (x * y) :: st) I Q) : WP μ n Rf pc ls (.int y :: .int x :: st) I Q := by
  intro G ad A p l e s m args below meth c H locs lsA C hP hD hS hl
  exact lv_imul C.1 C.2.1 hd (K G ad A p l e s m args below meth c H locs lsA C hP hD hS hl)
theorem w_iand {x y : Int32} (hd : decode μ.2.1 pc = .ok (.iand, 1)) (K : WP μ n Rf (pc + 1) ls (.int (x &&& y) :: st) I Q) : WP μ n Rf pc ls (.int y :: .int x :: st) I Q := by
  intro G ad A p l e s m args below meth c H locs lsA C hP hD hS hl
  exact lv_iand C.1 C.2.1 hd (K G ad A p l e s m args below meth c H locs lsA C hP hD hS hl)
theorem w_ior {x y : Int32} (hd : decode μ.2.1 pc = .ok (.ior, 1)) (K : WP μ n Rf (pc + 1) ls (.int (x ||| y) :: st) I Q) : WP μ n Rf pc ls (.int y :: .int x :: st) I Q := by
  intro G ad A p l e s m args below meth c H locs lsA C hP hD hS hl
  exact lv_ior C.1 C.2.1 hd (K G ad A p l e s m args below meth c H locs lsA C hP hD hS hl)
theorem w_ixor {x y : Int32} (hd : decode μ.2.1 pc = .ok (.ixor, 1)) (K : WP μ n Rf (pc + 1) ls (.int (x ^^^ y) :: st) I Q) : WP μ n Rf pc ls (.int y :: .int x :: st) I Q := by
  intro G ad A p l e s m args below meth c H locs lsA C hP hD hS hl
  exact lv_ixor C.1 C.2.1 hd (K G ad A p l e s m args below meth c H locs lsA C hP hD hS hl)
theorem w_ishl {x y : Int32} (hd : decode μ.2.1 pc = .ok (.ishl, 1)) (K : WP μ n Rf (pc + 1) ls (.int (x <<< (y &&& 31)) :: st) I Q) : WP μ n Rf pc ls (.int y :: .int x :: st) I Q := by
  intro G ad A p l e s m args below meth c H locs lsA C hP hD hS hl
  exact lv_ishl C.1 C.2.1 hd (K G ad A p l e s m args below meth c H locs lsA C hP hD hS hl)
theorem w_ishr {x y : Int32} (hd : decode μ.2.1 pc = .ok (.ishr, 1)) (K : WP μ n Rf (pc + 1) ls (.int (x >>> (y &&& 31)) :: st) I Q) : WP μ n Rf pc ls (.int y :: .int x :: st) I Q := by
  intro G ad A p l e s m args below meth c H locs lsA C hP hD hS hl
  exact lv_ishr C.1 C.2.1 hd (K G ad A p l e s m args below meth c H locs lsA C hP hD hS hl)
theorem w_idiv {x y : Int32} (hd : decode μ.2.1 pc = .ok (.idiv, 1)) (hy : ¬ y = 0) (K : WP μ n Rf (pc + 1) ls (.int (x / y) :: st) I Q) : WP μ n Rf pc ls (.int y :: .int x :: st) I Q := by
  intro G ad A p l e s m args below meth c H locs lsA C hP hD hS hl
  exact lv_idiv C.1 C.2.1 hd hy (K G ad A p l e s m args below meth c H locs lsA C hP hD hS hl)
theorem w_irem {x y : Int32} (hd : decode μ.2.1 pc = .ok (.irem, 1)) (hy : ¬ y = 0) (K : WP μ n Rf (pc + 1) ls (.int (x - x / y * y) :: st) I Q) : WP μ n Rf pc ls (.int y :: .int x :: st) I Q := by
  intro G ad A p l e s m args below meth c H locs lsA C hP hD hS hl
  exact lv_irem C.1 C.2.1 hd hy (K G ad A p l e s m args below meth c H locs lsA C hP hD hS hl)
theorem w_i2l {x : Int32} (hd : decode μ.2.1 pc = .ok (.i2l, 1)) (K : WP μ n Rf (pc + 1) ls (.long x.toInt64 :: st) I Q) : WP μ n Rf pc ls (.int x :: st) I Q := by
  intro G ad A p l e s m args below meth c H locs lsA C hP hD hS hl
  exact lv_i2l C.1 C.2.1 hd rfl (K G ad A p l e s m args below meth c H locs lsA C hP hD hS hl)
theorem w_i2b {x : Int32} (hd : decode μ.2.1 pc = .ok (.i2b, 1)) (K : WP μ n Rf (pc + 1) ls (.int x.toInt8.toInt32 :: st) I Q) : WP μ n Rf pc ls (.int x :: st) I Q := by
  intro G ad A p l e s m args below meth c H locs lsA C hP hD hS hl
  exact lv_i2b C.1 C.2.1 hd rfl (K G ad A p l e s m args below meth c H locs lsA C hP hD hS hl)
theorem w_i2c {x : Int32} (hd : decode μ.2.1 pc = .ok (.i2c, 1)) (K : WP μ n Rf (pc + 1) ls (.int (x.toUInt32 % 65536).toInt32 :: st) I Q) : WP μ n Rf pc ls (.int x :: st) I Q := by
  intro G ad A p l e s m args below meth c H locs lsA C hP hD hS hl
  exact lv_i2c C.1 C.2.1 hd rfl (K G ad A p l e s m args below meth c H locs lsA C hP hD hS hl)
theorem w_lcmp {x y : Int64} (hd : decode μ.2.1 pc = .ok (.lcmp, 1)) (K : WP μ n Rf (pc + 1) ls (.int (lg_cmp x y) :: st) I Q) : WP μ n Rf pc ls (.long y :: .long x :: st) I Q := by
  intro G ad A p l e s m args below meth c H locs lsA C hP hD hS hl
  exact W.lcmp C.1 C.2.1 hd (K G ad A p l e s m args below meth c H locs lsA C hP hD hS hl)
theorem w_dup {v : Value} (hd : decode μ.2.1 pc = .ok (.dup, 1)) (hv : v.category = 1) (K : WP μ n Rf (pc + 1) ls (v :: v :: st) I Q) : WP μ n Rf pc ls (v :: st) I Q := by
  intro G ad A p l e s m args below meth c H locs lsA C hP hD hS hl
  exact lv_dup C.1 C.2.1 hd (by rw [cvt_cat (Sx_fm C.2.2.2.2.2.2.2.2.2)]; exact hv) (K G ad A p l e s m args below meth c H locs lsA C hP hD hS hl)
theorem w_dup2 {v w : Value} (hd : decode μ.2.1 pc = .ok (.dup2, 1)) (hv : v.category = 1) (hw : w.category = 1) (K : WP μ n Rf (pc + 1) ls (v :: w :: v :: w :: st) I Q) : WP μ n Rf pc ls (v :: w :: st) I Q := by
  intro G ad A p l e s m args below meth c H locs lsA C hP hD hS hl
  exact lv_dup2_11 C.1 C.2.1 hd (by rw [cvt_cat (Sx_fm C.2.2.2.2.2.2.2.2.2)]; exact hv) (by rw [cvt_cat (Sx_fm C.2.2.2.2.2.2.2.2.2)]; exact hw) (K G ad A p l e s m args below meth c H locs lsA C hP hD hS hl)
theorem w_pop {v : Value} (hd : decode μ.2.1 pc = .ok (.pop, 1)) (hv : v.category = 1) (K : WP μ n Rf (pc + 1) ls st I Q) : WP μ n Rf pc ls (v :: st) I Q := by
  intro G ad A p l e s m args below meth c H locs lsA C hP hD hS hl
  exact lv_pop C.1 C.2.1 hd (by rw [cvt_cat (Sx_fm C.2.2.2.2.2.2.2.2.2)]; exact hv) (K G ad A p l e s m args below meth c H locs lsA C hP hD hS hl)
theorem w_goto {off : Int} {t : Nat} (hd : decode μ.2.1 pc = .ok (.goto off, 3)) (ht : (pc : Int) + off = (t : Int)) (K : WP μ n Rf t ls st I Q) : WP μ n Rf pc ls st I Q := by
  intro G ad A p l e s m args below meth c H locs lsA C hP hD hS hl
  exact lv_goto C.1 C.2.1 hd ht (K G ad A p l e s m args below meth c H locs lsA C hP hD hS hl)
theorem w_icmp_eq {x y : Int32} {off : Int} {t : Nat} (hd : decode μ.2.1 pc = .ok (.if_icmp .eq off, 3)) (ht : (pc : Int) + off = (t : Int)) (K1 : x = y → WP μ n Rf t ls st I Q) (K2 : ¬ x = y → WP μ n Rf (pc + 3) ls st I Q) : WP μ n Rf pc ls (.int y :: .int x :: st) I Q := by
  intro G ad A p l e s m args below meth c H locs lsA C hP hD hS hl
  exact lv_icmp_eq C.1 C.2.1 hd ht (fun h => K1 h G ad A p l e s m args below meth c H locs lsA C hP hD hS hl) (fun h => K2 h G ad A p l e s m args below meth c H locs lsA C hP hD hS hl)
theorem w_icmp_ne {x y : Int32} {off : Int} {t : Nat} (hd : decode μ.2.1 pc = .ok (.if_icmp .ne off, 3)) (ht : (pc : Int) + off = (t : Int)) (K1 : ¬ x = y → WP μ n Rf t ls st I Q) (K2 : x = y → WP μ n Rf (pc + 3) ls st I Q) : WP μ n Rf pc ls (.int y :: .int x :: st) I Q := by
  intro G ad A p l e s m args below meth c H locs lsA C hP hD hS hl
  exact lv_icmp_ne C.1 C.2.1 hd ht (fun h => K1 h G ad A p l e s m args below meth c H locs lsA C hP hD hS hl) (fun h => K2 h G ad A p l e s m args below meth c H locs lsA C hP hD hS hl)
theorem w_icmp_lt {x y : Int32} {off : Int} {t : Nat} (hd : decode μ.2.1 pc = .ok (.if_icmp .lt off, 3)) (ht : (pc : Int) + off = (t : Int)) (K1 : x < y → WP μ n Rf t ls st I Q) (K2 : ¬ x < y → WP μ n Rf (pc + 3) ls st I Q) : WP μ n Rf pc ls (.int y :: .int x :: st) I Q := by
  intro G ad A p l e s m args below meth c H locs lsA C hP hD hS hl
  exact lv_icmp_lt C.1 C.2.1 hd ht (fun h => K1 h G ad A p l e s m args below meth c H locs lsA C hP hD hS hl) (fun h => K2 h G ad A p l e s m args below meth c H locs lsA C hP hD hS hl)
theorem w_icmp_ge {x y : Int32} {off : Int} {t : Nat} (hd : decode μ.2.1 pc = .ok (.if_icmp .ge off, 3)) (ht : (pc : Int) + off = (t : Int)) (K1 : y ≤ x → WP μ n Rf t ls st I Q) (K2 : ¬ y ≤ x → WP μ n Rf (pc + 3) ls st I Q) : WP μ n Rf pc ls (.int y :: .int x :: st) I Q := by
  intro G ad A p l e s m args below meth c H locs lsA C hP hD hS hl
  exact lv_icmp_ge C.1 C.2.1 hd ht (fun h => K1 h G ad A p l e s m args below meth c H locs lsA C hP hD hS hl) (fun h => K2 h G ad A p l e s m args below meth c H locs lsA C hP hD hS hl)
theorem w_icmp_gt {x y : Int32} {off : Int} {t : Nat} (hd : decode μ.2.1 pc = .ok (.if_icmp .gt off, 3)) (ht : (pc : Int) + off = (t : Int)) (K1 : y < x → WP μ n Rf t ls st I Q) (K2 : ¬ y < x → WP μ n Rf (pc + 3) ls st I Q) : WP μ n Rf pc ls (.int y :: .int x :: st) I Q := by
  intro G ad A p l e s m args below meth c H locs lsA C hP hD hS hl
  exact lv_icmp_gt C.1 C.2.1 hd ht (fun h => K1 h G ad A p l e s m args below meth c H locs lsA C hP hD hS hl) (fun h => K2 h G ad A p l e s m args below meth c H locs lsA C hP hD hS hl)
theorem w_icmp_le {x y : Int32} {off : Int} {t : Nat} (hd : decode μ.2.1 pc = .ok (.if_icmp .le off, 3)) (ht : (pc : Int) + off = (t : Int)) (K1 : x ≤ y → WP μ n Rf t ls st I Q) (K2 : ¬ x ≤ y → WP μ n Rf (pc + 3) ls st I Q) : WP μ n Rf pc ls (.int y :: .int x :: st) I Q := by
  intro G ad A p l e s m args below meth c H locs lsA C hP hD hS hl
  exact lv_icmp_le C.1 C.2.1 hd ht (fun h => K1 h G ad A p l e s m args below meth c H locs lsA C hP hD hS hl) (fun h => K2 h G ad A p l e s m args below meth c H locs lsA C hP hD hS hl)
theorem w_if_eq {x : Int32} {off : Int} {t : Nat} (hd : decode μ.2.1 pc = .ok (.ifCond .eq off, 3)) (ht : (pc : Int) + off = (t : Int)) (K1 : x = 0 → WP μ n Rf t ls st I Q) (K2 : ¬ x = 0 → WP μ n Rf (pc + 3) ls st I Q) : WP μ n Rf pc ls (.int x :: st) I Q := by
  intro G ad A p l e s m args below meth c H locs lsA C hP hD hS hl
  exact lv_if_eq C.1 C.2.1 hd ht (fun h => K1 h G ad A p l e s m args below meth c H locs lsA C hP hD hS hl) (fun h => K2 h G ad A p l e s m args below meth c H locs lsA C hP hD hS hl)
theorem w_if_ne {x : Int32} {off : Int} {t : Nat} (hd : decode μ.2.1 pc = .ok (.ifCond .ne off, 3)) (ht : (pc : Int) + off = (t : Int)) (K1 : ¬ x = 0 → WP μ n Rf t ls st I Q) (K2 : x = 0 → WP μ n Rf (pc + 3) ls st I Q) : WP μ n Rf pc ls (.int x :: st) I Q := by
  intro G ad A p l e s m args below meth c H locs lsA C hP hD hS hl
  exact lv_if_ne C.1 C.2.1 hd ht (fun h => K1 h G ad A p l e s m args below meth c H locs lsA C hP hD hS hl) (fun h => K2 h G ad A p l e s m args below meth c H locs lsA C hP hD hS hl)
theorem w_if_lt {x : Int32} {off : Int} {t : Nat} (hd : decode μ.2.1 pc = .ok (.ifCond .lt off, 3)) (ht : (pc : Int) + off = (t : Int)) (K1 : x < 0 → WP μ n Rf t ls st I Q) (K2 : ¬ x < 0 → WP μ n Rf (pc + 3) ls st I Q) : WP μ n Rf pc ls (.int x :: st) I Q := by
  intro G ad A p l e s m args below meth c H locs lsA C hP hD hS hl
  exact lv_if_lt C.1 C.2.1 hd ht (fun h => K1 h G ad A p l e s m args below meth c H locs lsA C hP hD hS hl) (fun h => K2 h G ad A p l e s m args below meth c H locs lsA C hP hD hS hl)
theorem w_if_ge {x : Int32} {off : Int} {t : Nat} (hd : decode μ.2.1 pc = .ok (.ifCond .ge off, 3)) (ht : (pc : Int) + off = (t : Int)) (K1 : 0 ≤ x → WP μ n Rf t ls st I Q) (K2 : ¬ 0 ≤ x → WP μ n Rf (pc + 3) ls st I Q) : WP μ n Rf pc ls (.int x :: st) I Q := by
  intro G ad A p l e s m args below meth c H locs lsA C hP hD hS hl
  exact lv_if_ge C.1 C.2.1 hd ht (fun h => K1 h G ad A p l e s m args below meth c H locs lsA C hP hD hS hl) (fun h => K2 h G ad A p l e s m args below meth c H locs lsA C hP hD hS hl)
theorem w_if_gt {x : Int32} {off : Int} {t : Nat} (hd : decode μ.2.1 pc = .ok (.ifCond .gt off, 3)) (ht : (pc : Int) + off = (t : Int)) (K1 : 0 < x → WP μ n Rf t ls st I Q) (K2 : ¬ 0 < x → WP μ n Rf (pc + 3) ls st I Q) : WP μ n Rf pc ls (.int x :: st) I Q := by
  intro G ad A p l e s m args below meth c H locs lsA C hP hD hS hl
  exact lv_if_gt C.1 C.2.1 hd ht (fun h => K1 h G ad A p l e s m args below meth c H locs lsA C hP hD hS hl) (fun h => K2 h G ad A p l e s m args below meth c H locs lsA C hP hD hS hl)
theorem w_if_le {x : Int32} {off : Int} {t : Nat} (hd : decode μ.2.1 pc = .ok (.ifCond .le off, 3)) (ht : (pc : Int) + off = (t : Int)) (K1 : x ≤ 0 → WP μ n Rf t ls st I Q) (K2 : ¬ x ≤ 0 → WP μ n Rf (pc + 3) ls st I Q) : WP μ n Rf pc ls (.int x :: st) I Q := by
  intro G ad A p l e s m args below meth c H locs lsA C hP hD hS hl
  exact lv_if_le C.1 C.2.1 hd ht (fun h => K1 h G ad A p l e s m args below meth c H locs lsA C hP hD hS hl) (fun h => K2 h G ad A p l e s m args below meth c H locs lsA C hP hD hS hl)
end WR
end
section
/-! fields, arrays, returns, calls, over WP -/
section WH
variable {μ : mD} {n : Nat} {Rf : MR} {pc : Nat} {ls : List (Option Value)} {st : List Value} {I : MI} {Q : Option Value → MI → Prop}
theorem Cx_w {G : gG} {A : Nat → Prop} {p : Program} {s : State} {m : MethodId} {args : Array Value} {meth : Method} {c : Code} (C : Cx G μ A p s m args meth c) {w : Cond} (h : w ∈ tbl) : w.before args s = true := C.2.2.2.2.2.1 w (List.mem_cons_of_mem _ h)
theorem fv_at {ad : Nat → Nat} {ci N k : Nat} {r : Nat → Option Nat} {f : Nat → Int32} (h : k < N) : ((List.range N).map (fv ad ci r f))[k]? = some (fv ad ci r f k) := by simp [h]
theorem w_getI {idx c0 ci k N : Nat} {Cn : String} {T : u_T} {ty : Nat → FieldType} (hd : decode μ.2.1 pc = .ok (.getfield idx, 3)) (hw : Cond.fieldLink μ.1.cls idx (T k).1 (T k).2.1 (T k).2.2.1 ∈ tbl) (ho : okC ci Cn T N ty) (h0 : kd c0 = (0, ci)) (hlt : c0 < n) (hk : k < N) (hf : fR ci k = false) (K : WP μ n Rf (pc + 3) ls (.int (I c0 k) :: st) I Q) : WP μ n Rf pc ls (.ref c0 :: st) I Q := by
  intro G ad A p l e s m args below meth c H locs lsA C hP hD hS hl
  refine va_get (D := G.1) (cl := vwCl) (ws := wl G ad n Rf I) (T := T) C.1 C.2.1 (C.2.2.2.2.2.1) (fun w h => List.mem_cons_of_mem _ (ho.2.1 w h)) C.2.2.2.2.1 C.2.2.2.2.2.2.2.1 hP c0 (wl_of h0 hlt) ho.1 k hk (Cx_w C hw) (fun _ h => h) (v := .int (I c0 k)) ?_ hd (K G ad A p l e s m args below meth c H locs lsA C hP hD hS hl)
  rw [ho.2.2.1, fv_at hk]
  simp [fv, hf]
theorem w_getR {idx c0 ci k N r : Nat} {Cn : String} {T : u_T} {ty : Nat → FieldType} (hd : decode μ.2.1 pc = .ok (.getfield idx, 3)) (hw : Cond.fieldLink μ.1.cls idx (T k).1 (T k).2.1 (T k).2.2.1 ∈ tbl) (ho : okC ci Cn T N ty) (h0 : kd c0 = (0, ci)) (hlt : c0 < n) (hk : k < N) (hf : fR ci k = true) (hr : Rf c0 k = some r) (K : WP μ n Rf (pc + 3) ls (.ref r :: st) I Q) : WP μ n Rf pc ls (.ref c0 :: st) I Q := by
  intro G ad A p l e s m args below meth c H locs lsA C hP hD hS hl
  refine va_get (D := G.1) (cl := vwCl) (ws := wl G ad n Rf I) (T := T) C.1 C.2.1 (C.2.2.2.2.2.1) (fun w h => List.mem_cons_of_mem _ (ho.2.1 w h)) C.2.2.2.2.1 C.2.2.2.2.2.2.2.1 hP c0 (wl_of h0 hlt) ho.1 k hk (Cx_w C hw) (fun _ h => h) (v := .ref (ad r)) ?_ hd (K G ad A p l e s m args below meth c H locs lsA C hP hD hS hl)
  rw [ho.2.2.1, fv_at hk]
  simp [fv, hf, hr, va_rf]
theorem w_putV {idx c0 ci k N : Nat} {Cn : String} {T : u_T} {ty : Nat → FieldType} {x : Int32} (hd : decode μ.2.1 pc = .ok (.putfield idx, 3)) (hw : Cond.fieldLink μ.1.cls idx (T k).1 (T k).2.1 (T k).2.2.1 ∈ tbl) (ho : okC ci Cn T N ty) (h0 : kd c0 = (0, ci)) (hlt : c0 < n) (hk : k < N) (hf : fR ci k = false) (hfin : (T k).2.2.2 = false) (hnr : narrow (ty k) (.int x) = .int x) (hfit : fits (ty k) (.int x) = true) (K : WP μ n Rf (pc + 3) ls st (up2 I c0 k x) Q) : WP μ n Rf pc ls (.int x :: .ref c0 :: st) I Q := by
  intro G ad A p l e s m args below meth c H locs lsA C hP hD hS hl
  refine va_put (D := G.1) (cl := vwCl) (ws := wl G ad n Rf I) (T := T) C.1 C.2.1 (C.2.2.2.2.2.1) (fun w h => List.mem_cons_of_mem _ (ho.2.1 w h)) ty ho.2.2.2.1 ho.2.2.2.2 C.2.2.2.2.1 C.2.2.2.2.2.2.2.1 hP hD hS c0 (wl_of h0 hlt) ho.1 k hk (Cx_w C hw) (fun _ h => h) hfin (ho.2.2.2.1 k hk) (v := .int x) hnr hfit (by simp [ho.2.2.1, hk]) hd ?_
  intro H1 locs1 hP1 hD1 hS1
  rw [fv_set hf] at hP1 hD1
  have e1 : (wl G ad n Rf I).set c0 (ad c0, ce G ad (0, ci) (Rf c0) (upd (I c0) k x)) = wl G ad n Rf (up2 I c0 k x) := wl_set h0 _
  exact K G ad A p l e s m args below meth c H1 locs1 lsA C (e1 ▸ hP1) (e1 ▸ hD1) hS1 hl
theorem w_putI {idx c0 ci k N : Nat} {Cn : String} {T : u_T} {ty : Nat → FieldType} {x : Int32} (hd : decode μ.2.1 pc = .ok (.putfield idx, 3)) (hw : Cond.fieldLink μ.1.cls idx (T k).1 (T k).2.1 (T k).2.2.1 ∈ tbl) (ho : okC ci Cn T N ty) (h0 : kd c0 = (0, ci)) (hlt : c0 < n) (hk : k < N) (hf : fR ci k = false) (hfin : (T k).2.2.2 = false) (hty : ty k = .int) (K : WP μ n Rf (pc + 3) ls st (up2 I c0 k x) Q) : WP μ n Rf pc ls (.int x :: .ref c0 :: st) I Q :=
  w_putV hd hw ho h0 hlt hk hf hfin (by rw [hty]; rfl) (by rw [hty]; rfl) K
theorem w_putZ {idx c0 ci k N : Nat} {Cn : String} {T : u_T} {ty : Nat → FieldType} {x : Int32} (hd : decode μ.2.1 pc = .ok (.putfield idx, 3)) (hw : Cond.fieldLink μ.1.cls idx (T k).1 (T k).2.1 (T k).2.2.1 ∈ tbl) (ho : okC ci Cn T N ty) (h0 : kd c0 = (0, ci)) (hlt : c0 < n) (hk : k < N) (hf : fR ci k = false) (hfin : (T k).2.2.2 = false) (hty : ty k = .boolean) (hx : x = 0 ∨ x = 1) (K : WP μ n Rf (pc + 3) ls st (up2 I c0 k x) Q) : WP μ n Rf pc ls (.int x :: .ref c0 :: st) I Q :=
  w_putV hd hw ho h0 hlt hk hf hfin (by rw [hty]; rcases hx with rfl | rfl <;> rfl) (by rw [hty]; rcases hx with rfl | rfl <;> rfl) K
theorem w_iald {c0 N : Nat} {i : Int32} (hd : decode μ.2.1 pc = .ok (.iaload, 1)) (h0 : kd c0 = (1, N)) (hlt : c0 < n) (hi : vp_in i N) (K : WP μ n Rf (pc + 1) ls (.int (I c0 i.toNatClampNeg) :: st) I Q) : WP μ n Rf pc ls (.int i :: .ref c0 :: st) I Q := by
  intro G ad A p l e s m args below meth c H locs lsA C hP hD hS hl
  exact va_iald (D := G.1) (cl := vwCl) (tys := tysG G) (ws := wl G ad n Rf I) (f := I c0) C.1 C.2.1 C.2.2.2.2.2.2.2.1 hP c0 0 (wl_of h0 hlt) rfl hi hd (K G ad A p l e s m args below meth c H locs lsA C hP hD hS hl)
theorem w_bald {c0 N : Nat} {i : Int32} (hd : decode μ.2.1 pc = .ok (.baload, 1)) (h0 : kd c0 = (2, N)) (hlt : c0 < n) (hi : vp_in i N) (K : WP μ n Rf (pc + 1) ls (.int (I c0 i.toNatClampNeg) :: st) I Q) : WP μ n Rf pc ls (.int i :: .ref c0 :: st) I Q := by
  intro G ad A p l e s m args below meth c H locs lsA C hP hD hS hl
  exact va_bald (D := G.1) (cl := vwCl) (tys := tysG G) (ws := wl G ad n Rf I) (f := I c0) C.1 C.2.1 C.2.2.2.2.2.2.2.1 hP c0 1 (wl_of h0 hlt) rfl hi hd (K G ad A p l e s m args below meth c H locs lsA C hP hD hS hl)
theorem w_zald {c0 N : Nat} {i : Int32} (hd : decode μ.2.1 pc = .ok (.baload, 1)) (h0 : kd c0 = (3, N)) (hlt : c0 < n) (hi : vp_in i N) (K : WP μ n Rf (pc + 1) ls (.int (I c0 i.toNatClampNeg) :: st) I Q) : WP μ n Rf pc ls (.int i :: .ref c0 :: st) I Q := by
  intro G ad A p l e s m args below meth c H locs lsA C hP hD hS hl
  exact va_zald (D := G.1) (cl := vwCl) (tys := tysG G) (ws := wl G ad n Rf I) (f := I c0) C.1 C.2.1 C.2.2.2.2.2.2.2.1 hP c0 2 (wl_of h0 hlt) rfl hi hd (K G ad A p l e s m args below meth c H locs lsA C hP hD hS hl)
theorem w_aald {c0 N r : Nat} {i : Int32} (hd : decode μ.2.1 pc = .ok (.aaload, 1)) (h0 : kd c0 = (4, N)) (hlt : c0 < n) (hi : vp_in i N) (hr : Rf c0 i.toNatClampNeg = some r) (K : WP μ n Rf (pc + 1) ls (.ref r :: st) I Q) : WP μ n Rf pc ls (.int i :: .ref c0 :: st) I Q := by
  intro G ad A p l e s m args below meth c H locs lsA C hP hD hS hl
  have hk := K G ad A p l e s m args below meth c H locs lsA C hP hD hS hl
  refine va_aldq (D := G.1) (cl := vwCl) (tys := tysG G) (ws := wl G ad n Rf I) (f := fun k => (Rf c0 k).map ad) C.1 C.2.1 C.2.2.2.2.2.2.2.1 hP c0 3 (wl_of h0 hlt) rfl hi hd ?_
  simp only [hr, Option.map_some, va_rf]
  exact hk
theorem w_iast {c0 N : Nat} {i x : Int32} (hd : decode μ.2.1 pc = .ok (.iastore, 1)) (h0 : kd c0 = (1, N)) (hlt : c0 < n) (hi : vp_in i N) (K : WP μ n Rf (pc + 1) ls st (up2 I c0 i.toNatClampNeg x) Q) : WP μ n Rf pc ls (.int x :: .int i :: .ref c0 :: st) I Q := by
  intro G ad A p l e s m args below meth c H locs lsA C hP hD hS hl
  refine va_iast (D := G.1) (cl := vwCl) (tys := tysG G) (ws := wl G ad n Rf I) (f := I c0) C.1 C.2.1 C.2.2.2.2.2.2.2.1 hP hD hS c0 0 (wl_of h0 hlt) rfl hi hd ?_
  intro H1 locs1 hP1 hD1 hS1
  have e1 : (wl G ad n Rf I).set c0 (ad c0, ce G ad (1, N) (Rf c0) (upd (I c0) i.toNatClampNeg x)) = wl G ad n Rf (up2 I c0 i.toNatClampNeg x) := wl_set h0 _
  exact K G ad A p l e s m args below meth c H1 locs1 lsA C (e1 ▸ hP1) (e1 ▸ hD1) hS1 hl
theorem w_bast {c0 N : Nat} {i x : Int32} (hd : decode μ.2.1 pc = .ok (.bastore, 1)) (h0 : kd c0 = (2, N)) (hlt : c0 < n) (hi : vp_in i N) (K : WP μ n Rf (pc + 1) ls st (up2 I c0 i.toNatClampNeg (vp_nar .byte x)) Q) : WP μ n Rf pc ls (.int x :: .int i :: .ref c0 :: st) I Q := by
  intro G ad A p l e s m args below meth c H locs lsA C hP hD hS hl
  refine va_bast (D := G.1) (cl := vwCl) (tys := tysG G) (ws := wl G ad n Rf I) (f := I c0) C.1 C.2.1 C.2.2.2.2.2.2.2.1 hP hD hS c0 1 (wl_of h0 hlt) rfl hi hd ?_
  intro H1 locs1 hP1 hD1 hS1
  have e1 : (wl G ad n Rf I).set c0 (ad c0, ce G ad (2, N) (Rf c0) (upd (I c0) i.toNatClampNeg (vp_nar .byte x))) = wl G ad n Rf (up2 I c0 i.toNatClampNeg (vp_nar .byte x)) := wl_set h0 _
  exact K G ad A p l e s m args below meth c H1 locs1 lsA C (e1 ▸ hP1) (e1 ▸ hD1) hS1 hl
theorem w_zast {c0 N : Nat} {i x : Int32} (hd : decode μ.2.1 pc = .ok (.bastore, 1)) (h0 : kd c0 = (3, N)) (hlt : c0 < n) (hi : vp_in i N) (K : WP μ n Rf (pc + 1) ls st (up2 I c0 i.toNatClampNeg (vp_nar .boolean x)) Q) : WP μ n Rf pc ls (.int x :: .int i :: .ref c0 :: st) I Q := by
  intro G ad A p l e s m args below meth c H locs lsA C hP hD hS hl
  refine va_zast (D := G.1) (cl := vwCl) (tys := tysG G) (ws := wl G ad n Rf I) (f := I c0) C.1 C.2.1 C.2.2.2.2.2.2.2.1 hP hD hS c0 2 (wl_of h0 hlt) rfl hi hd ?_
  intro H1 locs1 hP1 hD1 hS1
  have e1 : (wl G ad n Rf I).set c0 (ad c0, ce G ad (3, N) (Rf c0) (upd (I c0) i.toNatClampNeg (vp_nar .boolean x))) = wl G ad n Rf (up2 I c0 i.toNatClampNeg (vp_nar .boolean x)) := wl_set h0 _
  exact K G ad A p l e s m args below meth c H1 locs1 lsA C (e1 ▸ hP1) (e1 ▸ hD1) hS1 hl
theorem w_alen {c0 N : Nat} {v : Int32} (hd : decode μ.2.1 pc = .ok (.arraylength, 1)) (h0 : kd c0 = (1, N)) (hlt : c0 < n) (hv : Int32.ofNat N = v) (K : WP μ n Rf (pc + 1) ls (.int v :: st) I Q) : WP μ n Rf pc ls (.ref c0 :: st) I Q := by
  intro G ad A p l e s m args below meth c H locs lsA C hP hD hS hl
  exact va_alen (D := G.1) (cl := vwCl) (tys := tysG G) (ws := wl G ad n Rf I) C.1 C.2.1 C.2.2.2.2.2.2.2.1 hP c0 0 (wl_of h0 hlt) (ty := .int) rfl hv hd (K G ad A p l e s m args below meth c H locs lsA C hP hD hS hl)
/-- System.arraycopy between two int arrays -/
theorem w_copy {idx a0 a1 n0 n1 : Nat} {sp dp k : Int32} (hd : decode μ.2.1 pc = .ok (.invokestatic idx, 3)) (hw : Cond.methodLink μ.1.cls idx arraycopyName ∈ tbl) (hw2 : Cond.native arraycopyName ∈ tbl) (hw3 : Cond.static arraycopyName ∈ tbl) (hw4 : Cond.initialized "java/lang/System" ∈ tbl) (h0 : kd a0 = (1, n0)) (h1 : kd a1 = (1, n1)) (hl0 : a0 < n) (hl1 : a1 < n) (h2 : ¬ sp < 0) (h3 : ¬ dp < 0) (h4 : ¬ k < 0) (h5 : sp.toNatClampNeg + k.toNatClampNeg ≤ n0) (h6 : dp.toNatClampNeg + k.toNatClampNeg ≤ n1) (hf : 1 ≤ μ.2.2.2.2.1) (hlo : (st.map fun v => v.category).sum + (nativeFrameWords "java/lang/System" "arraycopy" 5 + 11) ≤ μ.2.2.2.2.2)
    (K : WP μ n Rf (pc + 3) ls st (upA I a1 (va_cpy (I a0) (I a1) sp.toNatClampNeg dp.toNatClampNeg k.toNatClampNeg)) Q) : WP μ n Rf pc ls (.int k :: .int dp :: .ref a1 :: .int sp :: .ref a0 :: st) I Q := by
  intro G ad A p l e s m args below meth c H locs lsA C hP hD hS hl
  refine va_copyi (D := G.1) (cl := vwCl) (tys := tysG G) (ws := wl G ad n Rf I) (f := I a0) (g := I a1) (ty := .int) C.1 C.2.1 (by rw [C.2.2.2.1, hl.1]) C.2.2.2.2.1 (Cx_w C hw) (Cx_w C hw2) (Cx_w C hw3) (Cx_w C hw4) C.2.2.2.2.2.2.2.1 hP hD hS a0 a1 0 0 (wl_of h0 hl0) (wl_of h1 hl1) rfl rfl rfl h2 h3 h4 h5 h6 (fun _ _ => rfl) hf (by rw [cvt_sum (Sx_fm C.2.2.2.2.2.2.2.2.2)]; exact hlo) hd ?_
  intro H1 locs1 hP1 hD1 hS1
  have e1 : (wl G ad n Rf I).set a1 (ad a1, ce G ad (1, n1) (Rf a1) (va_cpy (I a0) (I a1) sp.toNatClampNeg dp.toNatClampNeg k.toNatClampNeg)) = wl G ad n Rf (upA I a1 (va_cpy (I a0) (I a1) sp.toNatClampNeg dp.toNatClampNeg k.toNatClampNeg)) := wl_set h1 _
  exact K G ad A p l e s m args below meth c H1 locs1 lsA C (e1 ▸ hP1) (e1 ▸ hD1) hS1 hl
theorem w_max {idx : Nat} {x y : Int32} (hd : decode μ.2.1 pc = .ok (.invokestatic idx, 3)) (hw : Cond.methodLink μ.1.cls idx Lib.Math.max.name ∈ tbl) (hw2 : Cond.static Lib.Math.max.name ∈ tbl) (hw3 : Cond.initialized "java/lang/Math" ∈ tbl) (hw4 : Cond.code Lib.Math.max.name Lib.Math.max.code 2 (some .int) ∈ tbl) (hf : 1 ≤ μ.2.2.2.2.1) (hlo : (st.map fun v => v.category).sum + 13 ≤ μ.2.2.2.2.2) (K : WP μ n Rf (pc + 3) ls (.int (if x < y then y else x) :: st) I Q) : WP μ n Rf pc ls (.int y :: .int x :: st) I Q := by
  intro G ad A p l e s m args below meth c H locs lsA C hP hD hS hl
  exact va_mmax C.1 C.2.1 (by rw [C.2.2.2.1, hl.1]) C.2.2.2.2.1 (Cx_w C hw) (Cx_w C hw2) (Cx_w C hw3) (Cx_w C hw4) hf (by rw [cvt_sum (Sx_fm C.2.2.2.2.2.2.2.2.2)]; exact hlo) (Nat.le_refl 0) (Nat.le_refl 0) hd (K G ad A p l e s m args below meth c H locs lsA C hP hD hS hl)
theorem w_min {idx : Nat} {x y : Int32} (hd : decode μ.2.1 pc = .ok (.invokestatic idx, 3)) (hw : Cond.methodLink μ.1.cls idx Lib.Math.min.name ∈ tbl) (hw2 : Cond.static Lib.Math.min.name ∈ tbl) (hw3 : Cond.initialized "java/lang/Math" ∈ tbl) (hw4 : Cond.code Lib.Math.min.name Lib.Math.min.code 2 (some .int) ∈ tbl) (hf : 1 ≤ μ.2.2.2.2.1) (hlo : (st.map fun v => v.category).sum + 13 ≤ μ.2.2.2.2.2) (K : WP μ n Rf (pc + 3) ls (.int (if y < x then y else x) :: st) I Q) : WP μ n Rf pc ls (.int y :: .int x :: st) I Q := by
  intro G ad A p l e s m args below meth c H locs lsA C hP hD hS hl
  exact va_mmin C.1 C.2.1 (by rw [C.2.2.2.1, hl.1]) C.2.2.2.2.1 (Cx_w C hw) (Cx_w C hw2) (Cx_w C hw3) (Cx_w C hw4) hf (by rw [cvt_sum (Sx_fm C.2.2.2.2.2.2.2.2.2)]; exact hlo) (Nat.le_refl 0) (Nat.le_refl 0) hd (K G ad A p l e s m args below meth c H locs lsA C hP hD hS hl)
theorem w_iret {x : Int32} (hd : decode μ.2.1 pc = .ok (.ireturn, 1)) (hr : μ.2.2.2.1 = some .int) (K : Q (some (.int x)) I) : WP μ n Rf pc ls [.int x] I Q := by
  intro G ad A p l e s m args below meth c H locs lsA C hP hD hS hl
  exact W.iret (v := x) C.1 C.2.1 (C.2.2.1.trans hr) (fun t ht hW => ⟨⟨some (.int x), I, rfl, K, by rw [ht]; exact hP, hD⟩, hS.F ht⟩) hS.2.2 hd C.2.2.2.2.2.2.1
theorem w_zret {x : Int32} {ty : FieldType} (hd : decode μ.2.1 pc = .ok (.ireturn, 1)) (hr : μ.2.2.2.1 = some ty) (hn : narrow ty (.int x) = .int x) (K : Q (some (.int x)) I) : WP μ n Rf pc ls [.int x] I Q := by
  intro G ad A p l e s m args below meth c H locs lsA C hP hD hS hl
  exact W.zret (v := x) C.1 C.2.1 (C.2.2.1.trans hr) hn (fun t ht hW => ⟨⟨some (.int x), I, rfl, K, by rw [ht]; exact hP, hD⟩, hS.F ht⟩) hS.2.2 hd C.2.2.2.2.2.2.1
theorem w_vret (hd : decode μ.2.1 pc = .ok (.return_, 1)) (hr : μ.2.2.2.1 = none) (K : Q none I) : WP μ n Rf pc ls [] I Q := by
  intro G ad A p l e s m args below meth c H locs lsA C hP hD hS hl
  exact W.vret C.1 C.2.1 (C.2.2.1.trans hr) (fun t ht hW => ⟨⟨none, I, rfl, K, by rw [ht]; exact hP, hD⟩, hS.F ht⟩) hS.2.2 hd C.2.2.2.2.2.2.1
theorem w_aret {r : Nat} {rt : FieldType} (hd : decode μ.2.1 pc = .ok (.areturn, 1)) (hr : μ.2.2.2.1 = some rt) (hrt : (∃ n, rt = .object n) ∨ ∃ t, rt = .array t) (K : Q (some (.ref r)) I) : WP μ n Rf pc ls [.ref r] I Q := by
  intro G ad A p l e s m args below meth c H locs lsA C hP hD hS hl
  exact W.aret (v := .ref (ad r)) C.1 C.2.1 (C.2.2.1.trans hr) hrt (Or.inr ⟨_, rfl⟩) (fun t ht hW => ⟨⟨some (.ref r), I, rfl, K, by rw [ht]; exact hP, hD⟩, hS.F ht⟩) hS.2.2 hd C.2.2.2.2.2.2.1
end WH
end
section
/-! calls over WP -/
/-- the locals with which a method begins -/
def ent : List Value → List (Option Value)
  | [] => []
  | v :: r => some v :: (match v with | .long _ => none :: ent r | .double _ => none :: ent r | _ => ent r)
theorem ent_in {G : gG} {ad : Nat → Nat} (hf : G.2.2.1.category = 1) : ∀ (vs : List Value) (i k : Nat) (v : Value), (ent vs)[k]? = some (some v) → (i + k, cvt G ad v) ∈ lv_args i (vs.map (cvt G ad)) := by
  intro vs
  induction vs with
  | nil => intro i k v h; simp [ent] at h
  | cons w r ih =>
    intro i k v h
    rw [List.map_cons, lv_args, cvt_cat hf]
    cases k with
    | zero =>
      simp only [ent, List.getElem?_cons_zero, Option.some.injEq] at h
      subst h
      exact List.mem_cons_self
    | succ k =>
      refine List.mem_cons_of_mem _ ?_
      have two : ∀ (hc : w.category = 2), ent (w :: r) = some w :: none :: ent r → (i + (k + 1), cvt G ad v) ∈ lv_args (if w.category = 2 then i + 2 else i + 1) (r.map (cvt G ad)) := by
        intro hc he
        rw [if_pos hc]
        rw [he, List.getElem?_cons_succ] at h
        cases k with
        | zero => simp at h
        | succ k =>
          rw [List.getElem?_cons_succ] at h
          have := ih (i + 2) k v h
          rw [show i + (k + 1 + 1) = i + 2 + k by omega]
          exact this
      have one : ∀ (hc : ¬ w.category = 2), ent (w :: r) = some w :: ent r → (i + (k + 1), cvt G ad v) ∈ lv_args (if w.category = 2 then i + 2 else i + 1) (r.map (cvt G ad)) := by
        intro hc he
        rw [if_neg hc]
        rw [he, List.getElem?_cons_succ] at h
        have := ih (i + 1) k v h
        rw [show i + (k + 1) = i + 1 + k by omega]
        exact this
      cases w with
      | long x => exact two rfl rfl
      | double x => exact two rfl rfl
      | int x => exact one (by simp [Value.category]) rfl
      | float x => exact one (by simp [Value.category]) rfl
      | null => exact one (by decide) rfl
      | ref x => exact one (by simp [Value.category]) rfl
      | retAddr x => exact one (by simp [Value.category]) rfl
theorem ent_len {G : gG} {ad : Nat → Nat} (hf : G.2.2.1.category = 1) : ∀ vs : List Value, (lg_sl (vs.map (cvt G ad))).length = (ent vs).length := by
  intro vs
  induction vs with
  | nil => rfl
  | cons w r ih =>
    have e : lg_sl ((w :: r).map (cvt G ad)) = (if w.category = 2 then [Slot.val (cvt G ad w), Slot.second] else [Slot.val (cvt G ad w)]) ++ lg_sl (r.map (cvt G ad)) := by
      show (if (cvt G ad w).category = 2 then [Slot.val (cvt G ad w), Slot.second] else [Slot.val (cvt G ad w)]) ++ lg_sl (r.map (cvt G ad)) = _
      rw [cvt_cat hf]
    rw [e, List.length_append, ih]
    cases w <;> simp [ent, Value.category] <;> omega
def pad (vs : List Value) (nL : Nat) : List (Option Value) := ent vs ++ List.replicate (nL - (ent vs).length) none
/-- a method from its entry -/
def WPm (μ : mD) (n : Nat) (Rf : MR) (vs : List Value) (I : MI) (Q : Option Value → MI → Prop) : Prop := WP μ n Rf 0 (pad vs μ.2.2.1) [] I Q
def PreU (G : gG) (ad : Nat → Nat) (n : Nat) (Rf : MR) (I : MI) (sz : Nat) (U : State) : Prop :=
  U.heap.size = sz ∧ va_P G.1 vwCl (wl G ad n Rf I) U.heap ∧ va_K G.1 vwCl (tysG G) U ∧ va_D (fun _ => True) (wl G ad n Rf I) ∧ Sx G (va_A (wl G ad n Rf I) sz) U
theorem wp_met {μ : mD} {n : Nat} {Rf : MR} {vs : List Value} {I : MI} {Q : Option Value → MI → Prop} (hy : plainName μ.1.cls = true) (hlen : (ent vs).length ≤ μ.2.2.1) (h : WPm μ n Rf vs I Q) (l : Launch) (G : gG) (ad : Nat → Nat) (sz : Nat) :
    Met l μ.1 (wsM μ) (rmD μ) (va_Pc (vs.map (cvt G ad)) (PreU G ad n Rf I sz)) (Po G ad (va_A (wl G ad n Rf I) sz) n Rf Q) 0 0 (va_A (wl G ad n Rf I) sz) := by
  refine Met.ofW (cc := μ.2.1) (maxL := μ.2.2.1) (ret := μ.2.2.2.1) hy rfl ?_
  intro p e s m args below meth c s₁ B hml hv
  obtain ⟨rfl, rfl, hP, hK, hD0, hX⟩ := hv
  have hfm := Sx_fm hX
  have hts := atoms_spec (ws := wsM μ) B.pre
  have hown : s.vm.findClass μ.1.cls = some m.cls := findClass_of_methodNamed B.named
  have hle : (lg_sl (vs.map (cvt G ad))).length ≤ μ.2.2.1 := by rw [ent_len hfm]; exact hlen
  have hl := lv_entry (vs.map (cvt G ad)) hle
  rw [lg_entry_eq]
  refine h G ad _ p l e s m _ below meth c s.heap [] _ ⟨B.exec, B.bytes, B.returns, hml, hown, hts, B.notSynchronized, hK, fun q h => Or.inr h, hX⟩ hP (hD0.self (sz := s.heap.size)) va_S.rf ⟨hl.1, hl.2.1, fun k v hk => ?_⟩
  have hk2 : (ent vs)[k]? = some (some v) := by
    unfold pad at hk
    rcases Nat.lt_or_ge k (ent vs).length with q | q
    · rwa [List.getElem?_append_left q] at hk
    · rw [List.getElem?_append_right q, List.getElem?_replicate] at hk
      split at hk <;> simp at hk
  have := ent_in (G := G) (ad := ad) hfm vs 0 k v hk2
  rw [Nat.zero_add] at this
  exact hl.2.2 _ this
section WC
variable {p : Program} {l : Launch} {e : Env} {R : Room} {s : State} {m : MethodId} {args : Array Value} {below : List Frame} {meth : Method} {c : Code} {H : Heap} {locs : List Loc}
theorem wc_go {G : gG} {ad : Nat → Nat} {A A' : Nat → Prop} {n : Nat} {Rf : MR} {Q' : Option Value → MI → Prop} {Qf : State → Prop} {pc : Nat} {lsA : Array Slot} {st0 rest : List Value} {av : Array Value}
    (hr : va_Run p l e R s m args below meth c H locs 0 0 0 0 (F0 m pc lsA st0) rest (Po G ad A' n Rf Q' av) A') (hS : va_S A s.heap H locs) (hA : ∀ q, A' q → A q)
    (K : ∀ (v : Option Value) (I1 : MI) (H1 : Heap) (locs1 : List Loc), Q' v I1 → va_P G.1 vwCl (wl G ad n Rf I1) H1 → va_D A (wl G ad n Rf I1) → va_S A s.heap H1 locs1 → W p l e R s m args below meth c H1 locs1 0 0 Qf (F0 m (pc + 3) lsA ((v.map (cvt G ad)).toList ++ rest))) :
    W p l e R s m args below meth c H locs 0 0 Qf (F0 m pc lsA st0) := by
  intro T hT X
  obtain ⟨v, st₀, t, T', L, h0, X', hL, e1, e2, ⟨⟨v1, I1, hv, hq, hP1, hD1⟩, hz, hk⟩, st⟩ := hr T hT X
  cases hv
  rw [h0] at hz hk
  obtain ⟨t2, a1, b1⟩ := K v1 I1 T'.heap (locs ++ L) hq (by rw [e1]; exact hP1) (hD1.weaken (fun _ q _ h => hA q.1 h))
    ⟨Nat.le_trans hS.1 (by rw [e1]; exact hz), fun q h1 h2 => by rw [e1, hk q (Nat.lt_of_lt_of_le h1 hS.1) (fun z => h2 (hA q z))]; exact hS.2.1 q h1 h2, fun q hq => by
      rcases List.mem_append.mp hq with h | h
      · exact hS.2.2 q h
      · exact hA _ (hL q h)⟩ T' rfl X'
  exact ⟨t2, st t2 a1, b1⟩
end WC
theorem pre_blind {G : gG} {ad : Nat → Nat} {n : Nat} {Rf : MR} {I : MI} {sz : Nat} {av : List Value} : FrameBlind (va_Pc av (PreU G ad n Rf I sz)) := by
  intro a U g mk h
  obtain ⟨h1, h2, h3, h4, h5, h6⟩ := h
  exact ⟨h1, h2, h3, va_K.moved (u := U) (U := U.calling g mk a) (Vm.Alike.refl U.vm) h4, h5, Sx_same h6 rfl rfl⟩
theorem pre_here {G : gG} {ad : Nat → Nat} {A : Nat → Prop} {n : Nat} {Rf : MR} {I : MI} {s : State} {H : Heap} {locs : List Loc} (hP : va_P G.1 vwCl (wl G ad n Rf I) H) (hD : va_D A (wl G ad n Rf I)) (hS : va_S A s.heap H locs) (hK : va_K G.1 vwCl (tysG G) s) (hX : Sx G A s) (hA : ∀ q, va_A (wl G ad n Rf I) H.size q → A q) : ∀ U : State, U.heap = H → s.WarmedH U.vm → PreU G ad n Rf I H.size U := by
  intro U hU hW
  exact ⟨by rw [hU], by rw [hU]; exact hP, va_K.moved hW.alike hK, hD.weaken (fun _ _ _ _ => trivial), Sx_go hX hS hU hW hA⟩
theorem free_all {G : gG} {ad : Nat → Nat} {A : Nat → Prop} {n : Nat} {Rf : MR} {I : MI} {s : State} {H : Heap} {locs : List Loc} (hD : va_D A (wl G ad n Rf I)) (hS : va_S A s.heap H locs) (hA : ∀ q, s.heap.size ≤ q → A q) : ∀ q, va_A (wl G ad n Rf I) H.size q → A q := by
  intro q h
  rcases h with ⟨k, x, h⟩ | h
  · exact hD.2 k _ h
  · exact hA q (Nat.le_trans hS.1 h)
theorem good_ws {μ μ' : mD} (h : Cond.code μ'.1 μ'.2.1 μ'.2.2.1 μ'.2.2.2.1 ∈ tbl) : GoodIn (wsM μ) (wsM μ') := by
  intro w hw
  rcases List.mem_cons.mp hw with rfl | hw
  · exact ⟨List.mem_cons_of_mem _ h, good_of_word (tb_gd h)⟩
  · exact ⟨List.mem_cons_of_mem _ hw, good_of_word (tb_gd hw)⟩
def okN (μ : mD) (np : Nat) : Prop := plainName μ.1.cls = true ∧ Cond.initialized μ.1.cls ∈ tbl ∧ Cond.code μ.1 μ.2.1 μ.2.2.1 μ.2.2.2.1 ∈ tbl ∧ (μ.1.cls ≠ "java/lang/invoke/MethodHandle" ∧ μ.1.cls ≠ "java/lang/invoke/VarHandle" ∧ (parseMethodDescriptor μ.1.desc).map (fun d => d.parameters.length) = some np)
def okV (μ : mD) (np : Nat) : Prop := okN μ np ∧ Cond.instanceMethod μ.1 ∈ tbl ∧ Cond.selects μ.1.cls μ.1 μ.1 ∈ tbl
def okS (μ : mD) (np : Nat) : Prop := okN μ np ∧ Cond.static μ.1 ∈ tbl
section WD
variable {μ μ' : mD} {n : Nat} {Rf : MR} {pc idx np : Nat} {ls : List (Option Value)} {st As : List Value} {I : MI} {Q : Option Value → MI → Prop}
theorem out_map {G : gG} {ad : Nat → Nat} (v : Option Value) (st : List Value) : (v.toList ++ st).map (cvt G ad) = (v.map (cvt G ad)).toList ++ st.map (cvt G ad) := by
  cases v <;> simp
theorem w_callV {c0 ci : Nat} {q : vw_C} (hd : decode μ.2.1 pc = .ok (.invokevirtual idx, 3)) (hw : Cond.methodLink μ.1.cls idx μ'.1 ∈ tbl) (ho : okV μ' np) (h0 : kd c0 = (0, ci)) (hlt : c0 < n) (hcn : vwCl[ci]? = some q) (hcq : q.1 = μ'.1.cls) (hnp : As.length = np) (hlen : (ent (.ref c0 :: As)).length ≤ μ'.2.2.1) (hR : μ'.2.2.2.2.1 + 1 ≤ μ.2.2.2.2.1 ∧ 8 + (μ'.2.2.1 + 11) + μ'.2.2.2.2.2 ≤ μ.2.2.2.2.2) (hst : (st.map fun v => v.category).sum ≤ 8)
    (K : WPm μ' n Rf (.ref c0 :: As) I (fun v I1 => WP μ n Rf (pc + 3) ls (v.toList ++ st) I1 Q)) : WP μ n Rf pc ls (As.reverse ++ .ref c0 :: st) I Q := by
  intro G ad A p l e s m args below meth c H locs lsA C hP hD hS hl
  obtain ⟨hx, hb, hr, hml, hown, hts, hlk, hK, hA, hX⟩ := id C
  have hfm := Sx_fm hX
  have hF := free_all (G := G) hD hS hA
  have hM := wp_met ho.1.1 hlen K l G ad H.size
  have hrun : va_Run p l e (rmD μ) s m args below meth c H locs 0 0 0 0 (F0 m pc lsA ((As.reverse ++ .ref c0 :: st).map (cvt G ad))) (st.map (cvt G ad)) (Po G ad (va_A (wl G ad n Rf I) H.size) n Rf (fun v I1 => WP μ n Rf (pc + 3) ls (v.toList ++ st) I1 Q) (Value.ref (ad c0) :: As.map (cvt G ad)).toArray) (va_A (wl G ad n Rf I) H.size) := by
    refine va_runV (As := As.map (cvt G ad)) (rest := st.map (cvt G ad)) (C := μ'.1.cls) (n := np) ⟨hx, hb, hml, hown, hts⟩ hM ⟨callB_of np hts (good_ws ho.1.2.2.1) rfl rfl rfl (Cx_w C ho.1.2.1) (Cx_w C hw) ho.1.2.2.2 hR, Cx_w C ho.2.1, Cx_w C ho.2.2⟩ ⟨pre_blind, ?_, fun U hU hW => ⟨rfl, pre_here hP hD hS hK hX hF U hU hW⟩⟩ rfl (by rw [List.length_map]; exact hnp) hl.1 ?_ ?_ hd ⟨Nat.le_refl 0, Nat.le_refl 0⟩
    · obtain ⟨cell, q1, q2, q3⟩ := va_recv hK hP hcn (wl_of h0 hlt)
      exact ⟨cell, q1, q2, by rw [← hcq]; exact q3⟩
    · simp [cvt]
    · refine lv_room ?_
      rw [cvt_sum hfm]; exact hst
  refine wc_go hrun hS hF (fun v I1 H1 locs1 hq hP1 hD1 hS1 => ?_)
  have := hq G ad A p l e s m args below meth c H1 locs1 lsA C hP1 hD1 hS1 hl
  rw [out_map] at this
  exact this
theorem w_callS (hd : decode μ.2.1 pc = .ok (.invokestatic idx, 3)) (hw : Cond.methodLink μ.1.cls idx μ'.1 ∈ tbl) (ho : okS μ' np) (hnp : As.length = np) (hlen : (ent As).length ≤ μ'.2.2.1) (hR : μ'.2.2.2.2.1 + 1 ≤ μ.2.2.2.2.1 ∧ 8 + (μ'.2.2.1 + 11) + μ'.2.2.2.2.2 ≤ μ.2.2.2.2.2) (hst : (st.map fun v => v.category).sum ≤ 8)
    (K : WPm μ' n Rf As I (fun v I1 => WP μ n Rf (pc + 3) ls (v.toList ++ st) I1 Q)) : WP μ n Rf pc ls (As.reverse ++ st) I Q := by
  intro G ad A p l e s m args below meth c H locs lsA C hP hD hS hl
  obtain ⟨hx, hb, hr, hml, hown, hts, hlk, hK, hA, hX⟩ := id C
  have hfm := Sx_fm hX
  have hF := free_all (G := G) hD hS hA
  have hM := wp_met ho.1.1 hlen K l G ad H.size
  have hrun : va_Run p l e (rmD μ) s m args below meth c H locs 0 0 0 0 (F0 m pc lsA ((As.reverse ++ st).map (cvt G ad))) (st.map (cvt G ad)) (Po G ad (va_A (wl G ad n Rf I) H.size) n Rf (fun v I1 => WP μ n Rf (pc + 3) ls (v.toList ++ st) I1 Q) (As.map (cvt G ad)).toArray) (va_A (wl G ad n Rf I) H.size) := by
    refine va_runS (As := As.map (cvt G ad)) (rest := st.map (cvt G ad)) (n := np) ⟨hx, hb, hml, hown, hts⟩ hM ⟨callB_of np hts (good_ws ho.1.2.2.1) rfl rfl rfl (Cx_w C ho.1.2.1) (Cx_w C hw) ho.1.2.2.2 hR, Cx_w C ho.2⟩ ⟨pre_blind, fun U hU hW => ⟨rfl, pre_here hP hD hS hK hX hF U hU hW⟩⟩ rfl (by rw [List.length_map]; exact hnp) hl.1 ?_ ?_ hd ⟨Nat.le_refl 0, Nat.le_refl 0⟩
    · simp
    · refine lv_room ?_
      rw [cvt_sum hfm]; exact hst
  refine wc_go hrun hS hF (fun v I1 H1 locs1 hq hP1 hD1 hS1 => ?_)
  have := hq G ad A p l e s m args below meth c H1 locs1 lsA C hP1 hD1 hS1 hl
  rw [out_map] at this
  exact this
/-- a virtual call on one of the seven words -/
theorem w_callW {j : Nat} (hj : j < 7) (hd : decode μ.2.1 pc = .ok (.invokevirtual idx, 3)) (hw : Cond.methodLink μ.1.cls idx μ'.1 ∈ tbl) (ho : okV μ' np) (hcq : μ'.1.cls = "java/lang/String") (hnp : As.length = np) (hlen : (ent (.retAddr (2 * j + 1) :: As)).length ≤ μ'.2.2.1) (hR : μ'.2.2.2.2.1 + 1 ≤ μ.2.2.2.2.1 ∧ 8 + (μ'.2.2.1 + 11) + μ'.2.2.2.2.2 ≤ μ.2.2.2.2.2) (hst : (st.map fun v => v.category).sum ≤ 8)
    (K : WPm μ' n Rf (.retAddr (2 * j + 1) :: As) I (fun v I1 => WP μ n Rf (pc + 3) ls (v.toList ++ st) I1 Q)) : WP μ n Rf pc ls (As.reverse ++ .retAddr (2 * j + 1) :: st) I Q := by
  intro G ad A p l e s m args below meth c H locs lsA C hP hD hS hl
  obtain ⟨hx, hb, hr, hml, hown, hts, hlk, hK, hA, hX⟩ := id C
  have hfm := Sx_fm hX
  have hF := free_all (G := G) hD hS hA
  have hM := wp_met ho.1.1 hlen K l G ad H.size
  have e0 : (Value.retAddr (2 * j + 1) :: As).map (cvt G ad) = Value.ref (G.2.2.2.1 j) :: As.map (cvt G ad) := by rw [List.map_cons, cvt_S]
  rw [e0] at hM
  have hrun : va_Run p l e (rmD μ) s m args below meth c H locs 0 0 0 0 (F0 m pc lsA ((As.reverse ++ .retAddr (2 * j + 1) :: st).map (cvt G ad))) (st.map (cvt G ad)) (Po G ad (va_A (wl G ad n Rf I) H.size) n Rf (fun v I1 => WP μ n Rf (pc + 3) ls (v.toList ++ st) I1 Q) (Value.ref (G.2.2.2.1 j) :: As.map (cvt G ad)).toArray) (va_A (wl G ad n Rf I) H.size) := by
    refine va_runV (As := As.map (cvt G ad)) (rest := st.map (cvt G ad)) (C := μ'.1.cls) (n := np) ⟨hx, hb, hml, hown, hts⟩ hM ⟨callB_of np hts (good_ws ho.1.2.2.1) rfl rfl rfl (Cx_w C ho.1.2.1) (Cx_w C hw) ho.1.2.2.2 hR, Cx_w C ho.2.1, Cx_w C ho.2.2⟩ ⟨pre_blind, ?_, fun U hU hW => ⟨rfl, pre_here hP hD hS hK hX hF U hU hW⟩⟩ rfl (by rw [List.length_map]; exact hnp) hl.1 ?_ ?_ hd ⟨Nat.le_refl 0, Nat.le_refl 0⟩
    · rw [hcq]
      exact vk_recv hX.1 hj hS
    · rw [List.map_append, List.map_cons, cvt_S, List.map_reverse]
    · refine lv_room ?_
      rw [cvt_sum hfm]; exact hst
  refine wc_go hrun hS hF (fun v I1 H1 locs1 hq hP1 hD1 hS1 => ?_)
  have := hq G ad A p l e s m args below meth c H1 locs1 lsA C hP1 hD1 hS1 hl
  rw [out_map] at this
  exact this
/-- the JDK's own reads of a word: its bytes, its coder, a byte, how many, COMPACT_STRINGS, the formatter -/
theorem w_strV {j : Nat} {ref : String} (hj : j < 7) (hd : decode μ.2.1 pc = .ok (.getfield idx, 3)) (hw : Cond.fieldLink μ.1.cls idx "java/lang/String" "value" "[B" ∈ tbl) (K : WP μ n Rf (pc + 3) ls (.retAddr (2 * j + 2) :: st) I Q) : WP μ n Rf pc ls (.retAddr (2 * j + 1) :: st) I Q := by
  intro G ad A p l e s m args below meth c H locs lsA C hP hD hS hl
  have hk := K G ad A p l e s m args below meth c H locs lsA C hP hD hS hl
  rw [List.map_cons, cvt_V] at hk
  rw [List.map_cons, cvt_S]
  exact vk_getf C.1 C.2.1 (C.2.2.2.2.2.2.2.2.2.1.1 j hj).2.2.1 hS C.2.2.2.2.1 (Cx_w C hw) (fun _ h => h) hd hk
theorem w_strC {j : Nat} (hj : j < 7) (hd : decode μ.2.1 pc = .ok (.getfield idx, 3)) (hw : Cond.fieldLink μ.1.cls idx "java/lang/String" "coder" "B" ∈ tbl) (K : WP μ n Rf (pc + 3) ls (.int 0 :: st) I Q) : WP μ n Rf pc ls (.retAddr (2 * j + 1) :: st) I Q := by
  intro G ad A p l e s m args below meth c H locs lsA C hP hD hS hl
  have hk := K G ad A p l e s m args below meth c H locs lsA C hP hD hS hl
  rw [List.map_cons, cvt_S]
  exact vk_getf C.1 C.2.1 (C.2.2.2.2.2.2.2.2.2.1.1 j hj).2.1 hS C.2.2.2.2.1 (Cx_w C hw) (fun _ h => h) hd hk
theorem w_strB {j : Nat} {i : Int32} (hj : j < 7) (hd : decode μ.2.1 pc = .ok (.baload, 1)) (hi : vp_in i (strLen.getD j 0)) (K : WP μ n Rf (pc + 1) ls (.int ((strByt.getD j []).getD i.toNatClampNeg 0) :: st) I Q) : WP μ n Rf pc ls (.int i :: .retAddr (2 * j + 2) :: st) I Q := by
  intro G ad A p l e s m args below meth c H locs lsA C hP hD hS hl
  have hk := K G ad A p l e s m args below meth c H locs lsA C hP hD hS hl
  rw [List.map_cons, List.map_cons, cvt_V]
  exact va_tb C.1 C.2.1 (C.2.2.2.2.2.2.2.2.2.1.1 j hj).2.2.2 hS hi rfl hd hk
theorem w_strL {j : Nat} {v : Int32} (hj : j < 7) (hd : decode μ.2.1 pc = .ok (.arraylength, 1)) (hv : Int32.ofNat (strLen.getD j 0) = v) (K : WP μ n Rf (pc + 1) ls (.int v :: st) I Q) : WP μ n Rf pc ls (.retAddr (2 * j + 2) :: st) I Q := by
  intro G ad A p l e s m args below meth c H locs lsA C hP hD hS hl
  have hk := K G ad A p l e s m args below meth c H locs lsA C hP hD hS hl
  rw [List.map_cons, cvt_V]
  exact va_tlen C.1 C.2.1 (C.2.2.2.2.2.2.2.2.2.1.1 j hj).2.2.2 hS hv hd hk
theorem w_strK (hd : decode μ.2.1 pc = .ok (.getstatic idx, 3)) (hw : Cond.fieldLink μ.1.cls idx "java/lang/String" "COMPACT_STRINGS" "Z" ∈ tbl) (K : WP μ n Rf (pc + 3) ls (.int 1 :: st) I Q) : WP μ n Rf pc ls st I Q := by
  intro G ad A p l e s m args below meth c H locs lsA C hP hD hS hl
  exact va_gets C.1 C.2.1 C.2.2.2.2.2.2.2.2.2.2.2.1 hS C.2.2.2.2.1 (Cx_w C hw) (fun _ h => h) hd (K G ad A p l e s m args below meth c H locs lsA C hP hD hS hl)
theorem w_strF (hd : decode μ.2.1 pc = .ok (.getstatic idx, 3)) (hw : Cond.fieldLink μ.1.cls idx "jdk/internal/util/Preconditions" "SIOOBE_FORMATTER" "Ljava/util/function/BiFunction;" ∈ tbl) (K : WP μ n Rf (pc + 3) ls (.retAddr 0 :: st) I Q) : WP μ n Rf pc ls st I Q := by
  intro G ad A p l e s m args below meth c H locs lsA C hP hD hS hl
  exact va_gets C.1 C.2.1 C.2.2.2.2.2.2.2.2.2.2.2.2.1 hS C.2.2.2.2.1 (Cx_w C hw) (fun _ h => h) hd (K G ad A p l e s m args below meth c H locs lsA C hP hD hS hl)
end WD
/-! what a method answers: a number, nothing, a cell -/
def qi (Q : Int32 → MI → Prop) : Option Value → MI → Prop := fun v I => ∃ r, v = some (.int r) ∧ Q r I
def qv (Q : MI → Prop) : Option Value → MI → Prop := fun v I => v = none ∧ Q I
def qr (Q : Nat → MI → Prop) : Option Value → MI → Prop := fun v I => ∃ r, v = some (.ref r) ∧ Q r I
def Wi (μ : mD) (vs : List Value) (I : MI) (Q : Int32 → MI → Prop) : Prop := WPm μ 286 Rf0 vs I (qi Q)
def Wv (μ : mD) (vs : List Value) (I : MI) (Q : MI → Prop) : Prop := WPm μ 286 Rf0 vs I (qv Q)
def Wr (μ : mD) (vs : List Value) (I : MI) (Q : Nat → MI → Prop) : Prop := WPm μ 286 Rf0 vs I (qr Q)
theorem WP.mono {μ : mD} {n : Nat} {Rf : MR} {pc : Nat} {ls : List (Option Value)} {st : List Value} {I : MI} {Q Q' : Option Value → MI → Prop} (h : WP μ n Rf pc ls st I Q) (hq : ∀ v I, Q v I → Q' v I) : WP μ n Rf pc ls st I Q' := by
  intro G ad A p l e s m args below meth c H locs lsA C hP hD hS hl T hT X
  obtain ⟨t, h1, o, h2, h3, ⟨⟨v, I1, h4, h5, h6⟩, h7⟩, h8⟩ := h G ad A p l e s m args below meth c H locs lsA C hP hD hS hl T hT X
  exact ⟨t, h1, o, h2, h3, ⟨⟨v, I1, h4, hq v I1 h5, h6⟩, h7⟩, h8⟩
/-- what goes on behind a call, by what it answers -/
theorem wk_i {μ' : mD} {n : Nat} {Rf : MR} {vs : List Value} {I : MI} {K : Option Value → MI → Prop} (h : WPm μ' n Rf vs I (qi fun r I1 => K (some (.int r)) I1)) : WPm μ' n Rf vs I K :=
  WP.mono h (fun v I1 hv => by obtain ⟨r, rfl, h⟩ := hv; exact h)
theorem wk_v {μ' : mD} {n : Nat} {Rf : MR} {vs : List Value} {I : MI} {K : Option Value → MI → Prop} (h : WPm μ' n Rf vs I (qv fun I1 => K none I1)) : WPm μ' n Rf vs I K :=
  WP.mono h (fun v I1 hv => by obtain ⟨rfl, h⟩ := hv; exact h)
theorem wk_r {μ' : mD} {n : Nat} {Rf : MR} {vs : List Value} {I : MI} {K : Option Value → MI → Prop} (h : WPm μ' n Rf vs I (qr fun r I1 => K (some (.ref r)) I1)) : WPm μ' n Rf vs I K :=
  WP.mono h (fun v I1 hv => by obtain ⟨r, rfl, h⟩ := hv; exact h)
end
section
/-! the cells and links, by name; the methods -/
theorem kd_0 : kd 0 = (0, 11) := rfl
theorem kd_1 : kd 1 = (0, 9) := rfl
theorem kd_2 : kd 2 = (2, 900) := rfl
theorem kd_3 : kd 3 = (0, 5) := rfl
theorem kd_4 : kd 4 = (0, 6) := rfl
theorem kd_5 : kd 5 = (1, 18) := rfl
theorem kd_6 : kd 6 = (1, 18) := rfl
theorem kd_7 : kd 7 = (1, 18) := rfl
theorem kd_8 : kd 8 = (1, 12) := rfl
theorem kd_9 : kd 9 = (1, 12) := rfl
theorem kd_10 : kd 10 = (0, 8) := rfl
theorem kd_11 : kd 11 = (1, 84) := rfl
theorem kd_12 : kd 12 = (1, 12) := rfl
theorem kd_13 : kd 13 = (1, 18) := rfl
theorem kd_14 : kd 14 = (1, 18) := rfl
theorem kd_15 : kd 15 = (1, 12) := rfl
theorem kd_16 : kd 16 = (1, 12) := rfl
theorem kd_17 : kd 17 = (1, 12) := rfl
theorem kd_18 : kd 18 = (1, 12) := rfl
theorem kd_19 : kd 19 = (1, 100) := rfl
theorem kd_20 : kd 20 = (0, 3) := rfl
theorem kd_21 : kd 21 = (1, 12) := rfl
theorem kd_22 : kd 22 = (1, 12) := rfl
theorem kd_23 : kd 23 = (1, 12) := rfl
theorem kd_24 : kd 24 = (0, 6) := rfl
theorem kd_25 : kd 25 = (1, 18) := rfl
theorem kd_26 : kd 26 = (1, 18) := rfl
theorem kd_27 : kd 27 = (1, 18) := rfl
theorem kd_28 : kd 28 = (1, 12) := rfl
theorem kd_29 : kd 29 = (1, 12) := rfl
theorem kd_30 : kd 30 = (0, 8) := rfl
theorem kd_31 : kd 31 = (1, 84) := rfl
theorem kd_32 : kd 32 = (1, 12) := rfl
theorem kd_33 : kd 33 = (1, 18) := rfl
theorem kd_34 : kd 34 = (1, 18) := rfl
theorem kd_35 : kd 35 = (1, 12) := rfl
theorem kd_36 : kd 36 = (1, 12) := rfl
theorem kd_37 : kd 37 = (1, 12) := rfl
theorem kd_38 : kd 38 = (1, 12) := rfl
theorem kd_39 : kd 39 = (1, 100) := rfl
theorem kd_40 : kd 40 = (0, 3) := rfl
theorem kd_41 : kd 41 = (1, 12) := rfl
theorem kd_42 : kd 42 = (1, 12) := rfl
theorem kd_43 : kd 43 = (1, 12) := rfl
theorem kd_44 : kd 44 = (0, 10) := rfl
theorem kd_45 : kd 45 = (0, 4) := rfl
theorem kd_46 : kd 46 = (1, 10) := rfl
theorem kd_47 : kd 47 = (1, 10) := rfl
theorem kd_48 : kd 48 = (0, 7) := rfl
theorem kd_49 : kd 49 = (1, 10) := rfl
theorem kd_50 : kd 50 = (0, 1) := rfl
theorem kd_51 : kd 51 = (0, 7) := rfl
theorem kd_52 : kd 52 = (1, 10) := rfl
theorem kd_53 : kd 53 = (1, 10) := rfl
theorem kd_54 : kd 54 = (1, 5120) := rfl
theorem kd_55 : kd 55 = (1, 5120) := rfl
theorem kd_56 : kd 56 = (0, 0) := rfl
theorem kd_57 : kd 57 = (0, 3) := rfl
theorem kd_58 : kd 58 = (1, 12) := rfl
theorem kd_59 : kd 59 = (1, 12) := rfl
theorem kd_60 : kd 60 = (1, 12) := rfl
theorem kd_61 : kd 61 = (0, 2) := rfl
theorem kd_62 : kd 62 = (4, 12) := rfl
theorem kd_63 : kd 63 = (0, 8) := rfl
theorem kd_64 : kd 64 = (1, 84) := rfl
theorem kd_65 : kd 65 = (1, 12) := rfl
theorem kd_66 : kd 66 = (1, 18) := rfl
theorem kd_67 : kd 67 = (1, 18) := rfl
theorem kd_68 : kd 68 = (1, 12) := rfl
theorem kd_69 : kd 69 = (1, 12) := rfl
theorem kd_70 : kd 70 = (1, 12) := rfl
theorem kd_71 : kd 71 = (1, 12) := rfl
theorem kd_72 : kd 72 = (1, 100) := rfl
theorem kd_73 : kd 73 = (0, 3) := rfl
theorem kd_74 : kd 74 = (1, 12) := rfl
theorem kd_75 : kd 75 = (1, 12) := rfl
theorem kd_76 : kd 76 = (1, 12) := rfl
theorem kd_77 : kd 77 = (0, 8) := rfl
theorem kd_78 : kd 78 = (1, 84) := rfl
theorem kd_79 : kd 79 = (1, 12) := rfl
theorem kd_80 : kd 80 = (1, 18) := rfl
theorem kd_81 : kd 81 = (1, 18) := rfl
theorem kd_82 : kd 82 = (1, 12) := rfl
theorem kd_83 : kd 83 = (1, 12) := rfl
theorem kd_84 : kd 84 = (1, 12) := rfl
theorem kd_85 : kd 85 = (1, 12) := rfl
theorem kd_86 : kd 86 = (1, 100) := rfl
theorem kd_87 : kd 87 = (0, 3) := rfl
theorem kd_88 : kd 88 = (1, 12) := rfl
theorem kd_89 : kd 89 = (1, 12) := rfl
theorem kd_90 : kd 90 = (1, 12) := rfl
theorem kd_91 : kd 91 = (0, 8) := rfl
theorem kd_92 : kd 92 = (1, 84) := rfl
theorem kd_93 : kd 93 = (1, 12) := rfl
theorem kd_94 : kd 94 = (1, 18) := rfl
theorem kd_95 : kd 95 = (1, 18) := rfl
theorem kd_96 : kd 96 = (1, 12) := rfl
theorem kd_97 : kd 97 = (1, 12) := rfl
theorem kd_98 : kd 98 = (1, 12) := rfl
theorem kd_99 : kd 99 = (1, 12) := rfl
theorem kd_100 : kd 100 = (1, 100) := rfl
theorem kd_101 : kd 101 = (0, 3) := rfl
theorem kd_102 : kd 102 = (1, 12) := rfl
theorem kd_103 : kd 103 = (1, 12) := rfl
theorem kd_104 : kd 104 = (1, 12) := rfl
theorem kd_105 : kd 105 = (0, 8) := rfl
theorem kd_106 : kd 106 = (1, 84) := rfl
theorem kd_107 : kd 107 = (1, 12) := rfl
theorem kd_108 : kd 108 = (1, 18) := rfl
theorem kd_109 : kd 109 = (1, 18) := rfl
theorem kd_110 : kd 110 = (1, 12) := rfl
theorem kd_111 : kd 111 = (1, 12) := rfl
theorem kd_112 : kd 112 = (1, 12) := rfl
theorem kd_113 : kd 113 = (1, 12) := rfl
theorem kd_114 : kd 114 = (1, 100) := rfl
theorem kd_115 : kd 115 = (0, 3) := rfl
theorem kd_116 : kd 116 = (1, 12) := rfl
theorem kd_117 : kd 117 = (1, 12) := rfl
theorem kd_118 : kd 118 = (1, 12) := rfl
theorem kd_119 : kd 119 = (0, 8) := rfl
theorem kd_120 : kd 120 = (1, 84) := rfl
theorem kd_121 : kd 121 = (1, 12) := rfl
theorem kd_122 : kd 122 = (1, 18) := rfl
theorem kd_123 : kd 123 = (1, 18) := rfl
theorem kd_124 : kd 124 = (1, 12) := rfl
theorem kd_125 : kd 125 = (1, 12) := rfl
theorem kd_126 : kd 126 = (1, 12) := rfl
theorem kd_127 : kd 127 = (1, 12) := rfl
theorem kd_128 : kd 128 = (1, 100) := rfl
theorem kd_129 : kd 129 = (0, 3) := rfl
theorem kd_130 : kd 130 = (1, 12) := rfl
theorem kd_131 : kd 131 = (1, 12) := rfl
theorem kd_132 : kd 132 = (1, 12) := rfl
theorem kd_133 : kd 133 = (0, 8) := rfl
theorem kd_134 : kd 134 = (1, 84) := rfl
theorem kd_135 : kd 135 = (1, 12) := rfl
theorem kd_136 : kd 136 = (1, 18) := rfl
theorem kd_137 : kd 137 = (1, 18) := rfl
theorem kd_138 : kd 138 = (1, 12) := rfl
theorem kd_139 : kd 139 = (1, 12) := rfl
theorem kd_140 : kd 140 = (1, 12) := rfl
theorem kd_141 : kd 141 = (1, 12) := rfl
theorem kd_142 : kd 142 = (1, 100) := rfl
theorem kd_143 : kd 143 = (0, 3) := rfl
theorem kd_144 : kd 144 = (1, 12) := rfl
theorem kd_145 : kd 145 = (1, 12) := rfl
theorem kd_146 : kd 146 = (1, 12) := rfl
theorem kd_147 : kd 147 = (0, 8) := rfl
theorem kd_148 : kd 148 = (1, 84) := rfl
theorem kd_149 : kd 149 = (1, 12) := rfl
theorem kd_150 : kd 150 = (1, 18) := rfl
theorem kd_151 : kd 151 = (1, 18) := rfl
theorem kd_152 : kd 152 = (1, 12) := rfl
theorem kd_153 : kd 153 = (1, 12) := rfl
theorem kd_154 : kd 154 = (1, 12) := rfl
theorem kd_155 : kd 155 = (1, 12) := rfl
theorem kd_156 : kd 156 = (1, 100) := rfl
theorem kd_157 : kd 157 = (0, 3) := rfl
theorem kd_158 : kd 158 = (1, 12) := rfl
theorem kd_159 : kd 159 = (1, 12) := rfl
theorem kd_160 : kd 160 = (1, 12) := rfl
theorem kd_161 : kd 161 = (0, 8) := rfl
theorem kd_162 : kd 162 = (1, 84) := rfl
theorem kd_163 : kd 163 = (1, 12) := rfl
theorem kd_164 : kd 164 = (1, 18) := rfl
theorem kd_165 : kd 165 = (1, 18) := rfl
theorem kd_166 : kd 166 = (1, 12) := rfl
theorem kd_167 : kd 167 = (1, 12) := rfl
theorem kd_168 : kd 168 = (1, 12) := rfl
theorem kd_169 : kd 169 = (1, 12) := rfl
theorem kd_170 : kd 170 = (1, 100) := rfl
theorem kd_171 : kd 171 = (0, 3) := rfl
theorem kd_172 : kd 172 = (1, 12) := rfl
theorem kd_173 : kd 173 = (1, 12) := rfl
theorem kd_174 : kd 174 = (1, 12) := rfl
theorem kd_175 : kd 175 = (0, 8) := rfl
theorem kd_176 : kd 176 = (1, 84) := rfl
theorem kd_177 : kd 177 = (1, 12) := rfl
theorem kd_178 : kd 178 = (1, 18) := rfl
theorem kd_179 : kd 179 = (1, 18) := rfl
theorem kd_180 : kd 180 = (1, 12) := rfl
theorem kd_181 : kd 181 = (1, 12) := rfl
theorem kd_182 : kd 182 = (1, 12) := rfl
theorem kd_183 : kd 183 = (1, 12) := rfl
theorem kd_184 : kd 184 = (1, 100) := rfl
theorem kd_185 : kd 185 = (0, 3) := rfl
theorem kd_186 : kd 186 = (1, 12) := rfl
theorem kd_187 : kd 187 = (1, 12) := rfl
theorem kd_188 : kd 188 = (1, 12) := rfl
theorem kd_189 : kd 189 = (0, 8) := rfl
theorem kd_190 : kd 190 = (1, 84) := rfl
theorem kd_191 : kd 191 = (1, 12) := rfl
theorem kd_192 : kd 192 = (1, 18) := rfl
theorem kd_193 : kd 193 = (1, 18) := rfl
theorem kd_194 : kd 194 = (1, 12) := rfl
theorem kd_195 : kd 195 = (1, 12) := rfl
theorem kd_196 : kd 196 = (1, 12) := rfl
theorem kd_197 : kd 197 = (1, 12) := rfl
theorem kd_198 : kd 198 = (1, 100) := rfl
theorem kd_199 : kd 199 = (0, 3) := rfl
theorem kd_200 : kd 200 = (1, 12) := rfl
theorem kd_201 : kd 201 = (1, 12) := rfl
theorem kd_202 : kd 202 = (1, 12) := rfl
theorem kd_203 : kd 203 = (0, 8) := rfl
theorem kd_204 : kd 204 = (1, 84) := rfl
theorem kd_205 : kd 205 = (1, 12) := rfl
theorem kd_206 : kd 206 = (1, 18) := rfl
theorem kd_207 : kd 207 = (1, 18) := rfl
theorem kd_208 : kd 208 = (1, 12) := rfl
theorem kd_209 : kd 209 = (1, 12) := rfl
theorem kd_210 : kd 210 = (1, 12) := rfl
theorem kd_211 : kd 211 = (1, 12) := rfl
theorem kd_212 : kd 212 = (1, 100) := rfl
theorem kd_213 : kd 213 = (0, 3) := rfl
theorem kd_214 : kd 214 = (1, 12) := rfl
theorem kd_215 : kd 215 = (1, 12) := rfl
theorem kd_216 : kd 216 = (1, 12) := rfl
theorem kd_217 : kd 217 = (0, 8) := rfl
theorem kd_218 : kd 218 = (1, 84) := rfl
theorem kd_219 : kd 219 = (1, 12) := rfl
theorem kd_220 : kd 220 = (1, 18) := rfl
theorem kd_221 : kd 221 = (1, 18) := rfl
theorem kd_222 : kd 222 = (1, 12) := rfl
theorem kd_223 : kd 223 = (1, 12) := rfl
theorem kd_224 : kd 224 = (1, 12) := rfl
theorem kd_225 : kd 225 = (1, 12) := rfl
theorem kd_226 : kd 226 = (1, 100) := rfl
theorem kd_227 : kd 227 = (0, 3) := rfl
theorem kd_228 : kd 228 = (1, 12) := rfl
theorem kd_229 : kd 229 = (1, 12) := rfl
theorem kd_230 : kd 230 = (1, 12) := rfl
theorem kd_231 : kd 231 = (4, 2) := rfl
theorem kd_232 : kd 232 = (0, 8) := rfl
theorem kd_233 : kd 233 = (1, 84) := rfl
theorem kd_234 : kd 234 = (1, 12) := rfl
theorem kd_235 : kd 235 = (1, 18) := rfl
theorem kd_236 : kd 236 = (1, 18) := rfl
theorem kd_237 : kd 237 = (1, 12) := rfl
theorem kd_238 : kd 238 = (1, 12) := rfl
theorem kd_239 : kd 239 = (1, 12) := rfl
theorem kd_240 : kd 240 = (1, 12) := rfl
theorem kd_241 : kd 241 = (1, 100) := rfl
theorem kd_242 : kd 242 = (0, 3) := rfl
theorem kd_243 : kd 243 = (1, 12) := rfl
theorem kd_244 : kd 244 = (1, 12) := rfl
theorem kd_245 : kd 245 = (1, 12) := rfl
theorem kd_246 : kd 246 = (0, 8) := rfl
theorem kd_247 : kd 247 = (1, 84) := rfl
theorem kd_248 : kd 248 = (1, 12) := rfl
theorem kd_249 : kd 249 = (1, 18) := rfl
theorem kd_250 : kd 250 = (1, 18) := rfl
theorem kd_251 : kd 251 = (1, 12) := rfl
theorem kd_252 : kd 252 = (1, 12) := rfl
theorem kd_253 : kd 253 = (1, 12) := rfl
theorem kd_254 : kd 254 = (1, 12) := rfl
theorem kd_255 : kd 255 = (1, 100) := rfl
theorem kd_256 : kd 256 = (0, 3) := rfl
theorem kd_257 : kd 257 = (1, 12) := rfl
theorem kd_258 : kd 258 = (1, 12) := rfl
theorem kd_259 : kd 259 = (1, 12) := rfl
theorem kd_260 : kd 260 = (3, 2) := rfl
theorem kd_261 : kd 261 = (0, 12) := rfl
theorem kd_262 : kd 262 = (2, 900) := rfl
theorem kd_263 : kd 263 = (1, 7) := rfl
theorem kd_264 : kd 264 = (1, 7) := rfl
theorem kd_265 : kd 265 = (1, 36) := rfl
theorem kd_266 : kd 266 = (1, 36) := rfl
theorem kd_267 : kd 267 = (1, 36) := rfl
theorem kd_268 : kd 268 = (1, 36) := rfl
theorem kd_269 : kd 269 = (1, 36) := rfl
theorem kd_270 : kd 270 = (1, 24) := rfl
theorem kd_271 : kd 271 = (1, 24) := rfl
theorem kd_272 : kd 272 = (1, 24) := rfl
theorem kd_273 : kd 273 = (1, 168) := rfl
theorem kd_274 : kd 274 = (1, 332) := rfl
theorem kd_275 : kd 275 = (1, 3984) := rfl
theorem kd_276 : kd 276 = (1, 664) := rfl
theorem kd_277 : kd 277 = (3, 2) := rfl
theorem kd_278 : kd 278 = (1, 10) := rfl
theorem kd_279 : kd 279 = (3, 10) := rfl
theorem kd_280 : kd 280 = (1, 10) := rfl
theorem kd_281 : kd 281 = (1, 10240) := rfl
theorem kd_282 : kd 282 = (1, 12) := rfl
theorem kd_283 : kd 283 = (1, 12) := rfl
theorem kd_284 : kd 284 = (1, 12) := rfl
theorem kd_285 : kd 285 = (1, 12) := rfl
theorem rf_0_0 : Rf0 0 0 = some 1 := rfl
theorem rf_0_1 : Rf0 0 1 = some 3 := rfl
theorem rf_0_2 : Rf0 0 2 = some 24 := rfl
theorem rf_0_3 : Rf0 0 3 = some 30 := rfl
theorem rf_0_4 : Rf0 0 4 = some 44 := rfl
theorem rf_0_5 : Rf0 0 5 = some 45 := rfl
theorem rf_0_6 : Rf0 0 6 = some 48 := rfl
theorem rf_0_7 : Rf0 0 7 = some 50 := rfl
theorem rf_0_8 : Rf0 0 8 = some 56 := rfl
theorem rf_0_9 : Rf0 0 9 = some 61 := rfl
theorem rf_0_10 : Rf0 0 10 = some 231 := rfl
theorem rf_0_11 : Rf0 0 11 = some 260 := rfl
theorem rf_1_0 : Rf0 1 0 = some 2 := rfl
theorem rf_3_0 : Rf0 3 0 = some 1 := rfl
theorem rf_3_1 : Rf0 3 1 = some 4 := rfl
theorem rf_3_2 : Rf0 3 2 = some 10 := rfl
theorem rf_4_7 : Rf0 4 7 = some 5 := rfl
theorem rf_4_8 : Rf0 4 8 = some 6 := rfl
theorem rf_4_9 : Rf0 4 9 = some 7 := rfl
theorem rf_4_10 : Rf0 4 10 = some 8 := rfl
theorem rf_4_11 : Rf0 4 11 = some 9 := rfl
theorem rf_10_2 : Rf0 10 2 = some 11 := rfl
theorem rf_10_3 : Rf0 10 3 = some 12 := rfl
theorem rf_10_4 : Rf0 10 4 = some 13 := rfl
theorem rf_10_5 : Rf0 10 5 = some 14 := rfl
theorem rf_10_6 : Rf0 10 6 = some 15 := rfl
theorem rf_10_7 : Rf0 10 7 = some 16 := rfl
theorem rf_10_8 : Rf0 10 8 = some 17 := rfl
theorem rf_10_9 : Rf0 10 9 = some 18 := rfl
theorem rf_10_10 : Rf0 10 10 = some 19 := rfl
theorem rf_10_11 : Rf0 10 11 = some 20 := rfl
theorem rf_20_3 : Rf0 20 3 = some 21 := rfl
theorem rf_20_4 : Rf0 20 4 = some 22 := rfl
theorem rf_20_5 : Rf0 20 5 = some 23 := rfl
theorem rf_24_7 : Rf0 24 7 = some 25 := rfl
theorem rf_24_8 : Rf0 24 8 = some 26 := rfl
theorem rf_24_9 : Rf0 24 9 = some 27 := rfl
theorem rf_24_10 : Rf0 24 10 = some 28 := rfl
theorem rf_24_11 : Rf0 24 11 = some 29 := rfl
theorem rf_30_2 : Rf0 30 2 = some 31 := rfl
theorem rf_30_3 : Rf0 30 3 = some 32 := rfl
theorem rf_30_4 : Rf0 30 4 = some 33 := rfl
theorem rf_30_5 : Rf0 30 5 = some 34 := rfl
theorem rf_30_6 : Rf0 30 6 = some 35 := rfl
theorem rf_30_7 : Rf0 30 7 = some 36 := rfl
theorem rf_30_8 : Rf0 30 8 = some 37 := rfl
theorem rf_30_9 : Rf0 30 9 = some 38 := rfl
theorem rf_30_10 : Rf0 30 10 = some 39 := rfl
theorem rf_30_11 : Rf0 30 11 = some 40 := rfl
theorem rf_40_3 : Rf0 40 3 = some 41 := rfl
theorem rf_40_4 : Rf0 40 4 = some 42 := rfl
theorem rf_40_5 : Rf0 40 5 = some 43 := rfl
theorem rf_44_0 : Rf0 44 0 = some 24 := rfl
theorem rf_44_1 : Rf0 44 1 = some 30 := rfl
theorem rf_45_0 : Rf0 45 0 = some 24 := rfl
theorem rf_45_1 : Rf0 45 1 = some 30 := rfl
theorem rf_45_2 : Rf0 45 2 = some 46 := rfl
theorem rf_45_3 : Rf0 45 3 = some 47 := rfl
theorem rf_48_0 : Rf0 48 0 = some 49 := rfl
theorem rf_50_0 : Rf0 50 0 = some 24 := rfl
theorem rf_50_1 : Rf0 50 1 = some 44 := rfl
theorem rf_50_2 : Rf0 50 2 = some 45 := rfl
theorem rf_50_3 : Rf0 50 3 = some 51 := rfl
theorem rf_50_4 : Rf0 50 4 = some 53 := rfl
theorem rf_50_5 : Rf0 50 5 = some 54 := rfl
theorem rf_50_6 : Rf0 50 6 = some 55 := rfl
theorem rf_51_0 : Rf0 51 0 = some 52 := rfl
theorem rf_56_0 : Rf0 56 0 = some 24 := rfl
theorem rf_56_1 : Rf0 56 1 = some 30 := rfl
theorem rf_56_2 : Rf0 56 2 = some 44 := rfl
theorem rf_56_3 : Rf0 56 3 = some 45 := rfl
theorem rf_56_4 : Rf0 56 4 = some 57 := rfl
theorem rf_57_3 : Rf0 57 3 = some 58 := rfl
theorem rf_57_4 : Rf0 57 4 = some 59 := rfl
theorem rf_57_5 : Rf0 57 5 = some 60 := rfl
theorem rf_61_0 : Rf0 61 0 = some 62 := rfl
theorem rf_63_2 : Rf0 63 2 = some 64 := rfl
theorem rf_63_3 : Rf0 63 3 = some 65 := rfl
theorem rf_63_4 : Rf0 63 4 = some 66 := rfl
theorem rf_63_5 : Rf0 63 5 = some 67 := rfl
theorem rf_63_6 : Rf0 63 6 = some 68 := rfl
theorem rf_63_7 : Rf0 63 7 = some 69 := rfl
theorem rf_63_8 : Rf0 63 8 = some 70 := rfl
theorem rf_63_9 : Rf0 63 9 = some 71 := rfl
theorem rf_63_10 : Rf0 63 10 = some 72 := rfl
theorem rf_63_11 : Rf0 63 11 = some 73 := rfl
theorem rf_73_3 : Rf0 73 3 = some 74 := rfl
theorem rf_73_4 : Rf0 73 4 = some 75 := rfl
theorem rf_73_5 : Rf0 73 5 = some 76 := rfl
theorem rf_77_2 : Rf0 77 2 = some 78 := rfl
theorem rf_77_3 : Rf0 77 3 = some 79 := rfl
theorem rf_77_4 : Rf0 77 4 = some 80 := rfl
theorem rf_77_5 : Rf0 77 5 = some 81 := rfl
theorem rf_77_6 : Rf0 77 6 = some 82 := rfl
theorem rf_77_7 : Rf0 77 7 = some 83 := rfl
theorem rf_77_8 : Rf0 77 8 = some 84 := rfl
theorem rf_77_9 : Rf0 77 9 = some 85 := rfl
theorem rf_77_10 : Rf0 77 10 = some 86 := rfl
theorem rf_77_11 : Rf0 77 11 = some 87 := rfl
theorem rf_87_3 : Rf0 87 3 = some 88 := rfl
theorem rf_87_4 : Rf0 87 4 = some 89 := rfl
theorem rf_87_5 : Rf0 87 5 = some 90 := rfl
theorem rf_91_2 : Rf0 91 2 = some 92 := rfl
theorem rf_91_3 : Rf0 91 3 = some 93 := rfl
theorem rf_91_4 : Rf0 91 4 = some 94 := rfl
theorem rf_91_5 : Rf0 91 5 = some 95 := rfl
theorem rf_91_6 : Rf0 91 6 = some 96 := rfl
theorem rf_91_7 : Rf0 91 7 = some 97 := rfl
theorem rf_91_8 : Rf0 91 8 = some 98 := rfl
theorem rf_91_9 : Rf0 91 9 = some 99 := rfl
theorem rf_91_10 : Rf0 91 10 = some 100 := rfl
theorem rf_91_11 : Rf0 91 11 = some 101 := rfl
theorem rf_101_3 : Rf0 101 3 = some 102 := rfl
theorem rf_101_4 : Rf0 101 4 = some 103 := rfl
theorem rf_101_5 : Rf0 101 5 = some 104 := rfl
theorem rf_105_2 : Rf0 105 2 = some 106 := rfl
theorem rf_105_3 : Rf0 105 3 = some 107 := rfl
theorem rf_105_4 : Rf0 105 4 = some 108 := rfl
theorem rf_105_5 : Rf0 105 5 = some 109 := rfl
theorem rf_105_6 : Rf0 105 6 = some 110 := rfl
theorem rf_105_7 : Rf0 105 7 = some 111 := rfl
theorem rf_105_8 : Rf0 105 8 = some 112 := rfl
theorem rf_105_9 : Rf0 105 9 = some 113 := rfl
theorem rf_105_10 : Rf0 105 10 = some 114 := rfl
theorem rf_105_11 : Rf0 105 11 = some 115 := rfl
theorem rf_115_3 : Rf0 115 3 = some 116 := rfl
theorem rf_115_4 : Rf0 115 4 = some 117 := rfl
theorem rf_115_5 : Rf0 115 5 = some 118 := rfl
theorem rf_119_2 : Rf0 119 2 = some 120 := rfl
theorem rf_119_3 : Rf0 119 3 = some 121 := rfl
theorem rf_119_4 : Rf0 119 4 = some 122 := rfl
theorem rf_119_5 : Rf0 119 5 = some 123 := rfl
theorem rf_119_6 : Rf0 119 6 = some 124 := rfl
theorem rf_119_7 : Rf0 119 7 = some 125 := rfl
theorem rf_119_8 : Rf0 119 8 = some 126 := rfl
theorem rf_119_9 : Rf0 119 9 = some 127 := rfl
theorem rf_119_10 : Rf0 119 10 = some 128 := rfl
theorem rf_119_11 : Rf0 119 11 = some 129 := rfl
theorem rf_129_3 : Rf0 129 3 = some 130 := rfl
theorem rf_129_4 : Rf0 129 4 = some 131 := rfl
theorem rf_129_5 : Rf0 129 5 = some 132 := rfl
theorem rf_133_2 : Rf0 133 2 = some 134 := rfl
theorem rf_133_3 : Rf0 133 3 = some 135 := rfl
theorem rf_133_4 : Rf0 133 4 = some 136 := rfl
theorem rf_133_5 : Rf0 133 5 = some 137 := rfl
theorem rf_133_6 : Rf0 133 6 = some 138 := rfl
theorem rf_133_7 : Rf0 133 7 = some 139 := rfl
theorem rf_133_8 : Rf0 133 8 = some 140 := rfl
theorem rf_133_9 : Rf0 133 9 = some 141 := rfl
theorem rf_133_10 : Rf0 133 10 = some 142 := rfl
theorem rf_133_11 : Rf0 133 11 = some 143 := rfl
theorem rf_143_3 : Rf0 143 3 = some 144 := rfl
theorem rf_143_4 : Rf0 143 4 = some 145 := rfl
theorem rf_143_5 : Rf0 143 5 = some 146 := rfl
theorem rf_147_2 : Rf0 147 2 = some 148 := rfl
theorem rf_147_3 : Rf0 147 3 = some 149 := rfl
theorem rf_147_4 : Rf0 147 4 = some 150 := rfl
theorem rf_147_5 : Rf0 147 5 = some 151 := rfl
theorem rf_147_6 : Rf0 147 6 = some 152 := rfl
theorem rf_147_7 : Rf0 147 7 = some 153 := rfl
theorem rf_147_8 : Rf0 147 8 = some 154 := rfl
theorem rf_147_9 : Rf0 147 9 = some 155 := rfl
theorem rf_147_10 : Rf0 147 10 = some 156 := rfl
theorem rf_147_11 : Rf0 147 11 = some 157 := rfl
theorem rf_157_3 : Rf0 157 3 = some 158 := rfl
theorem rf_157_4 : Rf0 157 4 = some 159 := rfl
theorem rf_157_5 : Rf0 157 5 = some 160 := rfl
theorem rf_161_2 : Rf0 161 2 = some 162 := rfl
theorem rf_161_3 : Rf0 161 3 = some 163 := rfl
theorem rf_161_4 : Rf0 161 4 = some 164 := rfl
theorem rf_161_5 : Rf0 161 5 = some 165 := rfl
theorem rf_161_6 : Rf0 161 6 = some 166 := rfl
theorem rf_161_7 : Rf0 161 7 = some 167 := rfl
theorem rf_161_8 : Rf0 161 8 = some 168 := rfl
theorem rf_161_9 : Rf0 161 9 = some 169 := rfl
theorem rf_161_10 : Rf0 161 10 = some 170 := rfl
theorem rf_161_11 : Rf0 161 11 = some 171 := rfl
theorem rf_171_3 : Rf0 171 3 = some 172 := rfl
theorem rf_171_4 : Rf0 171 4 = some 173 := rfl
theorem rf_171_5 : Rf0 171 5 = some 174 := rfl
theorem rf_175_2 : Rf0 175 2 = some 176 := rfl
theorem rf_175_3 : Rf0 175 3 = some 177 := rfl
theorem rf_175_4 : Rf0 175 4 = some 178 := rfl
theorem rf_175_5 : Rf0 175 5 = some 179 := rfl
theorem rf_175_6 : Rf0 175 6 = some 180 := rfl
theorem rf_175_7 : Rf0 175 7 = some 181 := rfl
theorem rf_175_8 : Rf0 175 8 = some 182 := rfl
theorem rf_175_9 : Rf0 175 9 = some 183 := rfl
theorem rf_175_10 : Rf0 175 10 = some 184 := rfl
theorem rf_175_11 : Rf0 175 11 = some 185 := rfl
theorem rf_185_3 : Rf0 185 3 = some 186 := rfl
theorem rf_185_4 : Rf0 185 4 = some 187 := rfl
theorem rf_185_5 : Rf0 185 5 = some 188 := rfl
theorem rf_189_2 : Rf0 189 2 = some 190 := rfl
theorem rf_189_3 : Rf0 189 3 = some 191 := rfl
theorem rf_189_4 : Rf0 189 4 = some 192 := rfl
theorem rf_189_5 : Rf0 189 5 = some 193 := rfl
theorem rf_189_6 : Rf0 189 6 = some 194 := rfl
theorem rf_189_7 : Rf0 189 7 = some 195 := rfl
theorem rf_189_8 : Rf0 189 8 = some 196 := rfl
theorem rf_189_9 : Rf0 189 9 = some 197 := rfl
theorem rf_189_10 : Rf0 189 10 = some 198 := rfl
theorem rf_189_11 : Rf0 189 11 = some 199 := rfl
theorem rf_199_3 : Rf0 199 3 = some 200 := rfl
theorem rf_199_4 : Rf0 199 4 = some 201 := rfl
theorem rf_199_5 : Rf0 199 5 = some 202 := rfl
theorem rf_203_2 : Rf0 203 2 = some 204 := rfl
theorem rf_203_3 : Rf0 203 3 = some 205 := rfl
theorem rf_203_4 : Rf0 203 4 = some 206 := rfl
theorem rf_203_5 : Rf0 203 5 = some 207 := rfl
theorem rf_203_6 : Rf0 203 6 = some 208 := rfl
theorem rf_203_7 : Rf0 203 7 = some 209 := rfl
theorem rf_203_8 : Rf0 203 8 = some 210 := rfl
theorem rf_203_9 : Rf0 203 9 = some 211 := rfl
theorem rf_203_10 : Rf0 203 10 = some 212 := rfl
theorem rf_203_11 : Rf0 203 11 = some 213 := rfl
theorem rf_213_3 : Rf0 213 3 = some 214 := rfl
theorem rf_213_4 : Rf0 213 4 = some 215 := rfl
theorem rf_213_5 : Rf0 213 5 = some 216 := rfl
theorem rf_217_2 : Rf0 217 2 = some 218 := rfl
theorem rf_217_3 : Rf0 217 3 = some 219 := rfl
theorem rf_217_4 : Rf0 217 4 = some 220 := rfl
theorem rf_217_5 : Rf0 217 5 = some 221 := rfl
theorem rf_217_6 : Rf0 217 6 = some 222 := rfl
theorem rf_217_7 : Rf0 217 7 = some 223 := rfl
theorem rf_217_8 : Rf0 217 8 = some 224 := rfl
theorem rf_217_9 : Rf0 217 9 = some 225 := rfl
theorem rf_217_10 : Rf0 217 10 = some 226 := rfl
theorem rf_217_11 : Rf0 217 11 = some 227 := rfl
theorem rf_227_3 : Rf0 227 3 = some 228 := rfl
theorem rf_227_4 : Rf0 227 4 = some 229 := rfl
theorem rf_227_5 : Rf0 227 5 = some 230 := rfl
theorem rf_232_2 : Rf0 232 2 = some 233 := rfl
theorem rf_232_3 : Rf0 232 3 = some 234 := rfl
theorem rf_232_4 : Rf0 232 4 = some 235 := rfl
theorem rf_232_5 : Rf0 232 5 = some 236 := rfl
theorem rf_232_6 : Rf0 232 6 = some 237 := rfl
theorem rf_232_7 : Rf0 232 7 = some 238 := rfl
theorem rf_232_8 : Rf0 232 8 = some 239 := rfl
theorem rf_232_9 : Rf0 232 9 = some 240 := rfl
theorem rf_232_10 : Rf0 232 10 = some 241 := rfl
theorem rf_232_11 : Rf0 232 11 = some 242 := rfl
theorem rf_242_3 : Rf0 242 3 = some 243 := rfl
theorem rf_242_4 : Rf0 242 4 = some 244 := rfl
theorem rf_242_5 : Rf0 242 5 = some 245 := rfl
theorem rf_246_2 : Rf0 246 2 = some 247 := rfl
theorem rf_246_3 : Rf0 246 3 = some 248 := rfl
theorem rf_246_4 : Rf0 246 4 = some 249 := rfl
theorem rf_246_5 : Rf0 246 5 = some 250 := rfl
theorem rf_246_6 : Rf0 246 6 = some 251 := rfl
theorem rf_246_7 : Rf0 246 7 = some 252 := rfl
theorem rf_246_8 : Rf0 246 8 = some 253 := rfl
theorem rf_246_9 : Rf0 246 9 = some 254 := rfl
theorem rf_246_10 : Rf0 246 10 = some 255 := rfl
theorem rf_246_11 : Rf0 246 11 = some 256 := rfl
theorem rf_256_3 : Rf0 256 3 = some 257 := rfl
theorem rf_256_4 : Rf0 256 4 = some 258 := rfl
theorem rf_256_5 : Rf0 256 5 = some 259 := rfl
theorem rf_261_1 : Rf0 261 1 = some 262 := rfl
theorem rf_261_10 : Rf0 261 10 = some 263 := rfl
theorem rf_261_11 : Rf0 261 11 = some 264 := rfl
theorem rf_261_12 : Rf0 261 12 = some 265 := rfl
theorem rf_261_13 : Rf0 261 13 = some 266 := rfl
theorem rf_261_14 : Rf0 261 14 = some 267 := rfl
theorem rf_261_15 : Rf0 261 15 = some 268 := rfl
theorem rf_261_16 : Rf0 261 16 = some 269 := rfl
theorem rf_261_17 : Rf0 261 17 = some 270 := rfl
theorem rf_261_18 : Rf0 261 18 = some 271 := rfl
theorem rf_261_19 : Rf0 261 19 = some 272 := rfl
theorem rf_261_20 : Rf0 261 20 = some 273 := rfl
theorem rf_261_22 : Rf0 261 22 = some 274 := rfl
theorem rf_261_23 : Rf0 261 23 = some 275 := rfl
theorem rf_261_25 : Rf0 261 25 = some 276 := rfl
theorem rf_261_26 : Rf0 261 26 = some 277 := rfl
theorem rf_261_27 : Rf0 261 27 = some 278 := rfl
theorem rf_261_28 : Rf0 261 28 = some 279 := rfl
theorem rf_261_29 : Rf0 261 29 = some 280 := rfl
theorem rf_261_31 : Rf0 261 31 = some 281 := rfl
theorem rf_261_41 : Rf0 261 41 = some 282 := rfl
theorem rf_261_42 : Rf0 261 42 = some 283 := rfl
theorem rf_261_43 : Rf0 261 43 = some 284 := rfl
theorem rf_261_44 : Rf0 261 44 = some 285 := rfl
theorem fl_9_9 : Cond.fieldLink RX9 9 (TX9 0).1 (TX9 0).2.1 (TX9 0).2.2.1 ∈ tbl := tb_in 86 (by decide +kernel) rfl
theorem fl_11_97 : Cond.fieldLink RX11 97 (TX9 1).1 (TX9 1).2.1 (TX9 1).2.2.1 ∈ tbl := tb_in 87 (by decide +kernel) rfl
theorem fl_9_15 : Cond.fieldLink RX9 15 (TX9 1).1 (TX9 1).2.1 (TX9 1).2.2.1 ∈ tbl := tb_in 88 (by decide +kernel) rfl
theorem fl_9_25 : Cond.fieldLink RX9 25 (TX9 2).1 (TX9 2).2.1 (TX9 2).2.2.1 ∈ tbl := tb_in 89 (by decide +kernel) rfl
theorem fl_5_96 : Cond.fieldLink RX5 96 (TX9 3).1 (TX9 3).2.1 (TX9 3).2.2.1 ∈ tbl := tb_in 90 (by decide +kernel) rfl
theorem fl_9_34 : Cond.fieldLink RX9 34 (TX9 3).1 (TX9 3).2.1 (TX9 3).2.2.1 ∈ tbl := tb_in 91 (by decide +kernel) rfl
theorem fl_9_28 : Cond.fieldLink RX9 28 (TX9 4).1 (TX9 4).2.1 (TX9 4).2.2.1 ∈ tbl := tb_in 92 (by decide +kernel) rfl
theorem fl_5_45 : Cond.fieldLink RX5 45 (TX9 5).1 (TX9 5).2.1 (TX9 5).2.2.1 ∈ tbl := tb_in 93 (by decide +kernel) rfl
theorem fl_9_41 : Cond.fieldLink RX9 41 (TX9 5).1 (TX9 5).2.1 (TX9 5).2.2.1 ∈ tbl := tb_in 94 (by decide +kernel) rfl
theorem ml_11_20 : Cond.methodLink RX11 20 yX5_init ∈ tbl := tb_in 111 (by decide +kernel) rfl
theorem ml_5_11 : Cond.methodLink RX5 11 yX6_init ∈ tbl := tb_in 117 (by decide +kernel) rfl
theorem ml_6_27 : Cond.methodLink RX6 27 yX6_clear ∈ tbl := tb_in 121 (by decide +kernel) rfl
theorem fl_6_30 : Cond.fieldLink RX6 30 (TX6 0).1 (TX6 0).2.1 (TX6 0).2.2.1 ∈ tbl := tb_in 125 (by decide +kernel) rfl
theorem fl_11_132 : Cond.fieldLink RX11 132 (TX6 0).1 (TX6 0).2.1 (TX6 0).2.2.1 ∈ tbl := tb_in 126 (by decide +kernel) rfl
theorem fl_5_107 : Cond.fieldLink RX5 107 (TX6 0).1 (TX6 0).2.1 (TX6 0).2.2.1 ∈ tbl := tb_in 127 (by decide +kernel) rfl
theorem fl_1_111 : Cond.fieldLink RX1 111 (TX6 0).1 (TX6 0).2.1 (TX6 0).2.2.1 ∈ tbl := tb_in 128 (by decide +kernel) rfl
theorem fl_6_34 : Cond.fieldLink RX6 34 (TX6 1).1 (TX6 1).2.1 (TX6 1).2.2.1 ∈ tbl := tb_in 129 (by decide +kernel) rfl
theorem fl_4_37 : Cond.fieldLink RX4 37 (TX6 1).1 (TX6 1).2.1 (TX6 1).2.2.1 ∈ tbl := tb_in 130 (by decide +kernel) rfl
theorem fl_5_101 : Cond.fieldLink RX5 101 (TX6 1).1 (TX6 1).2.1 (TX6 1).2.2.1 ∈ tbl := tb_in 131 (by decide +kernel) rfl
theorem fl_11_135 : Cond.fieldLink RX11 135 (TX6 1).1 (TX6 1).2.1 (TX6 1).2.2.1 ∈ tbl := tb_in 132 (by decide +kernel) rfl
theorem fl_6_37 : Cond.fieldLink RX6 37 (TX6 2).1 (TX6 2).2.1 (TX6 2).2.2.1 ∈ tbl := tb_in 133 (by decide +kernel) rfl
theorem fl_10_33 : Cond.fieldLink RX10 33 (TX6 2).1 (TX6 2).2.1 (TX6 2).2.2.1 ∈ tbl := tb_in 134 (by decide +kernel) rfl
theorem fl_11_129 : Cond.fieldLink RX11 129 (TX6 2).1 (TX6 2).2.1 (TX6 2).2.2.1 ∈ tbl := tb_in 135 (by decide +kernel) rfl
theorem fl_0_108 : Cond.fieldLink RX0 108 (TX6 2).1 (TX6 2).2.1 (TX6 2).2.2.1 ∈ tbl := tb_in 136 (by decide +kernel) rfl
theorem fl_5_104 : Cond.fieldLink RX5 104 (TX6 2).1 (TX6 2).2.1 (TX6 2).2.2.1 ∈ tbl := tb_in 137 (by decide +kernel) rfl
theorem fl_1_87 : Cond.fieldLink RX1 87 (TX6 2).1 (TX6 2).2.1 (TX6 2).2.2.1 ∈ tbl := tb_in 138 (by decide +kernel) rfl
theorem fl_6_40 : Cond.fieldLink RX6 40 (TX6 3).1 (TX6 3).2.1 (TX6 3).2.2.1 ∈ tbl := tb_in 139 (by decide +kernel) rfl
theorem fl_0_58 : Cond.fieldLink RX0 58 (TX6 3).1 (TX6 3).2.1 (TX6 3).2.2.1 ∈ tbl := tb_in 140 (by decide +kernel) rfl
theorem fl_1_58 : Cond.fieldLink RX1 58 (TX6 3).1 (TX6 3).2.1 (TX6 3).2.2.1 ∈ tbl := tb_in 141 (by decide +kernel) rfl
theorem fl_5_72 : Cond.fieldLink RX5 72 (TX6 3).1 (TX6 3).2.1 (TX6 3).2.2.1 ∈ tbl := tb_in 142 (by decide +kernel) rfl
theorem fl_11_138 : Cond.fieldLink RX11 138 (TX6 3).1 (TX6 3).2.1 (TX6 3).2.2.1 ∈ tbl := tb_in 143 (by decide +kernel) rfl
theorem fl_0_41 : Cond.fieldLink RX0 41 (TX6 4).1 (TX6 4).2.1 (TX6 4).2.2.1 ∈ tbl := tb_in 144 (by decide +kernel) rfl
theorem fl_6_43 : Cond.fieldLink RX6 43 (TX6 4).1 (TX6 4).2.1 (TX6 4).2.2.1 ∈ tbl := tb_in 145 (by decide +kernel) rfl
theorem fl_5_77 : Cond.fieldLink RX5 77 (TX6 4).1 (TX6 4).2.1 (TX6 4).2.2.1 ∈ tbl := tb_in 146 (by decide +kernel) rfl
theorem fl_1_104 : Cond.fieldLink RX1 104 (TX6 4).1 (TX6 4).2.1 (TX6 4).2.2.1 ∈ tbl := tb_in 147 (by decide +kernel) rfl
theorem fl_11_298 : Cond.fieldLink RX11 298 (TX6 4).1 (TX6 4).2.1 (TX6 4).2.2.1 ∈ tbl := tb_in 148 (by decide +kernel) rfl
theorem fl_6_46 : Cond.fieldLink RX6 46 (TX6 5).1 (TX6 5).2.1 (TX6 5).2.2.1 ∈ tbl := tb_in 149 (by decide +kernel) rfl
theorem fl_5_81 : Cond.fieldLink RX5 81 (TX6 5).1 (TX6 5).2.1 (TX6 5).2.2.1 ∈ tbl := tb_in 150 (by decide +kernel) rfl
theorem fl_11_231 : Cond.fieldLink RX11 231 (TX6 5).1 (TX6 5).2.1 (TX6 5).2.2.1 ∈ tbl := tb_in 151 (by decide +kernel) rfl
theorem fl_6_49 : Cond.fieldLink RX6 49 (TX6 6).1 (TX6 6).2.1 (TX6 6).2.2.1 ∈ tbl := tb_in 152 (by decide +kernel) rfl
theorem fl_5_83 : Cond.fieldLink RX5 83 (TX6 6).1 (TX6 6).2.1 (TX6 6).2.2.1 ∈ tbl := tb_in 153 (by decide +kernel) rfl
theorem fl_11_234 : Cond.fieldLink RX11 234 (TX6 6).1 (TX6 6).2.1 (TX6 6).2.2.1 ∈ tbl := tb_in 154 (by decide +kernel) rfl
theorem fl_6_9 : Cond.fieldLink RX6 9 (TX6 7).1 (TX6 7).2.1 (TX6 7).2.2.1 ∈ tbl := tb_in 155 (by decide +kernel) rfl
theorem fl_4_43 : Cond.fieldLink RX4 43 (TX6 7).1 (TX6 7).2.1 (TX6 7).2.2.1 ∈ tbl := tb_in 156 (by decide +kernel) rfl
theorem fl_5_117 : Cond.fieldLink RX5 117 (TX6 7).1 (TX6 7).2.1 (TX6 7).2.2.1 ∈ tbl := tb_in 157 (by decide +kernel) rfl
theorem fl_6_15 : Cond.fieldLink RX6 15 (TX6 8).1 (TX6 8).2.1 (TX6 8).2.2.1 ∈ tbl := tb_in 158 (by decide +kernel) rfl
theorem fl_4_46 : Cond.fieldLink RX4 46 (TX6 8).1 (TX6 8).2.1 (TX6 8).2.2.1 ∈ tbl := tb_in 159 (by decide +kernel) rfl
theorem fl_5_121 : Cond.fieldLink RX5 121 (TX6 8).1 (TX6 8).2.1 (TX6 8).2.2.1 ∈ tbl := tb_in 160 (by decide +kernel) rfl
theorem fl_6_18 : Cond.fieldLink RX6 18 (TX6 9).1 (TX6 9).2.1 (TX6 9).2.2.1 ∈ tbl := tb_in 161 (by decide +kernel) rfl
theorem fl_4_64 : Cond.fieldLink RX4 64 (TX6 9).1 (TX6 9).2.1 (TX6 9).2.2.1 ∈ tbl := tb_in 162 (by decide +kernel) rfl
theorem fl_5_124 : Cond.fieldLink RX5 124 (TX6 9).1 (TX6 9).2.1 (TX6 9).2.2.1 ∈ tbl := tb_in 163 (by decide +kernel) rfl
theorem fl_6_21 : Cond.fieldLink RX6 21 (TX6 10).1 (TX6 10).2.1 (TX6 10).2.2.1 ∈ tbl := tb_in 164 (by decide +kernel) rfl
theorem fl_10_38 : Cond.fieldLink RX10 38 (TX6 10).1 (TX6 10).2.1 (TX6 10).2.2.1 ∈ tbl := tb_in 165 (by decide +kernel) rfl
theorem fl_0_114 : Cond.fieldLink RX0 114 (TX6 10).1 (TX6 10).2.1 (TX6 10).2.2.1 ∈ tbl := tb_in 166 (by decide +kernel) rfl
theorem fl_1_94 : Cond.fieldLink RX1 94 (TX6 10).1 (TX6 10).2.1 (TX6 10).2.2.1 ∈ tbl := tb_in 167 (by decide +kernel) rfl
theorem fl_5_138 : Cond.fieldLink RX5 138 (TX6 10).1 (TX6 10).2.1 (TX6 10).2.2.1 ∈ tbl := tb_in 168 (by decide +kernel) rfl
theorem fl_11_148 : Cond.fieldLink RX11 148 (TX6 10).1 (TX6 10).2.1 (TX6 10).2.2.1 ∈ tbl := tb_in 169 (by decide +kernel) rfl
theorem fl_6_24 : Cond.fieldLink RX6 24 (TX6 11).1 (TX6 11).2.1 (TX6 11).2.2.1 ∈ tbl := tb_in 170 (by decide +kernel) rfl
theorem fl_10_45 : Cond.fieldLink RX10 45 (TX6 11).1 (TX6 11).2.1 (TX6 11).2.2.1 ∈ tbl := tb_in 171 (by decide +kernel) rfl
theorem fl_5_141 : Cond.fieldLink RX5 141 (TX6 11).1 (TX6 11).2.1 (TX6 11).2.2.1 ∈ tbl := tb_in 172 (by decide +kernel) rfl
theorem ml_8_41 : Cond.methodLink RX8 41 yX3_init ∈ tbl := tb_in 207 (by decide +kernel) rfl
theorem ml_3_21 : Cond.methodLink RX3 21 yX3_clear ∈ tbl := tb_in 211 (by decide +kernel) rfl
theorem fl_3_24 : Cond.fieldLink RX3 24 (TX3 0).1 (TX3 0).2.1 (TX3 0).2.2.1 ∈ tbl := tb_in 215 (by decide +kernel) rfl
theorem fl_0_98 : Cond.fieldLink RX0 98 (TX3 0).1 (TX3 0).2.1 (TX3 0).2.2.1 ∈ tbl := tb_in 216 (by decide +kernel) rfl
theorem fl_11_216 : Cond.fieldLink RX11 216 (TX3 0).1 (TX3 0).2.1 (TX3 0).2.2.1 ∈ tbl := tb_in 217 (by decide +kernel) rfl
theorem fl_3_28 : Cond.fieldLink RX3 28 (TX3 1).1 (TX3 1).2.1 (TX3 1).2.2.1 ∈ tbl := tb_in 218 (by decide +kernel) rfl
theorem fl_11_238 : Cond.fieldLink RX11 238 (TX3 1).1 (TX3 1).2.1 (TX3 1).2.2.1 ∈ tbl := tb_in 219 (by decide +kernel) rfl
theorem fl_3_31 : Cond.fieldLink RX3 31 (TX3 2).1 (TX3 2).2.1 (TX3 2).2.2.1 ∈ tbl := tb_in 220 (by decide +kernel) rfl
theorem fl_0_124 : Cond.fieldLink RX0 124 (TX3 2).1 (TX3 2).2.1 (TX3 2).2.2.1 ∈ tbl := tb_in 221 (by decide +kernel) rfl
theorem fl_11_251 : Cond.fieldLink RX11 251 (TX3 2).1 (TX3 2).2.1 (TX3 2).2.2.1 ∈ tbl := tb_in 222 (by decide +kernel) rfl
theorem fl_3_9 : Cond.fieldLink RX3 9 (TX3 3).1 (TX3 3).2.1 (TX3 3).2.2.1 ∈ tbl := tb_in 223 (by decide +kernel) rfl
theorem fl_11_244 : Cond.fieldLink RX11 244 (TX3 3).1 (TX3 3).2.1 (TX3 3).2.2.1 ∈ tbl := tb_in 224 (by decide +kernel) rfl
theorem fl_3_15 : Cond.fieldLink RX3 15 (TX3 4).1 (TX3 4).2.1 (TX3 4).2.2.1 ∈ tbl := tb_in 225 (by decide +kernel) rfl
theorem fl_11_247 : Cond.fieldLink RX11 247 (TX3 4).1 (TX3 4).2.1 (TX3 4).2.2.1 ∈ tbl := tb_in 226 (by decide +kernel) rfl
theorem fl_3_18 : Cond.fieldLink RX3 18 (TX3 5).1 (TX3 5).2.1 (TX3 5).2.2.1 ∈ tbl := tb_in 227 (by decide +kernel) rfl
theorem fl_11_250 : Cond.fieldLink RX11 250 (TX3 5).1 (TX3 5).2.1 (TX3 5).2.2.1 ∈ tbl := tb_in 228 (by decide +kernel) rfl
theorem fl_10_29 : Cond.fieldLink RX10 29 (TX8 0).1 (TX8 0).2.1 (TX8 0).2.2.1 ∈ tbl := tb_in 242 (by decide +kernel) rfl
theorem fl_8_50 : Cond.fieldLink RX8 50 (TX8 0).1 (TX8 0).2.1 (TX8 0).2.2.1 ∈ tbl := tb_in 243 (by decide +kernel) rfl
theorem fl_11_141 : Cond.fieldLink RX11 141 (TX8 0).1 (TX8 0).2.1 (TX8 0).2.2.1 ∈ tbl := tb_in 244 (by decide +kernel) rfl
theorem fl_8_46 : Cond.fieldLink RX8 46 (TX8 1).1 (TX8 1).2.1 (TX8 1).2.2.1 ∈ tbl := tb_in 245 (by decide +kernel) rfl
theorem fl_11_266 : Cond.fieldLink RX11 266 (TX8 1).1 (TX8 1).2.1 (TX8 1).2.2.1 ∈ tbl := tb_in 246 (by decide +kernel) rfl
theorem fl_8_9 : Cond.fieldLink RX8 9 (TX8 2).1 (TX8 2).2.1 (TX8 2).2.2.1 ∈ tbl := tb_in 247 (by decide +kernel) rfl
theorem fl_10_25 : Cond.fieldLink RX10 25 (TX8 2).1 (TX8 2).2.1 (TX8 2).2.2.1 ∈ tbl := tb_in 248 (by decide +kernel) rfl
theorem fl_5_147 : Cond.fieldLink RX5 147 (TX8 2).1 (TX8 2).2.1 (TX8 2).2.2.1 ∈ tbl := tb_in 249 (by decide +kernel) rfl
theorem fl_11_155 : Cond.fieldLink RX11 155 (TX8 2).1 (TX8 2).2.1 (TX8 2).2.2.1 ∈ tbl := tb_in 250 (by decide +kernel) rfl
theorem fl_8_15 : Cond.fieldLink RX8 15 (TX8 3).1 (TX8 3).2.1 (TX8 3).2.2.1 ∈ tbl := tb_in 251 (by decide +kernel) rfl
theorem fl_0_135 : Cond.fieldLink RX0 135 (TX8 3).1 (TX8 3).2.1 (TX8 3).2.2.1 ∈ tbl := tb_in 252 (by decide +kernel) rfl
theorem fl_5_144 : Cond.fieldLink RX5 144 (TX8 3).1 (TX8 3).2.1 (TX8 3).2.2.1 ∈ tbl := tb_in 253 (by decide +kernel) rfl
theorem fl_11_272 : Cond.fieldLink RX11 272 (TX8 3).1 (TX8 3).2.1 (TX8 3).2.2.1 ∈ tbl := tb_in 254 (by decide +kernel) rfl
theorem fl_8_18 : Cond.fieldLink RX8 18 (TX8 4).1 (TX8 4).2.1 (TX8 4).2.2.1 ∈ tbl := tb_in 255 (by decide +kernel) rfl
theorem fl_4_61 : Cond.fieldLink RX4 61 (TX8 4).1 (TX8 4).2.1 (TX8 4).2.2.1 ∈ tbl := tb_in 256 (by decide +kernel) rfl
theorem fl_5_130 : Cond.fieldLink RX5 130 (TX8 4).1 (TX8 4).2.1 (TX8 4).2.2.1 ∈ tbl := tb_in 257 (by decide +kernel) rfl
theorem fl_11_164 : Cond.fieldLink RX11 164 (TX8 4).1 (TX8 4).2.1 (TX8 4).2.2.1 ∈ tbl := tb_in 258 (by decide +kernel) rfl
theorem fl_8_21 : Cond.fieldLink RX8 21 (TX8 5).1 (TX8 5).2.1 (TX8 5).2.2.1 ∈ tbl := tb_in 259 (by decide +kernel) rfl
theorem fl_4_56 : Cond.fieldLink RX4 56 (TX8 5).1 (TX8 5).2.1 (TX8 5).2.2.1 ∈ tbl := tb_in 260 (by decide +kernel) rfl
theorem fl_5_133 : Cond.fieldLink RX5 133 (TX8 5).1 (TX8 5).2.1 (TX8 5).2.2.1 ∈ tbl := tb_in 261 (by decide +kernel) rfl
theorem fl_11_161 : Cond.fieldLink RX11 161 (TX8 5).1 (TX8 5).2.1 (TX8 5).2.2.1 ∈ tbl := tb_in 262 (by decide +kernel) rfl
theorem fl_8_24 : Cond.fieldLink RX8 24 (TX8 6).1 (TX8 6).2.1 (TX8 6).2.2.1 ∈ tbl := tb_in 263 (by decide +kernel) rfl
theorem fl_0_130 : Cond.fieldLink RX0 130 (TX8 6).1 (TX8 6).2.1 (TX8 6).2.2.1 ∈ tbl := tb_in 264 (by decide +kernel) rfl
theorem fl_11_219 : Cond.fieldLink RX11 219 (TX8 6).1 (TX8 6).2.1 (TX8 6).2.2.1 ∈ tbl := tb_in 265 (by decide +kernel) rfl
theorem fl_8_27 : Cond.fieldLink RX8 27 (TX8 7).1 (TX8 7).2.1 (TX8 7).2.2.1 ∈ tbl := tb_in 266 (by decide +kernel) rfl
theorem fl_11_222 : Cond.fieldLink RX11 222 (TX8 7).1 (TX8 7).2.1 (TX8 7).2.2.1 ∈ tbl := tb_in 267 (by decide +kernel) rfl
theorem fl_8_30 : Cond.fieldLink RX8 30 (TX8 8).1 (TX8 8).2.1 (TX8 8).2.2.1 ∈ tbl := tb_in 268 (by decide +kernel) rfl
theorem fl_11_225 : Cond.fieldLink RX11 225 (TX8 8).1 (TX8 8).2.1 (TX8 8).2.2.1 ∈ tbl := tb_in 269 (by decide +kernel) rfl
theorem fl_8_33 : Cond.fieldLink RX8 33 (TX8 9).1 (TX8 9).2.1 (TX8 9).2.2.1 ∈ tbl := tb_in 270 (by decide +kernel) rfl
theorem fl_11_228 : Cond.fieldLink RX11 228 (TX8 9).1 (TX8 9).2.1 (TX8 9).2.2.1 ∈ tbl := tb_in 271 (by decide +kernel) rfl
theorem fl_8_36 : Cond.fieldLink RX8 36 (TX8 10).1 (TX8 10).2.1 (TX8 10).2.2.1 ∈ tbl := tb_in 272 (by decide +kernel) rfl
theorem fl_11_186 : Cond.fieldLink RX11 186 (TX8 10).1 (TX8 10).2.1 (TX8 10).2.2.1 ∈ tbl := tb_in 273 (by decide +kernel) rfl
theorem fl_8_42 : Cond.fieldLink RX8 42 (TX8 11).1 (TX8 11).2.1 (TX8 11).2.2.1 ∈ tbl := tb_in 274 (by decide +kernel) rfl
theorem fl_11_237 : Cond.fieldLink RX11 237 (TX8 11).1 (TX8 11).2.1 (TX8 11).2.2.1 ∈ tbl := tb_in 275 (by decide +kernel) rfl
theorem fl_5_25 : Cond.fieldLink RX5 25 (TX5 0).1 (TX5 0).2.1 (TX5 0).2.2.1 ∈ tbl := tb_in 301 (by decide +kernel) rfl
theorem fl_5_12 : Cond.fieldLink RX5 12 (TX5 1).1 (TX5 1).2.1 (TX5 1).2.2.1 ∈ tbl := tb_in 302 (by decide +kernel) rfl
theorem fl_11_111 : Cond.fieldLink RX11 111 (TX5 1).1 (TX5 1).2.1 (TX5 1).2.2.1 ∈ tbl := tb_in 303 (by decide +kernel) rfl
theorem fl_5_21 : Cond.fieldLink RX5 21 (TX5 2).1 (TX5 2).2.1 (TX5 2).2.2.1 ∈ tbl := tb_in 304 (by decide +kernel) rfl
theorem fl_11_116 : Cond.fieldLink RX11 116 (TX5 2).1 (TX5 2).2.1 (TX5 2).2.2.1 ∈ tbl := tb_in 305 (by decide +kernel) rfl
theorem fl_5_32 : Cond.fieldLink RX5 32 (TX5 3).1 (TX5 3).2.1 (TX5 3).2.2.1 ∈ tbl := tb_in 306 (by decide +kernel) rfl
theorem fl_5_36 : Cond.fieldLink RX5 36 (TX5 4).1 (TX5 4).2.1 (TX5 4).2.2.1 ∈ tbl := tb_in 307 (by decide +kernel) rfl
theorem fl_11_108 : Cond.fieldLink RX11 108 (TX5 4).1 (TX5 4).2.1 (TX5 4).2.2.1 ∈ tbl := tb_in 308 (by decide +kernel) rfl
theorem ml_11_29 : Cond.methodLink RX11 29 yX6_init ∈ tbl := tb_in 321 (by decide +kernel) rfl
theorem ml_11_43 : Cond.methodLink RX11 43 yX10_init ∈ tbl := tb_in 326 (by decide +kernel) rfl
theorem fl_10_9 : Cond.fieldLink RX10 9 (TX10 0).1 (TX10 0).2.1 (TX10 0).2.2.1 ∈ tbl := tb_in 330 (by decide +kernel) rfl
theorem fl_10_15 : Cond.fieldLink RX10 15 (TX10 1).1 (TX10 1).2.1 (TX10 1).2.2.1 ∈ tbl := tb_in 331 (by decide +kernel) rfl
theorem ml_11_52 : Cond.methodLink RX11 52 yX4_init ∈ tbl := tb_in 339 (by decide +kernel) rfl
theorem fl_4_18 : Cond.fieldLink RX4 18 (TX4 0).1 (TX4 0).2.1 (TX4 0).2.2.1 ∈ tbl := tb_in 343 (by decide +kernel) rfl
theorem fl_4_22 : Cond.fieldLink RX4 22 (TX4 1).1 (TX4 1).2.1 (TX4 1).2.2.1 ∈ tbl := tb_in 344 (by decide +kernel) rfl
theorem fl_4_9 : Cond.fieldLink RX4 9 (TX4 2).1 (TX4 2).2.1 (TX4 2).2.2.1 ∈ tbl := tb_in 345 (by decide +kernel) rfl
theorem fl_4_15 : Cond.fieldLink RX4 15 (TX4 3).1 (TX4 3).2.1 (TX4 3).2.2.1 ∈ tbl := tb_in 346 (by decide +kernel) rfl
theorem fl_7_9 : Cond.fieldLink RX7 9 (TX7 0).1 (TX7 0).2.1 (TX7 0).2.2.1 ∈ tbl := tb_in 362 (by decide +kernel) rfl
theorem fl_0_82 : Cond.fieldLink RX0 82 (TX7 0).1 (TX7 0).2.1 (TX7 0).2.2.1 ∈ tbl := tb_in 363 (by decide +kernel) rfl
theorem fl_7_15 : Cond.fieldLink RX7 15 (TX7 1).1 (TX7 1).2.1 (TX7 1).2.2.1 ∈ tbl := tb_in 364 (by decide +kernel) rfl
theorem fl_0_77 : Cond.fieldLink RX0 77 (TX7 1).1 (TX7 1).2.1 (TX7 1).2.2.1 ∈ tbl := tb_in 365 (by decide +kernel) rfl
theorem ml_11_66 : Cond.methodLink RX11 66 yX1_init ∈ tbl := tb_in 373 (by decide +kernel) rfl
theorem kl_1_28 : Cond.constant RX1 28 (2147483647) ∈ tbl := tb_in 379 (by decide +kernel) rfl
theorem fl_1_33 : Cond.fieldLink RX1 33 (TX1 0).1 (TX1 0).2.1 (TX1 0).2.2.1 ∈ tbl := tb_in 380 (by decide +kernel) rfl
theorem fl_1_37 : Cond.fieldLink RX1 37 (TX1 1).1 (TX1 1).2.1 (TX1 1).2.2.1 ∈ tbl := tb_in 381 (by decide +kernel) rfl
theorem fl_1_41 : Cond.fieldLink RX1 41 (TX1 2).1 (TX1 2).2.1 (TX1 2).2.2.1 ∈ tbl := tb_in 382 (by decide +kernel) rfl
theorem fl_1_12 : Cond.fieldLink RX1 12 (TX1 3).1 (TX1 3).2.1 (TX1 3).2.2.1 ∈ tbl := tb_in 383 (by decide +kernel) rfl
theorem fl_11_201 : Cond.fieldLink RX11 201 (TX1 3).1 (TX1 3).2.1 (TX1 3).2.2.1 ∈ tbl := tb_in 384 (by decide +kernel) rfl
theorem fl_1_18 : Cond.fieldLink RX1 18 (TX1 4).1 (TX1 4).2.1 (TX1 4).2.2.1 ∈ tbl := tb_in 385 (by decide +kernel) rfl
theorem fl_1_22 : Cond.fieldLink RX1 22 (TX1 5).1 (TX1 5).2.1 (TX1 5).2.2.1 ∈ tbl := tb_in 386 (by decide +kernel) rfl
theorem fl_1_25 : Cond.fieldLink RX1 25 (TX1 6).1 (TX1 6).2.1 (TX1 6).2.2.1 ∈ tbl := tb_in 387 (by decide +kernel) rfl
theorem fl_1_66 : Cond.fieldLink RX1 66 (TX1 7).1 (TX1 7).2.1 (TX1 7).2.2.1 ∈ tbl := tb_in 388 (by decide +kernel) rfl
theorem fl_1_29 : Cond.fieldLink RX1 29 (TX1 8).1 (TX1 8).2.1 (TX1 8).2.2.1 ∈ tbl := tb_in 389 (by decide +kernel) rfl
theorem fl_11_198 : Cond.fieldLink RX11 198 (TX1 8).1 (TX1 8).2.1 (TX1 8).2.2.1 ∈ tbl := tb_in 390 (by decide +kernel) rfl
theorem fl_1_45 : Cond.fieldLink RX1 45 (TX1 9).1 (TX1 9).2.1 (TX1 9).2.2.1 ∈ tbl := tb_in 391 (by decide +kernel) rfl
theorem ml_11_75 : Cond.methodLink RX11 75 yX0_init ∈ tbl := tb_in 415 (by decide +kernel) rfl
theorem ml_0_11 : Cond.methodLink RX0 11 yX3_init ∈ tbl := tb_in 420 (by decide +kernel) rfl
theorem fl_0_18 : Cond.fieldLink RX0 18 (TX0 0).1 (TX0 0).2.1 (TX0 0).2.2.1 ∈ tbl := tb_in 421 (by decide +kernel) rfl
theorem fl_0_22 : Cond.fieldLink RX0 22 (TX0 1).1 (TX0 1).2.1 (TX0 1).2.2.1 ∈ tbl := tb_in 422 (by decide +kernel) rfl
theorem fl_0_26 : Cond.fieldLink RX0 26 (TX0 2).1 (TX0 2).2.1 (TX0 2).2.2.1 ∈ tbl := tb_in 423 (by decide +kernel) rfl
theorem fl_0_30 : Cond.fieldLink RX0 30 (TX0 3).1 (TX0 3).2.1 (TX0 3).2.2.1 ∈ tbl := tb_in 424 (by decide +kernel) rfl
theorem fl_0_12 : Cond.fieldLink RX0 12 (TX0 4).1 (TX0 4).2.1 (TX0 4).2.2.1 ∈ tbl := tb_in 425 (by decide +kernel) rfl
theorem fl_11_212 : Cond.fieldLink RX11 212 (TX0 4).1 (TX0 4).2.1 (TX0 4).2.2.1 ∈ tbl := tb_in 426 (by decide +kernel) rfl
theorem fl_0_37 : Cond.fieldLink RX0 37 (TX0 5).1 (TX0 5).2.1 (TX0 5).2.2.1 ∈ tbl := tb_in 427 (by decide +kernel) rfl
theorem fl_0_46 : Cond.fieldLink RX0 46 (TX0 6).1 (TX0 6).2.1 (TX0 6).2.2.1 ∈ tbl := tb_in 428 (by decide +kernel) rfl
theorem fl_0_67 : Cond.fieldLink RX0 67 (TX0 7).1 (TX0 7).2.1 (TX0 7).2.2.1 ∈ tbl := tb_in 429 (by decide +kernel) rfl
theorem fl_0_70 : Cond.fieldLink RX0 70 (TX0 8).1 (TX0 8).2.1 (TX0 8).2.2.1 ∈ tbl := tb_in 430 (by decide +kernel) rfl
theorem fl_0_55 : Cond.fieldLink RX0 55 (TX0 9).1 (TX0 9).2.1 (TX0 9).2.2.1 ∈ tbl := tb_in 431 (by decide +kernel) rfl
theorem fl_0_73 : Cond.fieldLink RX0 73 (TX0 10).1 (TX0 10).2.1 (TX0 10).2.2.1 ∈ tbl := tb_in 432 (by decide +kernel) rfl
theorem ml_11_84 : Cond.methodLink RX11 84 yX2_init ∈ tbl := tb_in 458 (by decide +kernel) rfl
theorem fl_2_11 : Cond.fieldLink RX2 11 (TX2 0).1 (TX2 0).2.1 (TX2 0).2.2.1 ∈ tbl := tb_in 465 (by decide +kernel) rfl
theorem fl_2_22 : Cond.fieldLink RX2 22 (TX2 1).1 (TX2 1).2.1 (TX2 1).2.2.1 ∈ tbl := tb_in 466 (by decide +kernel) rfl
theorem fl_2_18 : Cond.fieldLink RX2 18 (TX2 2).1 (TX2 2).2.1 (TX2 2).2.2.1 ∈ tbl := tb_in 467 (by decide +kernel) rfl
theorem fl_11_275 : Cond.fieldLink RX11 275 (TX2 2).1 (TX2 2).2.1 (TX2 2).2.2.1 ∈ tbl := tb_in 468 (by decide +kernel) rfl
theorem fl_11_12 : Cond.fieldLink RX11 12 (TX11 0).1 (TX11 0).2.1 (TX11 0).2.2.1 ∈ tbl := tb_in 476 (by decide +kernel) rfl
theorem fl_11_23 : Cond.fieldLink RX11 23 (TX11 1).1 (TX11 1).2.1 (TX11 1).2.2.1 ∈ tbl := tb_in 477 (by decide +kernel) rfl
theorem fl_11_30 : Cond.fieldLink RX11 30 (TX11 2).1 (TX11 2).2.1 (TX11 2).2.2.1 ∈ tbl := tb_in 478 (by decide +kernel) rfl
theorem fl_11_37 : Cond.fieldLink RX11 37 (TX11 3).1 (TX11 3).2.1 (TX11 3).2.2.1 ∈ tbl := tb_in 479 (by decide +kernel) rfl
theorem fl_11_46 : Cond.fieldLink RX11 46 (TX11 4).1 (TX11 4).2.1 (TX11 4).2.2.1 ∈ tbl := tb_in 480 (by decide +kernel) rfl
theorem fl_11_53 : Cond.fieldLink RX11 53 (TX11 5).1 (TX11 5).2.1 (TX11 5).2.2.1 ∈ tbl := tb_in 481 (by decide +kernel) rfl
theorem fl_11_60 : Cond.fieldLink RX11 60 (TX11 6).1 (TX11 6).2.1 (TX11 6).2.2.1 ∈ tbl := tb_in 482 (by decide +kernel) rfl
theorem fl_11_69 : Cond.fieldLink RX11 69 (TX11 7).1 (TX11 7).2.1 (TX11 7).2.2.1 ∈ tbl := tb_in 483 (by decide +kernel) rfl
theorem fl_11_78 : Cond.fieldLink RX11 78 (TX11 8).1 (TX11 8).2.1 (TX11 8).2.2.1 ∈ tbl := tb_in 484 (by decide +kernel) rfl
theorem fl_11_85 : Cond.fieldLink RX11 85 (TX11 9).1 (TX11 9).2.1 (TX11 9).2.2.1 ∈ tbl := tb_in 485 (by decide +kernel) rfl
theorem fl_11_89 : Cond.fieldLink RX11 89 (TX11 10).1 (TX11 10).2.1 (TX11 10).2.2.1 ∈ tbl := tb_in 486 (by decide +kernel) rfl
theorem fl_11_93 : Cond.fieldLink RX11 93 (TX11 11).1 (TX11 11).2.1 (TX11 11).2.2.1 ∈ tbl := tb_in 487 (by decide +kernel) rfl
theorem ml_11_101 : Cond.methodLink RX11 101 yX9_addFour ∈ tbl := tb_in 518 (by decide +kernel) rfl
theorem ml_11_105 : Cond.methodLink RX11 105 yX5_readRound ∈ tbl := tb_in 526 (by decide +kernel) rfl
theorem ml_5_29 : Cond.methodLink RX5 29 yX6_clear ∈ tbl := tb_in 530 (by decide +kernel) rfl
theorem ml_5_39 : Cond.methodLink RX5 39 yX9_begin ∈ tbl := tb_in 531 (by decide +kernel) rfl
theorem ml_9_19 : Cond.methodLink RX9 19 Lib.Math.min.name ∈ tbl := tb_in 535 (by decide +kernel) rfl
theorem ml_9_31 : Cond.methodLink RX9 31 yX9_advance ∈ tbl := tb_in 538 (by decide +kernel) rfl
theorem ml_9_37 : Cond.methodLink RX9 37 yX9_kindOf ∈ tbl := tb_in 542 (by decide +kernel) rfl
theorem ml_5_48 : Cond.methodLink RX5 48 yX5_readStatement ∈ tbl := tb_in 545 (by decide +kernel) rfl
theorem ml_5_56 : Cond.methodLink RX5 56 yX9_isWord ∈ tbl := tb_in 550 (by decide +kernel) rfl
theorem ml_9_44 : Cond.methodLink RX9 44 yJ0_length_8abf5 ∈ tbl := tb_in 554 (by decide +kernel) rfl
theorem ml_9_49 : Cond.methodLink RX9 49 yJ0_charAt_5068e ∈ tbl := tb_in 564 (by decide +kernel) rfl
theorem ml_5_60 : Cond.methodLink RX5 60 yX5_readNodes ∈ tbl := tb_in 602 (by decide +kernel) rfl
theorem ml_5_97 : Cond.methodLink RX5 97 yX5_fail ∈ tbl := tb_in 606 (by decide +kernel) rfl
theorem ml_5_65 : Cond.methodLink RX5 65 yX5_takeOnce ∈ tbl := tb_in 610 (by decide +kernel) rfl
theorem ml_5_110 : Cond.methodLink RX5 110 yX9_advance ∈ tbl := tb_in 614 (by decide +kernel) rfl
theorem ml_5_68 : Cond.methodLink RX5 68 yX5_readNumber ∈ tbl := tb_in 615 (by decide +kernel) rfl
theorem ml_5_150 : Cond.methodLink RX5 150 yX9_value ∈ tbl := tb_in 619 (by decide +kernel) rfl
theorem ml_5_88 : Cond.methodLink RX5 88 yX5_readStreet ∈ tbl := tb_in 627 (by decide +kernel) rfl
theorem ml_5_113 : Cond.methodLink RX5 113 yX6_joins ∈ tbl := tb_in 631 (by decide +kernel) rfl
theorem ml_5_127 : Cond.methodLink RX5 127 yX5_readGate ∈ tbl := tb_in 635 (by decide +kernel) rfl
theorem ml_5_93 : Cond.methodLink RX5 93 yX5_readHouse ∈ tbl := tb_in 641 (by decide +kernel) rfl
theorem ml_5_51 : Cond.methodLink RX5 51 yX5_readSemicolon ∈ tbl := tb_in 645 (by decide +kernel) rfl
theorem ml_11_112 : Cond.methodLink RX11 112 yX6_copyFrom ∈ tbl := tb_in 649 (by decide +kernel) rfl
theorem ml_6_52 : Cond.methodLink RX6 52 arraycopyName ∈ tbl := tb_in 653 (by decide +kernel) rfl
theorem ml_11_117 : Cond.methodLink RX11 117 yX8_copyFrom ∈ tbl := tb_in 656 (by decide +kernel) rfl
theorem ml_8_53 : Cond.methodLink RX8 53 arraycopyName ∈ tbl := tb_in 660 (by decide +kernel) rfl
theorem ml_8_59 : Cond.methodLink RX8 59 yX3_copyFrom ∈ tbl := tb_in 661 (by decide +kernel) rfl
theorem ml_3_34 : Cond.methodLink RX3 34 arraycopyName ∈ tbl := tb_in 665 (by decide +kernel) rfl
theorem ml_11_120 : Cond.methodLink RX11 120 yX2_clear ∈ tbl := tb_in 666 (by decide +kernel) rfl
theorem ml_11_123 : Cond.methodLink RX11 123 yX11_emptySlots ∈ tbl := tb_in 670 (by decide +kernel) rfl
theorem ml_11_126 : Cond.methodLink RX11 126 yX1_forget ∈ tbl := tb_in 674 (by decide +kernel) rfl
theorem ml_11_144 : Cond.methodLink RX11 144 yX11_isHouse ∈ tbl := tb_in 702 (by decide +kernel) rfl
theorem ml_11_152 : Cond.methodLink RX11 152 yX11_isWeekday ∈ tbl := tb_in 710 (by decide +kernel) rfl
theorem ml_11_158 : Cond.methodLink RX11 158 yX11_isStreet ∈ tbl := tb_in 717 (by decide +kernel) rfl
theorem ml_11_167 : Cond.methodLink RX11 167 yX11_isNode ∈ tbl := tb_in 725 (by decide +kernel) rfl
theorem ml_11_170 : Cond.methodLink RX11 170 yX4_arrivalsFrom ∈ tbl := tb_in 729 (by decide +kernel) rfl
theorem kl_4_26 : Cond.constant RX4 26 (2147483647) ∈ tbl := tb_in 733 (by decide +kernel) rfl
theorem ml_4_27 : Cond.methodLink RX4 27 yJ7_fill_53178 ∈ tbl := tb_in 734 (by decide +kernel) rfl
theorem ml_4_33 : Cond.methodLink RX4 33 yX4_sweepStreets ∈ tbl := tb_in 737 (by decide +kernel) rfl
theorem ml_4_49 : Cond.methodLink RX4 49 yX4_improveDeparture ∈ tbl := tb_in 741 (by decide +kernel) rfl
theorem ml_4_53 : Cond.methodLink RX4 53 yX4_improveArrival ∈ tbl := tb_in 745 (by decide +kernel) rfl
theorem kl_11_174 : Cond.constant RX11 174 (2147483647) ∈ tbl := tb_in 749 (by decide +kernel) rfl
theorem ml_11_175 : Cond.methodLink RX11 175 yX10_demandOf ∈ tbl := tb_in 754 (by decide +kernel) rfl
theorem ml_10_19 : Cond.methodLink RX10 19 yX8_isSkipped ∈ tbl := tb_in 758 (by decide +kernel) rfl
theorem ml_11_179 : Cond.methodLink RX11 179 yX10_sumOfDemands ∈ tbl := tb_in 766 (by decide +kernel) rfl
theorem ml_10_41 : Cond.methodLink RX10 41 yX10_demandOf ∈ tbl := tb_in 770 (by decide +kernel) rfl
theorem ml_11_183 : Cond.methodLink RX11 183 yX10_stopSet ∈ tbl := tb_in 775 (by decide +kernel) rfl
theorem ml_11_189 : Cond.methodLink RX11 189 yX11_chooseByHabit ∈ tbl := tb_in 787 (by decide +kernel) rfl
theorem ml_11_290 : Cond.methodLink RX11 290 yX7_clear ∈ tbl := tb_in 791 (by decide +kernel) rfl
theorem ml_11_291 : Cond.methodLink RX11 291 yX11_horseChoice ∈ tbl := tb_in 795 (by decide +kernel) rfl
theorem ml_11_295 : Cond.methodLink RX11 295 yX7_add ∈ tbl := tb_in 799 (by decide +kernel) rfl
theorem ml_11_192 : Cond.methodLink RX11 192 yX7_stopAt ∈ tbl := tb_in 803 (by decide +kernel) rfl
theorem ml_11_195 : Cond.methodLink RX11 195 yX1_find ∈ tbl := tb_in 811 (by decide +kernel) rfl
theorem ml_1_49 : Cond.methodLink RX1 49 yX7_clear ∈ tbl := tb_in 815 (by decide +kernel) rfl
theorem ml_1_52 : Cond.methodLink RX1 52 yX10_sumOfDemands ∈ tbl := tb_in 816 (by decide +kernel) rfl
theorem ml_1_63 : Cond.methodLink RX1 63 yX10_stopSet ∈ tbl := tb_in 817 (by decide +kernel) rfl
theorem ml_1_69 : Cond.methodLink RX1 69 yX1_sumVisits ∈ tbl := tb_in 818 (by decide +kernel) rfl
theorem ml_1_81 : Cond.methodLink RX1 81 yJ7_fill_53178 ∈ tbl := tb_in 822 (by decide +kernel) rfl
theorem ml_1_90 : Cond.methodLink RX1 90 yX10_demandOf ∈ tbl := tb_in 823 (by decide +kernel) rfl
theorem ml_1_97 : Cond.methodLink RX1 97 yX10_visitMinutes ∈ tbl := tb_in 824 (by decide +kernel) rfl
theorem ml_1_72 : Cond.methodLink RX1 72 yX1_findEarliest ∈ tbl := tb_in 828 (by decide +kernel) rfl
theorem ml_1_100 : Cond.methodLink RX1 100 yX1_place ∈ tbl := tb_in 832 (by decide +kernel) rfl
theorem ml_1_107 : Cond.methodLink RX1 107 yX1_isPart ∈ tbl := tb_in 835 (by decide +kernel) rfl
theorem ml_1_114 : Cond.methodLink RX1 114 yX1_isLast ∈ tbl := tb_in 839 (by decide +kernel) rfl
theorem ml_1_118 : Cond.methodLink RX1 118 yX1_driveOn ∈ tbl := tb_in 842 (by decide +kernel) rfl
theorem ml_1_122 : Cond.methodLink RX1 122 yX4_arrivalsFrom ∈ tbl := tb_in 846 (by decide +kernel) rfl
theorem ml_1_128 : Cond.methodLink RX1 128 Lib.Math.min.name ∈ tbl := tb_in 847 (by decide +kernel) rfl
theorem ml_1_75 : Cond.methodLink RX1 75 yX1_findLatest ∈ tbl := tb_in 848 (by decide +kernel) rfl
theorem ml_1_133 : Cond.methodLink RX1 133 yX4_departuresTo ∈ tbl := tb_in 852 (by decide +kernel) rfl
theorem ml_1_136 : Cond.methodLink RX1 136 yX1_allow ∈ tbl := tb_in 856 (by decide +kernel) rfl
theorem ml_1_140 : Cond.methodLink RX1 140 Lib.Math.max.name ∈ tbl := tb_in 860 (by decide +kernel) rfl
theorem ml_1_78 : Cond.methodLink RX1 78 yX1_walk ∈ tbl := tb_in 863 (by decide +kernel) rfl
theorem ml_1_143 : Cond.methodLink RX1 143 yX1_firstInTime ∈ tbl := tb_in 867 (by decide +kernel) rfl
theorem ml_1_147 : Cond.methodLink RX1 147 yX7_add ∈ tbl := tb_in 871 (by decide +kernel) rfl
theorem ml_11_202 : Cond.methodLink RX11 202 yX11_isChoice ∈ tbl := tb_in 880 (by decide +kernel) rfl
theorem ml_11_205 : Cond.methodLink RX11 205 yX11_chooseRoute ∈ tbl := tb_in 883 (by decide +kernel) rfl
theorem ml_11_285 : Cond.methodLink RX11 285 yX7_copyFrom ∈ tbl := tb_in 887 (by decide +kernel) rfl
theorem ml_7_26 : Cond.methodLink RX7 26 arraycopyName ∈ tbl := tb_in 891 (by decide +kernel) rfl
theorem ml_11_287 : Cond.methodLink RX11 287 yX7_fillByNumber ∈ tbl := tb_in 892 (by decide +kernel) rfl
theorem ml_7_19 : Cond.methodLink RX7 19 yX7_clear ∈ tbl := tb_in 896 (by decide +kernel) rfl
theorem ml_7_22 : Cond.methodLink RX7 22 yX7_add ∈ tbl := tb_in 897 (by decide +kernel) rfl
theorem ml_11_208 : Cond.methodLink RX11 208 yX0_travel ∈ tbl := tb_in 898 (by decide +kernel) rfl
theorem ml_0_34 : Cond.methodLink RX0 34 yX3_clear ∈ tbl := tb_in 902 (by decide +kernel) rfl
theorem ml_0_49 : Cond.methodLink RX0 49 yX10_sumOfDemands ∈ tbl := tb_in 903 (by decide +kernel) rfl
theorem ml_0_61 : Cond.methodLink RX0 61 Lib.Math.min.name ∈ tbl := tb_in 904 (by decide +kernel) rfl
theorem ml_0_86 : Cond.methodLink RX0 86 yX0_driveTo ∈ tbl := tb_in 905 (by decide +kernel) rfl
theorem ml_0_101 : Cond.methodLink RX0 101 yX4_arrivalsFrom ∈ tbl := tb_in 909 (by decide +kernel) rfl
theorem kl_0_107 : Cond.constant RX0 107 (2147483647) ∈ tbl := tb_in 910 (by decide +kernel) rfl
theorem ml_0_90 : Cond.methodLink RX0 90 yX0_serveStop ∈ tbl := tb_in 911 (by decide +kernel) rfl
theorem ml_0_111 : Cond.methodLink RX0 111 yX10_demandOf ∈ tbl := tb_in 915 (by decide +kernel) rfl
theorem ml_0_117 : Cond.methodLink RX0 117 yX0_reload ∈ tbl := tb_in 916 (by decide +kernel) rfl
theorem ml_0_120 : Cond.methodLink RX0 120 yX0_serveHouse ∈ tbl := tb_in 920 (by decide +kernel) rfl
theorem ml_0_127 : Cond.methodLink RX0 127 yX10_visitMinutes ∈ tbl := tb_in 924 (by decide +kernel) rfl
theorem ml_0_138 : Cond.methodLink RX0 138 Lib.Math.max.name ∈ tbl := tb_in 925 (by decide +kernel) rfl
theorem ml_0_141 : Cond.methodLink RX0 141 yX3_add ∈ tbl := tb_in 926 (by decide +kernel) rfl
theorem ml_0_94 : Cond.methodLink RX0 94 yX10_demandAtNode ∈ tbl := tb_in 930 (by decide +kernel) rfl
theorem ml_11_241 : Cond.methodLink RX11 241 yX11_isVisit ∈ tbl := tb_in 970 (by decide +kernel) rfl
theorem ml_11_254 : Cond.methodLink RX11 254 yX11_beginChange ∈ tbl := tb_in 990 (by decide +kernel) rfl
theorem ml_11_282 : Cond.methodLink RX11 282 yX2_remember ∈ tbl := tb_in 994 (by decide +kernel) rfl
theorem ml_2_25 : Cond.methodLink RX2 25 yX8_copyFrom ∈ tbl := tb_in 998 (by decide +kernel) rfl
theorem ml_2_29 : Cond.methodLink RX2 29 Lib.Math.min.name ∈ tbl := tb_in 999 (by decide +kernel) rfl
theorem ml_11_257 : Cond.methodLink RX11 257 yX11_settleAccounts ∈ tbl := tb_in 1000 (by decide +kernel) rfl
theorem ml_11_261 : Cond.methodLink RX11 261 yX11_learnHabits ∈ tbl := tb_in 1004 (by decide +kernel) rfl
theorem ml_11_264 : Cond.methodLink RX11 264 yX3_copyFrom ∈ tbl := tb_in 1008 (by decide +kernel) rfl
theorem ml_11_269 : Cond.methodLink RX11 269 yX8_isSkipped ∈ tbl := tb_in 1013 (by decide +kernel) rfl
theorem ml_11_276 : Cond.methodLink RX11 276 yX2_recall ∈ tbl := tb_in 1034 (by decide +kernel) rfl
theorem ml_11_279 : Cond.methodLink RX11 279 yX11_isSlot ∈ tbl := tb_in 1042 (by decide +kernel) rfl
theorem ml_12_84 : Cond.methodLink RX12 84 yX12_clearLedger ∈ tbl := tb_in 1055 (by decide +kernel) rfl
theorem fl_12_87 : Cond.fieldLink RX12 87 (TX12 0).1 (TX12 0).2.1 (TX12 0).2.2.1 ∈ tbl := tb_in 1059 (by decide +kernel) rfl
theorem fl_12_7 : Cond.fieldLink RX12 7 (TX12 1).1 (TX12 1).2.1 (TX12 1).2.2.1 ∈ tbl := tb_in 1060 (by decide +kernel) rfl
theorem fl_12_91 : Cond.fieldLink RX12 91 (TX12 2).1 (TX12 2).2.1 (TX12 2).2.2.1 ∈ tbl := tb_in 1061 (by decide +kernel) rfl
theorem fl_12_98 : Cond.fieldLink RX12 98 (TX12 3).1 (TX12 3).2.1 (TX12 3).2.2.1 ∈ tbl := tb_in 1062 (by decide +kernel) rfl
theorem fl_12_104 : Cond.fieldLink RX12 104 (TX12 4).1 (TX12 4).2.1 (TX12 4).2.2.1 ∈ tbl := tb_in 1063 (by decide +kernel) rfl
theorem fl_12_101 : Cond.fieldLink RX12 101 (TX12 5).1 (TX12 5).2.1 (TX12 5).2.2.1 ∈ tbl := tb_in 1064 (by decide +kernel) rfl
theorem fl_12_111 : Cond.fieldLink RX12 111 (TX12 6).1 (TX12 6).2.1 (TX12 6).2.2.1 ∈ tbl := tb_in 1065 (by decide +kernel) rfl
theorem fl_12_126 : Cond.fieldLink RX12 126 (TX12 7).1 (TX12 7).2.1 (TX12 7).2.2.1 ∈ tbl := tb_in 1066 (by decide +kernel) rfl
theorem fl_12_129 : Cond.fieldLink RX12 129 (TX12 8).1 (TX12 8).2.1 (TX12 8).2.2.1 ∈ tbl := tb_in 1067 (by decide +kernel) rfl
theorem fl_12_132 : Cond.fieldLink RX12 132 (TX12 9).1 (TX12 9).2.1 (TX12 9).2.2.1 ∈ tbl := tb_in 1068 (by decide +kernel) rfl
theorem fl_12_13 : Cond.fieldLink RX12 13 (TX12 10).1 (TX12 10).2.1 (TX12 10).2.2.1 ∈ tbl := tb_in 1069 (by decide +kernel) rfl
theorem fl_12_17 : Cond.fieldLink RX12 17 (TX12 11).1 (TX12 11).2.1 (TX12 11).2.2.1 ∈ tbl := tb_in 1070 (by decide +kernel) rfl
theorem fl_12_20 : Cond.fieldLink RX12 20 (TX12 12).1 (TX12 12).2.1 (TX12 12).2.2.1 ∈ tbl := tb_in 1071 (by decide +kernel) rfl
theorem fl_12_23 : Cond.fieldLink RX12 23 (TX12 13).1 (TX12 13).2.1 (TX12 13).2.2.1 ∈ tbl := tb_in 1072 (by decide +kernel) rfl
theorem fl_12_26 : Cond.fieldLink RX12 26 (TX12 14).1 (TX12 14).2.1 (TX12 14).2.2.1 ∈ tbl := tb_in 1073 (by decide +kernel) rfl
theorem fl_12_29 : Cond.fieldLink RX12 29 (TX12 15).1 (TX12 15).2.1 (TX12 15).2.2.1 ∈ tbl := tb_in 1074 (by decide +kernel) rfl
theorem fl_12_32 : Cond.fieldLink RX12 32 (TX12 16).1 (TX12 16).2.1 (TX12 16).2.2.1 ∈ tbl := tb_in 1075 (by decide +kernel) rfl
theorem fl_12_35 : Cond.fieldLink RX12 35 (TX12 17).1 (TX12 17).2.1 (TX12 17).2.2.1 ∈ tbl := tb_in 1076 (by decide +kernel) rfl
theorem fl_12_38 : Cond.fieldLink RX12 38 (TX12 18).1 (TX12 18).2.1 (TX12 18).2.2.1 ∈ tbl := tb_in 1077 (by decide +kernel) rfl
theorem fl_12_41 : Cond.fieldLink RX12 41 (TX12 19).1 (TX12 19).2.1 (TX12 19).2.2.1 ∈ tbl := tb_in 1078 (by decide +kernel) rfl
theorem fl_12_44 : Cond.fieldLink RX12 44 (TX12 20).1 (TX12 20).2.1 (TX12 20).2.2.1 ∈ tbl := tb_in 1079 (by decide +kernel) rfl
theorem fl_12_165 : Cond.fieldLink RX12 165 (TX12 21).1 (TX12 21).2.1 (TX12 21).2.2.1 ∈ tbl := tb_in 1080 (by decide +kernel) rfl
theorem fl_12_47 : Cond.fieldLink RX12 47 (TX12 22).1 (TX12 22).2.1 (TX12 22).2.2.1 ∈ tbl := tb_in 1081 (by decide +kernel) rfl
theorem fl_12_50 : Cond.fieldLink RX12 50 (TX12 23).1 (TX12 23).2.1 (TX12 23).2.2.1 ∈ tbl := tb_in 1082 (by decide +kernel) rfl
theorem fl_12_196 : Cond.fieldLink RX12 196 (TX12 24).1 (TX12 24).2.1 (TX12 24).2.2.1 ∈ tbl := tb_in 1083 (by decide +kernel) rfl
theorem fl_12_53 : Cond.fieldLink RX12 53 (TX12 25).1 (TX12 25).2.1 (TX12 25).2.2.1 ∈ tbl := tb_in 1084 (by decide +kernel) rfl
theorem fl_12_56 : Cond.fieldLink RX12 56 (TX12 26).1 (TX12 26).2.1 (TX12 26).2.2.1 ∈ tbl := tb_in 1085 (by decide +kernel) rfl
theorem fl_12_60 : Cond.fieldLink RX12 60 (TX12 27).1 (TX12 27).2.1 (TX12 27).2.2.1 ∈ tbl := tb_in 1086 (by decide +kernel) rfl
theorem fl_12_63 : Cond.fieldLink RX12 63 (TX12 28).1 (TX12 28).2.1 (TX12 28).2.2.1 ∈ tbl := tb_in 1087 (by decide +kernel) rfl
theorem fl_12_66 : Cond.fieldLink RX12 66 (TX12 29).1 (TX12 29).2.1 (TX12 29).2.2.1 ∈ tbl := tb_in 1088 (by decide +kernel) rfl
theorem fl_12_242 : Cond.fieldLink RX12 242 (TX12 30).1 (TX12 30).2.1 (TX12 30).2.2.1 ∈ tbl := tb_in 1089 (by decide +kernel) rfl
theorem fl_12_69 : Cond.fieldLink RX12 69 (TX12 31).1 (TX12 31).2.1 (TX12 31).2.2.1 ∈ tbl := tb_in 1090 (by decide +kernel) rfl
theorem fl_12_255 : Cond.fieldLink RX12 255 (TX12 32).1 (TX12 32).2.1 (TX12 32).2.2.1 ∈ tbl := tb_in 1091 (by decide +kernel) rfl
theorem fl_12_271 : Cond.fieldLink RX12 271 (TX12 33).1 (TX12 33).2.1 (TX12 33).2.2.1 ∈ tbl := tb_in 1092 (by decide +kernel) rfl
theorem fl_12_278 : Cond.fieldLink RX12 278 (TX12 34).1 (TX12 34).2.1 (TX12 34).2.2.1 ∈ tbl := tb_in 1093 (by decide +kernel) rfl
theorem fl_12_287 : Cond.fieldLink RX12 287 (TX12 35).1 (TX12 35).2.1 (TX12 35).2.2.1 ∈ tbl := tb_in 1094 (by decide +kernel) rfl
theorem fl_12_281 : Cond.fieldLink RX12 281 (TX12 36).1 (TX12 36).2.1 (TX12 36).2.2.1 ∈ tbl := tb_in 1095 (by decide +kernel) rfl
theorem fl_12_311 : Cond.fieldLink RX12 311 (TX12 37).1 (TX12 37).2.1 (TX12 37).2.2.1 ∈ tbl := tb_in 1096 (by decide +kernel) rfl
theorem fl_12_274 : Cond.fieldLink RX12 274 (TX12 38).1 (TX12 38).2.1 (TX12 38).2.2.1 ∈ tbl := tb_in 1097 (by decide +kernel) rfl
theorem fl_12_296 : Cond.fieldLink RX12 296 (TX12 39).1 (TX12 39).2.1 (TX12 39).2.2.1 ∈ tbl := tb_in 1098 (by decide +kernel) rfl
theorem fl_12_290 : Cond.fieldLink RX12 290 (TX12 40).1 (TX12 40).2.1 (TX12 40).2.2.1 ∈ tbl := tb_in 1099 (by decide +kernel) rfl
theorem fl_12_72 : Cond.fieldLink RX12 72 (TX12 41).1 (TX12 41).2.1 (TX12 41).2.2.1 ∈ tbl := tb_in 1100 (by decide +kernel) rfl
theorem fl_12_75 : Cond.fieldLink RX12 75 (TX12 42).1 (TX12 42).2.1 (TX12 42).2.2.1 ∈ tbl := tb_in 1101 (by decide +kernel) rfl
theorem fl_12_78 : Cond.fieldLink RX12 78 (TX12 43).1 (TX12 43).2.1 (TX12 43).2.2.1 ∈ tbl := tb_in 1102 (by decide +kernel) rfl
theorem fl_12_81 : Cond.fieldLink RX12 81 (TX12 44).1 (TX12 44).2.1 (TX12 44).2.2.1 ∈ tbl := tb_in 1103 (by decide +kernel) rfl
theorem ml_12_94 : Cond.methodLink RX12 94 yX12_appendInt ∈ tbl := tb_in 1199 (by decide +kernel) rfl
theorem ml_12_118 : Cond.methodLink RX12 118 yX12_within ∈ tbl := tb_in 1207 (by decide +kernel) rfl
theorem ml_12_148 : Cond.methodLink RX12 148 yX12_nextToken ∈ tbl := tb_in 1210 (by decide +kernel) rfl
theorem ml_12_107 : Cond.methodLink RX12 107 yX12_byteAt ∈ tbl := tb_in 1214 (by decide +kernel) rfl
theorem kl_12_114 : Cond.constantLong RX12 114 (97) ∈ tbl := tb_in 1218 (by decide +kernel) rfl
theorem kl_12_116 : Cond.constantLong RX12 116 (122) ∈ tbl := tb_in 1219 (by decide +kernel) rfl
theorem kl_12_122 : Cond.constantLong RX12 122 (48) ∈ tbl := tb_in 1220 (by decide +kernel) rfl
theorem kl_12_124 : Cond.constantLong RX12 124 (57) ∈ tbl := tb_in 1221 (by decide +kernel) rfl
theorem ml_12_189 : Cond.methodLink RX12 189 yX12_statement ∈ tbl := tb_in 1222 (by decide +kernel) rfl
theorem ml_12_161 : Cond.methodLink RX12 161 yX12_is ∈ tbl := tb_in 1227 (by decide +kernel) rfl
theorem ml_12_135 : Cond.methodLink RX12 135 yJ0_length_8abf5 ∈ tbl := tb_in 1231 (by decide +kernel) rfl
theorem ml_12_140 : Cond.methodLink RX12 140 yJ0_charAt_5068e ∈ tbl := tb_in 1232 (by decide +kernel) rfl
theorem ml_12_170 : Cond.methodLink RX12 170 yX12_readStreet ∈ tbl := tb_in 1233 (by decide +kernel) rfl
theorem ml_12_144 : Cond.methodLink RX12 144 yX12_must ∈ tbl := tb_in 1237 (by decide +kernel) rfl
theorem ml_12_151 : Cond.methodLink RX12 151 yX12_number ∈ tbl := tb_in 1241 (by decide +kernel) rfl
theorem ml_12_155 : Cond.methodLink RX12 155 yX12_isJoined ∈ tbl := tb_in 1245 (by decide +kernel) rfl
theorem ml_12_175 : Cond.methodLink RX12 175 yX12_readHouse ∈ tbl := tb_in 1251 (by decide +kernel) rfl
theorem ml_12_180 : Cond.methodLink RX12 180 yX12_once ∈ tbl := tb_in 1256 (by decide +kernel) rfl
theorem ml_12_192 : Cond.methodLink RX12 192 yX12_adopt ∈ tbl := tb_in 1263 (by decide +kernel) rfl
theorem ml_12_199 : Cond.methodLink RX12 199 yX12_isHouse ∈ tbl := tb_in 1290 (by decide +kernel) rfl
theorem kl_12_203 : Cond.constantLong RX12 203 (6) ∈ tbl := tb_in 1298 (by decide +kernel) rfl
theorem ml_12_218 : Cond.methodLink RX12 218 yX12_isStreet ∈ tbl := tb_in 1303 (by decide +kernel) rfl
theorem ml_12_221 : Cond.methodLink RX12 221 yX12_isNode ∈ tbl := tb_in 1311 (by decide +kernel) rfl
theorem kl_12_224 : Cond.constantLong RX12 224 (9999) ∈ tbl := tb_in 1315 (by decide +kernel) rfl
theorem ml_12_226 : Cond.methodLink RX12 226 yX12_arrivalOf ∈ tbl := tb_in 1316 (by decide +kernel) rfl
theorem ml_12_214 : Cond.methodLink RX12 214 yX12_layArrivals ∈ tbl := tb_in 1320 (by decide +kernel) rfl
theorem kl_12_205 : Cond.constant RX12 205 (1000000000) ∈ tbl := tb_in 1324 (by decide +kernel) rfl
theorem ml_12_206 : Cond.methodLink RX12 206 yX12_through ∈ tbl := tb_in 1325 (by decide +kernel) rfl
theorem ml_12_209 : Cond.methodLink RX12 209 Lib.Math.min.name ∈ tbl := tb_in 1329 (by decide +kernel) rfl
theorem ml_12_230 : Cond.methodLink RX12 230 yX12_demandOf ∈ tbl := tb_in 1334 (by decide +kernel) rfl
theorem ml_12_233 : Cond.methodLink RX12 233 yX12_totalOf ∈ tbl := tb_in 1342 (by decide +kernel) rfl
theorem ml_12_236 : Cond.methodLink RX12 236 yX12_stopSet ∈ tbl := tb_in 1350 (by decide +kernel) rfl
theorem ml_12_239 : Cond.methodLink RX12 239 yX12_habitOf ∈ tbl := tb_in 1358 (by decide +kernel) rfl
theorem ml_12_258 : Cond.methodLink RX12 258 yX12_layHorse ∈ tbl := tb_in 1366 (by decide +kernel) rfl
theorem ml_12_261 : Cond.methodLink RX12 261 yX12_stopAt ∈ tbl := tb_in 1370 (by decide +kernel) rfl
theorem ml_12_264 : Cond.methodLink RX12 264 yX12_layFastest ∈ tbl := tb_in 1378 (by decide +kernel) rfl
theorem ml_12_252 : Cond.methodLink RX12 252 yX12_bestEnd ∈ tbl := tb_in 1382 (by decide +kernel) rfl
theorem ml_12_245 : Cond.methodLink RX12 245 yX12_stayAt ∈ tbl := tb_in 1386 (by decide +kernel) rfl
theorem ml_12_248 : Cond.methodLink RX12 248 yX12_goesOn ∈ tbl := tb_in 1390 (by decide +kernel) rfl
theorem kl_12_314 : Cond.constantLong RX12 314 (2) ∈ tbl := tb_in 1402 (by decide +kernel) rfl
theorem ml_12_316 : Cond.methodLink RX12 316 yX12_layOrder ∈ tbl := tb_in 1403 (by decide +kernel) rfl
theorem ml_12_268 : Cond.methodLink RX12 268 yX12_layByNumber ∈ tbl := tb_in 1407 (by decide +kernel) rfl
theorem ml_12_319 : Cond.methodLink RX12 319 yX12_playRound ∈ tbl := tb_in 1411 (by decide +kernel) rfl
theorem ml_12_305 : Cond.methodLink RX12 305 yX12_leaveOut ∈ tbl := tb_in 1415 (by decide +kernel) rfl
theorem ml_12_308 : Cond.methodLink RX12 308 yX12_visitStop ∈ tbl := tb_in 1419 (by decide +kernel) rfl
theorem ml_12_299 : Cond.methodLink RX12 299 yX12_reload ∈ tbl := tb_in 1423 (by decide +kernel) rfl
theorem ml_12_284 : Cond.methodLink RX12 284 yX12_stillWanted ∈ tbl := tb_in 1427 (by decide +kernel) rfl
theorem ml_12_302 : Cond.methodLink RX12 302 yX12_visit ∈ tbl := tb_in 1431 (by decide +kernel) rfl
theorem ml_12_293 : Cond.methodLink RX12 293 Lib.Math.max.name ∈ tbl := tb_in 1435 (by decide +kernel) rfl
theorem ml_12_322 : Cond.methodLink RX12 322 yX12_keepState ∈ tbl := tb_in 1440 (by decide +kernel) rfl
theorem ml_12_325 : Cond.methodLink RX12 325 yX12_learn ∈ tbl := tb_in 1444 (by decide +kernel) rfl
theorem ml_12_328 : Cond.methodLink RX12 328 yX12_recordOf ∈ tbl := tb_in 1484 (by decide +kernel) rfl
theorem kl_12_331 : Cond.constantLong RX12 331 (9) ∈ tbl := tb_in 1512 (by decide +kernel) rfl
theorem ml_12_333 : Cond.methodLink RX12 333 yX12_exchange ∈ tbl := tb_in 1513 (by decide +kernel) rfl
theorem kl_12_336 : Cond.constantLong RX12 336 (1439) ∈ tbl := tb_in 1525 (by decide +kernel) rfl
theorem kl_12_338 : Cond.constantLong RX12 338 (1440) ∈ tbl := tb_in 1526 (by decide +kernel) rfl
theorem cpN : Cond.native arraycopyName ∈ tbl := tb_in 655 (by decide +kernel) rfl
theorem cpS : Cond.static arraycopyName ∈ tbl := tb_in 654 (by decide +kernel) rfl
theorem cpI : Cond.initialized "java/lang/System" ∈ tbl := tb_in 70 (by decide +kernel) rfl
theorem maI : Cond.initialized "java/lang/Math" ∈ tbl := tb_in 65 (by decide +kernel) rfl
theorem minS : Cond.static Lib.Math.min.name ∈ tbl := tb_in 536 (by decide +kernel) rfl
theorem minC : Cond.code Lib.Math.min.name Lib.Math.min.code 2 (some .int) ∈ tbl := tb_in 537 (by decide +kernel) rfl
theorem maxS : Cond.static Lib.Math.max.name ∈ tbl := tb_in 861 (by decide +kernel) rfl
theorem maxC : Cond.code Lib.Math.max.name Lib.Math.max.code 2 (some .int) ∈ tbl := tb_in 862 (by decide +kernel) rfl
abbrev mX0_init : mD := (yX0_init, cX0_init, 5, none, 2, 60)
abbrev mX0_travel : mD := (yX0_travel, cX0_travel, 4, none, 6, 143)
abbrev mX0_driveTo : mD := (yX0_driveTo, cX0_driveTo, 3, (some .boolean), 3, 77)
abbrev mX0_serveStop : mD := (yX0_serveStop, cX0_serveStop, 4, none, 5, 120)
abbrev mX0_reload : mD := (yX0_reload, cX0_reload, 2, (some .boolean), 4, 99)
abbrev mX0_serveHouse : mD := (yX0_serveHouse, cX0_serveHouse, 6, none, 1, 40)
abbrev mX1_init : mD := (yX1_init, cX1_init, 4, none, 2, 60)
abbrev mX1_forget : mD := (yX1_forget, cX1_forget, 1, none, 0, 0)
abbrev mX1_find : mD := (yX1_find, cX1_find, 1, none, 5, 124)
abbrev mX1_sumVisits : mD := (yX1_sumVisits, cX1_sumVisits, 2, none, 2, 42)
abbrev mX1_place : mD := (yX1_place, cX1_place, 2, (some .int), 0, 0)
abbrev mX1_isLast : mD := (yX1_isLast, cX1_isLast, 2, (some .boolean), 0, 0)
abbrev mX1_isPart : mD := (yX1_isPart, cX1_isPart, 2, (some .boolean), 0, 0)
abbrev mX1_findEarliest : mD := (yX1_findEarliest, cX1_findEarliest, 3, none, 4, 102)
abbrev mX1_driveOn : mD := (yX1_driveOn, cX1_driveOn, 6, none, 3, 77)
abbrev mX1_findLatest : mD := (yX1_findLatest, cX1_findLatest, 4, none, 3, 77)
abbrev mX1_allow : mD := (yX1_allow, cX1_allow, 5, none, 1, 40)
abbrev mX1_walk : mD := (yX1_walk, cX1_walk, 6, none, 3, 77)
abbrev mX1_firstInTime : mD := (yX1_firstInTime, cX1_firstInTime, 5, (some .int), 1, 21)
abbrev mX2_init : mD := (yX2_init, cX2_init, 2, none, 3, 80)
abbrev mX2_clear : mD := (yX2_clear, cX2_clear, 1, none, 0, 0)
abbrev mX2_remember : mD := (yX2_remember, cX2_remember, 2, none, 3, 82)
abbrev mX2_recall : mD := (yX2_recall, cX2_recall, 2, none, 3, 82)
abbrev mX3_init : mD := (yX3_init, cX3_init, 1, none, 1, 40)
abbrev mX3_clear : mD := (yX3_clear, cX3_clear, 1, none, 0, 0)
abbrev mX3_add : mD := (yX3_add, cX3_add, 4, none, 0, 0)
abbrev mX3_copyFrom : mD := (yX3_copyFrom, cX3_copyFrom, 2, none, 1, 40)
abbrev mX4_init : mD := (yX4_init, cX4_init, 3, none, 1, 40)
abbrev mX4_arrivalsFrom : mD := (yX4_arrivalsFrom, cX4_arrivalsFrom, 3, (some (.array .int)), 2, 55)
abbrev mX4_sweepStreets : mD := (yX4_sweepStreets, cX4_sweepStreets, 9, none, 1, 27)
abbrev mX4_improveArrival : mD := (yX4_improveArrival, cX4_improveArrival, 8, (some .boolean), 0, 0)
abbrev mX4_departuresTo : mD := (yX4_departuresTo, cX4_departuresTo, 3, (some (.array .int)), 2, 55)
abbrev mX4_improveDeparture : mD := (yX4_improveDeparture, cX4_improveDeparture, 6, (some .boolean), 0, 0)
abbrev mX5_init : mD := (yX5_init, cX5_init, 2, none, 3, 80)
abbrev mX5_readRound : mD := (yX5_readRound, cX5_readRound, 3, none, 9, 193)
abbrev mX5_readStatement : mD := (yX5_readStatement, cX5_readStatement, 1, none, 8, 173)
abbrev mX5_readNodes : mD := (yX5_readNodes, cX5_readNodes, 1, none, 3, 64)
abbrev mX5_readStreet : mD := (yX5_readStreet, cX5_readStreet, 5, none, 7, 149)
abbrev mX5_readGate : mD := (yX5_readGate, cX5_readGate, 2, none, 6, 128)
abbrev mX5_readHouse : mD := (yX5_readHouse, cX5_readHouse, 3, none, 3, 64)
abbrev mX5_takeOnce : mD := (yX5_takeOnce, cX5_takeOnce, 2, none, 2, 41)
abbrev mX5_readNumber : mD := (yX5_readNumber, cX5_readNumber, 4, (some .int), 2, 41)
abbrev mX5_readSemicolon : mD := (yX5_readSemicolon, cX5_readSemicolon, 1, none, 2, 41)
abbrev mX5_fail : mD := (yX5_fail, cX5_fail, 3, none, 0, 0)
abbrev mX6_init : mD := (yX6_init, cX6_init, 1, none, 1, 40)
abbrev mX6_clear : mD := (yX6_clear, cX6_clear, 1, none, 0, 0)
abbrev mX6_copyFrom : mD := (yX6_copyFrom, cX6_copyFrom, 2, none, 1, 40)
abbrev mX6_joins : mD := (yX6_joins, cX6_joins, 6, (some .boolean), 0, 0)
abbrev mX7_init : mD := (yX7_init, cX7_init, 1, none, 1, 40)
abbrev mX7_clear : mD := (yX7_clear, cX7_clear, 1, none, 0, 0)
abbrev mX7_add : mD := (yX7_add, cX7_add, 2, none, 0, 0)
abbrev mX7_fillByNumber : mD := (yX7_fillByNumber, cX7_fillByNumber, 3, none, 1, 21)
abbrev mX7_copyFrom : mD := (yX7_copyFrom, cX7_copyFrom, 2, none, 1, 40)
abbrev mX7_stopAt : mD := (yX7_stopAt, cX7_stopAt, 2, (some .int), 0, 0)
abbrev mX8_init : mD := (yX8_init, cX8_init, 1, none, 2, 60)
abbrev mX8_isSkipped : mD := (yX8_isSkipped, cX8_isSkipped, 2, (some .boolean), 0, 0)
abbrev mX8_copyFrom : mD := (yX8_copyFrom, cX8_copyFrom, 2, none, 2, 61)
abbrev mX9_init : mD := (yX9_init, cX9_init, 1, none, 1, 40)
abbrev mX9_addFour : mD := (yX9_addFour, cX9_addFour, 3, none, 0, 0)
abbrev mX9_begin : mD := (yX9_begin, cX9_begin, 2, none, 2, 41)
abbrev mX9_advance : mD := (yX9_advance, cX9_advance, 2, none, 1, 20)
abbrev mX9_kindOf : mD := (yX9_kindOf, cX9_kindOf, 1, (some .int), 0, 0)
abbrev mX9_isWord : mD := (yX9_isWord, cX9_isWord, 3, (some .boolean), 5, 106)
abbrev mX9_value : mD := (yX9_value, cX9_value, 3, (some .int), 0, 0)
abbrev mX10_init : mD := (yX10_init, cX10_init, 3, none, 1, 40)
abbrev mX10_demandOf : mD := (yX10_demandOf, cX10_demandOf, 2, (some .int), 1, 21)
abbrev mX10_demandAtNode : mD := (yX10_demandAtNode, cX10_demandAtNode, 4, (some .int), 2, 42)
abbrev mX10_sumOfDemands : mD := (yX10_sumOfDemands, cX10_sumOfDemands, 3, (some .int), 2, 42)
abbrev mX10_stopSet : mD := (yX10_stopSet, cX10_stopSet, 3, (some .int), 2, 42)
abbrev mX10_visitMinutes : mD := (yX10_visitMinutes, cX10_visitMinutes, 2, (some .int), 0, 0)
abbrev mX11_init : mD := (yX11_init, cX11_init, 2, none, 4, 101)
abbrev mX11_append : mD := (yX11_append, cX11_append, 6, (some .int), 1, 22)
abbrev mX11_parse : mD := (yX11_parse, cX11_parse, 2, (some .int), 10, 215)
abbrev mX11_nodeCount : mD := (yX11_nodeCount, cX11_nodeCount, 1, (some .int), 0, 0)
abbrev mX11_streetCount : mD := (yX11_streetCount, cX11_streetCount, 1, (some .int), 0, 0)
abbrev mX11_houseCount : mD := (yX11_houseCount, cX11_houseCount, 1, (some .int), 0, 0)
abbrev mX11_capacity : mD := (yX11_capacity, cX11_capacity, 1, (some .int), 0, 0)
abbrev mX11_day : mD := (yX11_day, cX11_day, 1, (some .int), 0, 0)
abbrev mX11_houseNode : mD := (yX11_houseNode, cX11_houseNode, 2, (some .int), 1, 21)
abbrev mX11_order : mD := (yX11_order, cX11_order, 3, (some .int), 1, 21)
abbrev mX11_isOpen : mD := (yX11_isOpen, cX11_isOpen, 5, (some .int), 1, 21)
abbrev mX11_arrival : mD := (yX11_arrival, cX11_arrival, 5, (some .int), 3, 77)
abbrev mX11_demand : mD := (yX11_demand, cX11_demand, 2, (some .int), 2, 42)
abbrev mX11_totalDemand : mD := (yX11_totalDemand, cX11_totalDemand, 1, (some .int), 3, 64)
abbrev mX11_stops : mD := (yX11_stops, cX11_stops, 1, (some .int), 3, 64)
abbrev mX11_habit : mD := (yX11_habit, cX11_habit, 3, (some .int), 1, 21)
abbrev mX11_horseStop : mD := (yX11_horseStop, cX11_horseStop, 2, (some .int), 5, 126)
abbrev mX11_fastestFinish : mD := (yX11_fastestFinish, cX11_fastestFinish, 1, (some .int), 6, 144)
abbrev mX11_fastestStop : mD := (yX11_fastestStop, cX11_fastestStop, 2, (some .int), 6, 144)
abbrev mX11_previewFinish : mD := (yX11_previewFinish, cX11_previewFinish, 2, (some .int), 7, 166)
abbrev mX11_bottlesAt : mD := (yX11_bottlesAt, cX11_bottlesAt, 2, (some .int), 1, 21)
abbrev mX11_delivered : mD := (yX11_delivered, cX11_delivered, 2, (some .int), 1, 21)
abbrev mX11_returned : mD := (yX11_returned, cX11_returned, 2, (some .int), 1, 21)
abbrev mX11_broken : mD := (yX11_broken, cX11_broken, 2, (some .int), 1, 21)
abbrev mX11_bill : mD := (yX11_bill, cX11_bill, 2, (some .int), 1, 21)
abbrev mX11_bottlesOut : mD := (yX11_bottlesOut, cX11_bottlesOut, 3, (some .int), 0, 0)
abbrev mX11_finish : mD := (yX11_finish, cX11_finish, 1, (some .int), 0, 0)
abbrev mX11_visitCount : mD := (yX11_visitCount, cX11_visitCount, 1, (some .int), 0, 0)
abbrev mX11_visitHouse : mD := (yX11_visitHouse, cX11_visitHouse, 2, (some .int), 1, 21)
abbrev mX11_visitMinute : mD := (yX11_visitMinute, cX11_visitMinute, 2, (some .int), 1, 21)
abbrev mX11_visitReturned : mD := (yX11_visitReturned, cX11_visitReturned, 2, (some .int), 1, 21)
abbrev mX11_reloads : mD := (yX11_reloads, cX11_reloads, 1, (some .int), 0, 0)
abbrev mX11_carryOut : mD := (yX11_carryOut, cX11_carryOut, 2, (some .int), 7, 166)
abbrev mX11_setSkipped : mD := (yX11_setSkipped, cX11_setSkipped, 3, (some .boolean), 5, 123)
abbrev mX11_breakBottles : mD := (yX11_breakBottles, cX11_breakBottles, 3, (some .int), 5, 123)
abbrev mX11_setOrder : mD := (yX11_setOrder, cX11_setOrder, 6, (some .int), 5, 123)
abbrev mX11_setKeep : mD := (yX11_setKeep, cX11_setKeep, 4, (some .int), 5, 123)
abbrev mX11_setGate : mD := (yX11_setGate, cX11_setGate, 4, (some .boolean), 5, 123)
abbrev mX11_undo : mD := (yX11_undo, cX11_undo, 1, (some .int), 4, 103)
abbrev mX11_saveSnapshot : mD := (yX11_saveSnapshot, cX11_saveSnapshot, 2, (some .boolean), 3, 82)
abbrev mX11_restoreSnapshot : mD := (yX11_restoreSnapshot, cX11_restoreSnapshot, 2, (some .boolean), 3, 82)
abbrev mX11_isHouse : mD := (yX11_isHouse, cX11_isHouse, 2, (some .boolean), 0, 0)
abbrev mX11_isStreet : mD := (yX11_isStreet, cX11_isStreet, 2, (some .boolean), 0, 0)
abbrev mX11_isNode : mD := (yX11_isNode, cX11_isNode, 2, (some .boolean), 0, 0)
abbrev mX11_isVisit : mD := (yX11_isVisit, cX11_isVisit, 2, (some .boolean), 0, 0)
abbrev mX11_isWeekday : mD := (yX11_isWeekday, cX11_isWeekday, 1, (some .boolean), 0, 0)
abbrev mX11_isChoice : mD := (yX11_isChoice, cX11_isChoice, 1, (some .boolean), 0, 0)
abbrev mX11_isSlot : mD := (yX11_isSlot, cX11_isSlot, 1, (some .boolean), 0, 0)
abbrev mX11_emptySlots : mD := (yX11_emptySlots, cX11_emptySlots, 2, none, 0, 0)
abbrev mX11_beginChange : mD := (yX11_beginChange, cX11_beginChange, 1, none, 4, 103)
abbrev mX11_chooseRoute : mD := (yX11_chooseRoute, cX11_chooseRoute, 2, (some .boolean), 6, 144)
abbrev mX11_chooseByHabit : mD := (yX11_chooseByHabit, cX11_chooseByHabit, 4, none, 4, 103)
abbrev mX11_horseChoice : mD := (yX11_horseChoice, cX11_horseChoice, 7, (some .int), 3, 77)
abbrev mX11_settleAccounts : mD := (yX11_settleAccounts, cX11_settleAccounts, 5, none, 2, 42)
abbrev mX11_learnHabits : mD := (yX11_learnHabits, cX11_learnHabits, 5, none, 0, 0)
abbrev mX12_init : mD := (yX12_init, cX12_init, 1, none, 1, 40)
abbrev mX12_within : mD := (yX12_within, cX12_within, 6, (some .boolean), 0, 0)
abbrev mX12_appendInt : mD := (yX12_appendInt, cX12_appendInt, 3, none, 0, 0)
abbrev mX12_append : mD := (yX12_append, cX12_append, 6, (some .int), 1, 22)
abbrev mX12_byteAt : mD := (yX12_byteAt, cX12_byteAt, 2, (some .int), 0, 0)
abbrev mX12_nextToken : mD := (yX12_nextToken, cX12_nextToken, 2, none, 1, 25)
abbrev mX12_must : mD := (yX12_must, cX12_must, 3, (some .boolean), 0, 0)
abbrev mX12_is : mD := (yX12_is, cX12_is, 3, (some .boolean), 5, 106)
abbrev mX12_number : mD := (yX12_number, cX12_number, 4, (some .int), 2, 46)
abbrev mX12_isJoined : mD := (yX12_isJoined, cX12_isJoined, 5, (some .boolean), 0, 0)
abbrev mX12_readStreet : mD := (yX12_readStreet, cX12_readStreet, 5, none, 6, 128)
abbrev mX12_readHouse : mD := (yX12_readHouse, cX12_readHouse, 3, none, 3, 69)
abbrev mX12_once : mD := (yX12_once, cX12_once, 2, none, 2, 46)
abbrev mX12_statement : mD := (yX12_statement, cX12_statement, 1, none, 7, 152)
abbrev mX12_adopt : mD := (yX12_adopt, cX12_adopt, 2, none, 0, 0)
abbrev mX12_parse : mD := (yX12_parse, cX12_parse, 3, (some .int), 8, 172)
abbrev mX12_clearLedger : mD := (yX12_clearLedger, cX12_clearLedger, 2, none, 0, 0)
abbrev mX12_keepState : mD := (yX12_keepState, cX12_keepState, 2, none, 0, 0)
abbrev mX12_isHouse : mD := (yX12_isHouse, cX12_isHouse, 2, (some .boolean), 1, 25)
abbrev mX12_isStreet : mD := (yX12_isStreet, cX12_isStreet, 2, (some .boolean), 1, 25)
abbrev mX12_isNode : mD := (yX12_isNode, cX12_isNode, 2, (some .boolean), 1, 25)
abbrev mX12_nodeCount : mD := (yX12_nodeCount, cX12_nodeCount, 1, (some .int), 0, 0)
abbrev mX12_streetCount : mD := (yX12_streetCount, cX12_streetCount, 1, (some .int), 0, 0)
abbrev mX12_houseCount : mD := (yX12_houseCount, cX12_houseCount, 1, (some .int), 0, 0)
abbrev mX12_capacity : mD := (yX12_capacity, cX12_capacity, 1, (some .int), 0, 0)
abbrev mX12_day : mD := (yX12_day, cX12_day, 1, (some .int), 0, 0)
abbrev mX12_houseNode : mD := (yX12_houseNode, cX12_houseNode, 2, (some .int), 2, 46)
abbrev mX12_order : mD := (yX12_order, cX12_order, 3, (some .int), 2, 46)
abbrev mX12_through : mD := (yX12_through, cX12_through, 4, (some .int), 0, 0)
abbrev mX12_layArrivals : mD := (yX12_layArrivals, cX12_layArrivals, 7, none, 1, 40)
abbrev mX12_arrivalOf : mD := (yX12_arrivalOf, cX12_arrivalOf, 4, (some .int), 2, 66)
abbrev mX12_isOpen : mD := (yX12_isOpen, cX12_isOpen, 3, (some .int), 2, 46)
abbrev mX12_arrival : mD := (yX12_arrival, cX12_arrival, 5, (some .int), 3, 89)
abbrev mX12_demandOf : mD := (yX12_demandOf, cX12_demandOf, 2, (some .int), 0, 0)
abbrev mX12_demand : mD := (yX12_demand, cX12_demand, 2, (some .int), 2, 46)
abbrev mX12_totalOf : mD := (yX12_totalOf, cX12_totalOf, 3, (some .int), 1, 21)
abbrev mX12_totalDemand : mD := (yX12_totalDemand, cX12_totalDemand, 1, (some .int), 2, 43)
abbrev mX12_stopSet : mD := (yX12_stopSet, cX12_stopSet, 3, (some .int), 1, 21)
abbrev mX12_stops : mD := (yX12_stops, cX12_stops, 1, (some .int), 2, 43)
abbrev mX12_habitOf : mD := (yX12_habitOf, cX12_habitOf, 3, (some .int), 0, 0)
abbrev mX12_habit : mD := (yX12_habit, cX12_habit, 3, (some .int), 2, 46)
abbrev mX12_layByNumber : mD := (yX12_layByNumber, cX12_layByNumber, 3, none, 2, 43)
abbrev mX12_layHorse : mD := (yX12_layHorse, cX12_layHorse, 5, none, 2, 66)
abbrev mX12_stayAt : mD := (yX12_stayAt, cX12_stayAt, 4, (some .int), 1, 21)
abbrev mX12_bestEnd : mD := (yX12_bestEnd, cX12_bestEnd, 6, (some .int), 3, 91)
abbrev mX12_goesOn : mD := (yX12_goesOn, cX12_goesOn, 6, none, 2, 66)
abbrev mX12_layFastest : mD := (yX12_layFastest, cX12_layFastest, 7, (some .boolean), 4, 116)
abbrev mX12_stopAt : mD := (yX12_stopAt, cX12_stopAt, 2, (some .int), 0, 0)
abbrev mX12_horseStop : mD := (yX12_horseStop, cX12_horseStop, 2, (some .int), 3, 90)
abbrev mX12_fastestFinish : mD := (yX12_fastestFinish, cX12_fastestFinish, 1, (some .int), 5, 142)
abbrev mX12_fastestStop : mD := (yX12_fastestStop, cX12_fastestStop, 2, (some .int), 5, 142)
abbrev mX12_layOrder : mD := (yX12_layOrder, cX12_layOrder, 2, (some .boolean), 5, 142)
abbrev mX12_stillWanted : mD := (yX12_stillWanted, cX12_stillWanted, 3, (some .int), 1, 21)
abbrev mX12_reload : mD := (yX12_reload, cX12_reload, 4, none, 3, 89)
abbrev mX12_visit : mD := (yX12_visit, cX12_visit, 4, none, 1, 40)
abbrev mX12_visitStop : mD := (yX12_visitStop, cX12_visitStop, 3, none, 4, 112)
abbrev mX12_leaveOut : mD := (yX12_leaveOut, cX12_leaveOut, 3, none, 0, 0)
abbrev mX12_playRound : mD := (yX12_playRound, cX12_playRound, 3, none, 5, 134)
abbrev mX12_previewFinish : mD := (yX12_previewFinish, cX12_previewFinish, 2, (some .int), 6, 163)
abbrev mX12_learn : mD := (yX12_learn, cX12_learn, 3, none, 0, 0)
abbrev mX12_carryOut : mD := (yX12_carryOut, cX12_carryOut, 5, (some .int), 6, 163)
abbrev mX12_bottlesAt : mD := (yX12_bottlesAt, cX12_bottlesAt, 2, (some .int), 2, 46)
abbrev mX12_delivered : mD := (yX12_delivered, cX12_delivered, 2, (some .int), 2, 46)
abbrev mX12_returned : mD := (yX12_returned, cX12_returned, 2, (some .int), 2, 46)
abbrev mX12_broken : mD := (yX12_broken, cX12_broken, 2, (some .int), 2, 46)
abbrev mX12_bill : mD := (yX12_bill, cX12_bill, 2, (some .int), 2, 46)
abbrev mX12_bottlesOut : mD := (yX12_bottlesOut, cX12_bottlesOut, 3, (some .int), 0, 0)
abbrev mX12_finish : mD := (yX12_finish, cX12_finish, 1, (some .int), 0, 0)
abbrev mX12_visitCount : mD := (yX12_visitCount, cX12_visitCount, 1, (some .int), 0, 0)
abbrev mX12_recordOf : mD := (yX12_recordOf, cX12_recordOf, 3, (some .int), 1, 25)
abbrev mX12_visitHouse : mD := (yX12_visitHouse, cX12_visitHouse, 2, (some .int), 2, 47)
abbrev mX12_visitMinute : mD := (yX12_visitMinute, cX12_visitMinute, 2, (some .int), 2, 47)
abbrev mX12_visitReturned : mD := (yX12_visitReturned, cX12_visitReturned, 2, (some .int), 2, 47)
abbrev mX12_reloads : mD := (yX12_reloads, cX12_reloads, 1, (some .int), 0, 0)
abbrev mX12_setSkipped : mD := (yX12_setSkipped, cX12_setSkipped, 4, (some .boolean), 2, 46)
abbrev mX12_breakBottles : mD := (yX12_breakBottles, cX12_breakBottles, 3, (some .int), 2, 46)
abbrev mX12_exchange : mD := (yX12_exchange, cX12_exchange, 4, (some .int), 1, 21)
abbrev mX12_setOrder : mD := (yX12_setOrder, cX12_setOrder, 4, (some .int), 2, 46)
abbrev mX12_setKeep : mD := (yX12_setKeep, cX12_setKeep, 3, (some .int), 2, 46)
abbrev mX12_setGate : mD := (yX12_setGate, cX12_setGate, 4, (some .boolean), 2, 46)
abbrev mX12_undo : mD := (yX12_undo, cX12_undo, 2, (some .int), 0, 0)
abbrev mX12_saveSnapshot : mD := (yX12_saveSnapshot, cX12_saveSnapshot, 3, (some .boolean), 1, 25)
abbrev mX12_restoreSnapshot : mD := (yX12_restoreSnapshot, cX12_restoreSnapshot, 3, (some .boolean), 1, 25)
abbrev mJ0_length_8abf5 : mD := (yJ0_length_8abf5, cJ0_length_8abf5, 1, (some .int), 1, 20)
abbrev mJ0_charAt_5068e : mD := (yJ0_charAt_5068e, cJ0_charAt_5068e, 2, (some .char), 4, 85)
abbrev mJ0_coder_7d493 : mD := (yJ0_coder_7d493, cJ0_coder_7d493, 1, (some .byte), 0, 0)
abbrev mJ0_isLatin1_aae02 : mD := (yJ0_isLatin1_aae02, cJ0_isLatin1_aae02, 1, (some .boolean), 0, 0)
abbrev mJ0_checkIndex_df160 : mD := (yJ0_checkIndex_df160, cJ0_checkIndex_df160, 2, none, 1, 22)
abbrev mJ1_charAt_3b067 : mD := (yJ1_charAt_3b067, cJ1_charAt_3b067, 2, (some .char), 2, 43)
abbrev mJ7_fill_53178 : mD := (yJ7_fill_53178, cJ7_fill_53178, 4, none, 0, 0)
abbrev mJ3_checkIndex_8e157 : mD := (yJ3_checkIndex_8e157, cJ3_checkIndex_8e157, 3, (some .int), 0, 0)
theorem okX0_init : okN mX0_init 4 := ⟨by decide, tb_in 62 (by decide +kernel) rfl, tb_in 417 (by decide +kernel) rfl, by decide +kernel⟩
theorem okX0_travel : okV mX0_travel 1 := ⟨⟨by decide, tb_in 62 (by decide +kernel) rfl, tb_in 901 (by decide +kernel) rfl, by decide +kernel⟩, tb_in 899 (by decide +kernel) rfl, tb_in 900 (by decide +kernel) rfl⟩
theorem okX0_driveTo : okV mX0_driveTo 1 := ⟨⟨by decide, tb_in 62 (by decide +kernel) rfl, tb_in 908 (by decide +kernel) rfl, by decide +kernel⟩, tb_in 906 (by decide +kernel) rfl, tb_in 907 (by decide +kernel) rfl⟩
theorem okX0_serveStop : okV mX0_serveStop 1 := ⟨⟨by decide, tb_in 62 (by decide +kernel) rfl, tb_in 914 (by decide +kernel) rfl, by decide +kernel⟩, tb_in 912 (by decide +kernel) rfl, tb_in 913 (by decide +kernel) rfl⟩
theorem okX0_reload : okV mX0_reload 1 := ⟨⟨by decide, tb_in 62 (by decide +kernel) rfl, tb_in 919 (by decide +kernel) rfl, by decide +kernel⟩, tb_in 917 (by decide +kernel) rfl, tb_in 918 (by decide +kernel) rfl⟩
theorem okX0_serveHouse : okV mX0_serveHouse 2 := ⟨⟨by decide, tb_in 62 (by decide +kernel) rfl, tb_in 923 (by decide +kernel) rfl, by decide +kernel⟩, tb_in 921 (by decide +kernel) rfl, tb_in 922 (by decide +kernel) rfl⟩
theorem okX1_init : okN mX1_init 3 := ⟨by decide, tb_in 61 (by decide +kernel) rfl, tb_in 375 (by decide +kernel) rfl, by decide +kernel⟩
theorem okX1_forget : okV mX1_forget 0 := ⟨⟨by decide, tb_in 61 (by decide +kernel) rfl, tb_in 677 (by decide +kernel) rfl, by decide +kernel⟩, tb_in 675 (by decide +kernel) rfl, tb_in 676 (by decide +kernel) rfl⟩
theorem okX1_find : okV mX1_find 0 := ⟨⟨by decide, tb_in 61 (by decide +kernel) rfl, tb_in 814 (by decide +kernel) rfl, by decide +kernel⟩, tb_in 812 (by decide +kernel) rfl, tb_in 813 (by decide +kernel) rfl⟩
theorem okX1_sumVisits : okV mX1_sumVisits 0 := ⟨⟨by decide, tb_in 61 (by decide +kernel) rfl, tb_in 821 (by decide +kernel) rfl, by decide +kernel⟩, tb_in 819 (by decide +kernel) rfl, tb_in 820 (by decide +kernel) rfl⟩
theorem okX1_place : okS mX1_place 2 := ⟨⟨by decide, tb_in 61 (by decide +kernel) rfl, tb_in 834 (by decide +kernel) rfl, by decide +kernel⟩, tb_in 833 (by decide +kernel) rfl⟩
theorem okX1_isLast : okS mX1_isLast 2 := ⟨⟨by decide, tb_in 61 (by decide +kernel) rfl, tb_in 841 (by decide +kernel) rfl, by decide +kernel⟩, tb_in 840 (by decide +kernel) rfl⟩
theorem okX1_isPart : okV mX1_isPart 1 := ⟨⟨by decide, tb_in 61 (by decide +kernel) rfl, tb_in 838 (by decide +kernel) rfl, by decide +kernel⟩, tb_in 836 (by decide +kernel) rfl, tb_in 837 (by decide +kernel) rfl⟩
theorem okX1_findEarliest : okV mX1_findEarliest 0 := ⟨⟨by decide, tb_in 61 (by decide +kernel) rfl, tb_in 831 (by decide +kernel) rfl, by decide +kernel⟩, tb_in 829 (by decide +kernel) rfl, tb_in 830 (by decide +kernel) rfl⟩
theorem okX1_driveOn : okV mX1_driveOn 2 := ⟨⟨by decide, tb_in 61 (by decide +kernel) rfl, tb_in 845 (by decide +kernel) rfl, by decide +kernel⟩, tb_in 843 (by decide +kernel) rfl, tb_in 844 (by decide +kernel) rfl⟩
theorem okX1_findLatest : okV mX1_findLatest 0 := ⟨⟨by decide, tb_in 61 (by decide +kernel) rfl, tb_in 851 (by decide +kernel) rfl, by decide +kernel⟩, tb_in 849 (by decide +kernel) rfl, tb_in 850 (by decide +kernel) rfl⟩
theorem okX1_allow : okV mX1_allow 2 := ⟨⟨by decide, tb_in 61 (by decide +kernel) rfl, tb_in 859 (by decide +kernel) rfl, by decide +kernel⟩, tb_in 857 (by decide +kernel) rfl, tb_in 858 (by decide +kernel) rfl⟩
theorem okX1_walk : okV mX1_walk 0 := ⟨⟨by decide, tb_in 61 (by decide +kernel) rfl, tb_in 866 (by decide +kernel) rfl, by decide +kernel⟩, tb_in 864 (by decide +kernel) rfl, tb_in 865 (by decide +kernel) rfl⟩
theorem okX1_firstInTime : okV mX1_firstInTime 2 := ⟨⟨by decide, tb_in 61 (by decide +kernel) rfl, tb_in 870 (by decide +kernel) rfl, by decide +kernel⟩, tb_in 868 (by decide +kernel) rfl, tb_in 869 (by decide +kernel) rfl⟩
theorem okX2_init : okN mX2_init 0 := ⟨by decide, tb_in 63 (by decide +kernel) rfl, tb_in 460 (by decide +kernel) rfl, by decide +kernel⟩
theorem okX2_clear : okV mX2_clear 0 := ⟨⟨by decide, tb_in 63 (by decide +kernel) rfl, tb_in 669 (by decide +kernel) rfl, by decide +kernel⟩, tb_in 667 (by decide +kernel) rfl, tb_in 668 (by decide +kernel) rfl⟩
theorem okX2_remember : okV mX2_remember 1 := ⟨⟨by decide, tb_in 63 (by decide +kernel) rfl, tb_in 997 (by decide +kernel) rfl, by decide +kernel⟩, tb_in 995 (by decide +kernel) rfl, tb_in 996 (by decide +kernel) rfl⟩
theorem okX2_recall : okV mX2_recall 1 := ⟨⟨by decide, tb_in 63 (by decide +kernel) rfl, tb_in 1037 (by decide +kernel) rfl, by decide +kernel⟩, tb_in 1035 (by decide +kernel) rfl, tb_in 1036 (by decide +kernel) rfl⟩
theorem okX3_init : okN mX3_init 0 := ⟨by decide, tb_in 57 (by decide +kernel) rfl, tb_in 209 (by decide +kernel) rfl, by decide +kernel⟩
theorem okX3_clear : okV mX3_clear 0 := ⟨⟨by decide, tb_in 57 (by decide +kernel) rfl, tb_in 214 (by decide +kernel) rfl, by decide +kernel⟩, tb_in 212 (by decide +kernel) rfl, tb_in 213 (by decide +kernel) rfl⟩
theorem okX3_add : okV mX3_add 3 := ⟨⟨by decide, tb_in 57 (by decide +kernel) rfl, tb_in 929 (by decide +kernel) rfl, by decide +kernel⟩, tb_in 927 (by decide +kernel) rfl, tb_in 928 (by decide +kernel) rfl⟩
theorem okX3_copyFrom : okV mX3_copyFrom 1 := ⟨⟨by decide, tb_in 57 (by decide +kernel) rfl, tb_in 664 (by decide +kernel) rfl, by decide +kernel⟩, tb_in 662 (by decide +kernel) rfl, tb_in 663 (by decide +kernel) rfl⟩
theorem okX4_init : okN mX4_init 2 := ⟨by decide, tb_in 59 (by decide +kernel) rfl, tb_in 341 (by decide +kernel) rfl, by decide +kernel⟩
theorem okX4_arrivalsFrom : okV mX4_arrivalsFrom 2 := ⟨⟨by decide, tb_in 59 (by decide +kernel) rfl, tb_in 732 (by decide +kernel) rfl, by decide +kernel⟩, tb_in 730 (by decide +kernel) rfl, tb_in 731 (by decide +kernel) rfl⟩
theorem okX4_sweepStreets : okV mX4_sweepStreets 1 := ⟨⟨by decide, tb_in 59 (by decide +kernel) rfl, tb_in 740 (by decide +kernel) rfl, by decide +kernel⟩, tb_in 738 (by decide +kernel) rfl, tb_in 739 (by decide +kernel) rfl⟩
theorem okX4_improveArrival : okV mX4_improveArrival 3 := ⟨⟨by decide, tb_in 59 (by decide +kernel) rfl, tb_in 748 (by decide +kernel) rfl, by decide +kernel⟩, tb_in 746 (by decide +kernel) rfl, tb_in 747 (by decide +kernel) rfl⟩
theorem okX4_departuresTo : okV mX4_departuresTo 2 := ⟨⟨by decide, tb_in 59 (by decide +kernel) rfl, tb_in 855 (by decide +kernel) rfl, by decide +kernel⟩, tb_in 853 (by decide +kernel) rfl, tb_in 854 (by decide +kernel) rfl⟩
theorem okX4_improveDeparture : okV mX4_improveDeparture 3 := ⟨⟨by decide, tb_in 59 (by decide +kernel) rfl, tb_in 744 (by decide +kernel) rfl, by decide +kernel⟩, tb_in 742 (by decide +kernel) rfl, tb_in 743 (by decide +kernel) rfl⟩
theorem okX5_init : okN mX5_init 1 := ⟨by decide, tb_in 54 (by decide +kernel) rfl, tb_in 113 (by decide +kernel) rfl, by decide +kernel⟩
theorem okX5_readRound : okV mX5_readRound 1 := ⟨⟨by decide, tb_in 54 (by decide +kernel) rfl, tb_in 529 (by decide +kernel) rfl, by decide +kernel⟩, tb_in 527 (by decide +kernel) rfl, tb_in 528 (by decide +kernel) rfl⟩
theorem okX5_readStatement : okV mX5_readStatement 0 := ⟨⟨by decide, tb_in 54 (by decide +kernel) rfl, tb_in 548 (by decide +kernel) rfl, by decide +kernel⟩, tb_in 546 (by decide +kernel) rfl, tb_in 547 (by decide +kernel) rfl⟩
theorem okX5_readNodes : okV mX5_readNodes 0 := ⟨⟨by decide, tb_in 54 (by decide +kernel) rfl, tb_in 605 (by decide +kernel) rfl, by decide +kernel⟩, tb_in 603 (by decide +kernel) rfl, tb_in 604 (by decide +kernel) rfl⟩
theorem okX5_readStreet : okV mX5_readStreet 0 := ⟨⟨by decide, tb_in 54 (by decide +kernel) rfl, tb_in 630 (by decide +kernel) rfl, by decide +kernel⟩, tb_in 628 (by decide +kernel) rfl, tb_in 629 (by decide +kernel) rfl⟩
theorem okX5_readGate : okV mX5_readGate 1 := ⟨⟨by decide, tb_in 54 (by decide +kernel) rfl, tb_in 638 (by decide +kernel) rfl, by decide +kernel⟩, tb_in 636 (by decide +kernel) rfl, tb_in 637 (by decide +kernel) rfl⟩
theorem okX5_readHouse : okV mX5_readHouse 0 := ⟨⟨by decide, tb_in 54 (by decide +kernel) rfl, tb_in 644 (by decide +kernel) rfl, by decide +kernel⟩, tb_in 642 (by decide +kernel) rfl, tb_in 643 (by decide +kernel) rfl⟩
theorem okX5_takeOnce : okV mX5_takeOnce 1 := ⟨⟨by decide, tb_in 54 (by decide +kernel) rfl, tb_in 613 (by decide +kernel) rfl, by decide +kernel⟩, tb_in 611 (by decide +kernel) rfl, tb_in 612 (by decide +kernel) rfl⟩
theorem okX5_readNumber : okV mX5_readNumber 2 := ⟨⟨by decide, tb_in 54 (by decide +kernel) rfl, tb_in 618 (by decide +kernel) rfl, by decide +kernel⟩, tb_in 616 (by decide +kernel) rfl, tb_in 617 (by decide +kernel) rfl⟩
theorem okX5_readSemicolon : okV mX5_readSemicolon 0 := ⟨⟨by decide, tb_in 54 (by decide +kernel) rfl, tb_in 648 (by decide +kernel) rfl, by decide +kernel⟩, tb_in 646 (by decide +kernel) rfl, tb_in 647 (by decide +kernel) rfl⟩
theorem okX5_fail : okV mX5_fail 2 := ⟨⟨by decide, tb_in 54 (by decide +kernel) rfl, tb_in 609 (by decide +kernel) rfl, by decide +kernel⟩, tb_in 607 (by decide +kernel) rfl, tb_in 608 (by decide +kernel) rfl⟩
theorem okX6_init : okN mX6_init 0 := ⟨by decide, tb_in 55 (by decide +kernel) rfl, tb_in 119 (by decide +kernel) rfl, by decide +kernel⟩
theorem okX6_clear : okV mX6_clear 0 := ⟨⟨by decide, tb_in 55 (by decide +kernel) rfl, tb_in 124 (by decide +kernel) rfl, by decide +kernel⟩, tb_in 122 (by decide +kernel) rfl, tb_in 123 (by decide +kernel) rfl⟩
theorem okX6_copyFrom : okV mX6_copyFrom 1 := ⟨⟨by decide, tb_in 55 (by decide +kernel) rfl, tb_in 652 (by decide +kernel) rfl, by decide +kernel⟩, tb_in 650 (by decide +kernel) rfl, tb_in 651 (by decide +kernel) rfl⟩
theorem okX6_joins : okV mX6_joins 2 := ⟨⟨by decide, tb_in 55 (by decide +kernel) rfl, tb_in 634 (by decide +kernel) rfl, by decide +kernel⟩, tb_in 632 (by decide +kernel) rfl, tb_in 633 (by decide +kernel) rfl⟩
theorem okX7_init : okN mX7_init 0 := ⟨by decide, tb_in 60 (by decide +kernel) rfl, tb_in 360 (by decide +kernel) rfl, by decide +kernel⟩
theorem okX7_clear : okV mX7_clear 0 := ⟨⟨by decide, tb_in 60 (by decide +kernel) rfl, tb_in 794 (by decide +kernel) rfl, by decide +kernel⟩, tb_in 792 (by decide +kernel) rfl, tb_in 793 (by decide +kernel) rfl⟩
theorem okX7_add : okV mX7_add 1 := ⟨⟨by decide, tb_in 60 (by decide +kernel) rfl, tb_in 802 (by decide +kernel) rfl, by decide +kernel⟩, tb_in 800 (by decide +kernel) rfl, tb_in 801 (by decide +kernel) rfl⟩
theorem okX7_fillByNumber : okV mX7_fillByNumber 1 := ⟨⟨by decide, tb_in 60 (by decide +kernel) rfl, tb_in 895 (by decide +kernel) rfl, by decide +kernel⟩, tb_in 893 (by decide +kernel) rfl, tb_in 894 (by decide +kernel) rfl⟩
theorem okX7_copyFrom : okV mX7_copyFrom 1 := ⟨⟨by decide, tb_in 60 (by decide +kernel) rfl, tb_in 890 (by decide +kernel) rfl, by decide +kernel⟩, tb_in 888 (by decide +kernel) rfl, tb_in 889 (by decide +kernel) rfl⟩
theorem okX7_stopAt : okV mX7_stopAt 1 := ⟨⟨by decide, tb_in 60 (by decide +kernel) rfl, tb_in 806 (by decide +kernel) rfl, by decide +kernel⟩, tb_in 804 (by decide +kernel) rfl, tb_in 805 (by decide +kernel) rfl⟩
theorem okX8_init : okN mX8_init 0 := ⟨by decide, tb_in 56 (by decide +kernel) rfl, tb_in 203 (by decide +kernel) rfl, by decide +kernel⟩
theorem okX8_isSkipped : okV mX8_isSkipped 1 := ⟨⟨by decide, tb_in 56 (by decide +kernel) rfl, tb_in 761 (by decide +kernel) rfl, by decide +kernel⟩, tb_in 759 (by decide +kernel) rfl, tb_in 760 (by decide +kernel) rfl⟩
theorem okX8_copyFrom : okV mX8_copyFrom 1 := ⟨⟨by decide, tb_in 56 (by decide +kernel) rfl, tb_in 659 (by decide +kernel) rfl, by decide +kernel⟩, tb_in 657 (by decide +kernel) rfl, tb_in 658 (by decide +kernel) rfl⟩
theorem okX9_init : okN mX9_init 0 := ⟨by decide, tb_in 53 (by decide +kernel) rfl, tb_in 84 (by decide +kernel) rfl, by decide +kernel⟩
theorem okX9_addFour : okV mX9_addFour 1 := ⟨⟨by decide, tb_in 53 (by decide +kernel) rfl, tb_in 521 (by decide +kernel) rfl, by decide +kernel⟩, tb_in 519 (by decide +kernel) rfl, tb_in 520 (by decide +kernel) rfl⟩
theorem okX9_begin : okV mX9_begin 1 := ⟨⟨by decide, tb_in 53 (by decide +kernel) rfl, tb_in 534 (by decide +kernel) rfl, by decide +kernel⟩, tb_in 532 (by decide +kernel) rfl, tb_in 533 (by decide +kernel) rfl⟩
theorem okX9_advance : okV mX9_advance 0 := ⟨⟨by decide, tb_in 53 (by decide +kernel) rfl, tb_in 541 (by decide +kernel) rfl, by decide +kernel⟩, tb_in 539 (by decide +kernel) rfl, tb_in 540 (by decide +kernel) rfl⟩
theorem okX9_kindOf : okS mX9_kindOf 1 := ⟨⟨by decide, tb_in 53 (by decide +kernel) rfl, tb_in 544 (by decide +kernel) rfl, by decide +kernel⟩, tb_in 543 (by decide +kernel) rfl⟩
theorem okX9_isWord : okV mX9_isWord 1 := ⟨⟨by decide, tb_in 53 (by decide +kernel) rfl, tb_in 553 (by decide +kernel) rfl, by decide +kernel⟩, tb_in 551 (by decide +kernel) rfl, tb_in 552 (by decide +kernel) rfl⟩
theorem okX9_value : okV mX9_value 0 := ⟨⟨by decide, tb_in 53 (by decide +kernel) rfl, tb_in 622 (by decide +kernel) rfl, by decide +kernel⟩, tb_in 620 (by decide +kernel) rfl, tb_in 621 (by decide +kernel) rfl⟩
theorem okX10_init : okN mX10_init 2 := ⟨by decide, tb_in 58 (by decide +kernel) rfl, tb_in 328 (by decide +kernel) rfl, by decide +kernel⟩
theorem okX10_demandOf : okV mX10_demandOf 1 := ⟨⟨by decide, tb_in 58 (by decide +kernel) rfl, tb_in 757 (by decide +kernel) rfl, by decide +kernel⟩, tb_in 755 (by decide +kernel) rfl, tb_in 756 (by decide +kernel) rfl⟩
theorem okX10_demandAtNode : okV mX10_demandAtNode 1 := ⟨⟨by decide, tb_in 58 (by decide +kernel) rfl, tb_in 933 (by decide +kernel) rfl, by decide +kernel⟩, tb_in 931 (by decide +kernel) rfl, tb_in 932 (by decide +kernel) rfl⟩
theorem okX10_sumOfDemands : okV mX10_sumOfDemands 0 := ⟨⟨by decide, tb_in 58 (by decide +kernel) rfl, tb_in 769 (by decide +kernel) rfl, by decide +kernel⟩, tb_in 767 (by decide +kernel) rfl, tb_in 768 (by decide +kernel) rfl⟩
theorem okX10_stopSet : okV mX10_stopSet 0 := ⟨⟨by decide, tb_in 58 (by decide +kernel) rfl, tb_in 778 (by decide +kernel) rfl, by decide +kernel⟩, tb_in 776 (by decide +kernel) rfl, tb_in 777 (by decide +kernel) rfl⟩
theorem okX10_visitMinutes : okV mX10_visitMinutes 1 := ⟨⟨by decide, tb_in 58 (by decide +kernel) rfl, tb_in 827 (by decide +kernel) rfl, by decide +kernel⟩, tb_in 825 (by decide +kernel) rfl, tb_in 826 (by decide +kernel) rfl⟩
theorem okX11_init : okN mX11_init 0 := ⟨by decide, tb_in 52 (by decide +kernel) rfl, tb_in 76 (by decide +kernel) rfl, by decide +kernel⟩
theorem okX11_append : okV mX11_append 5 := ⟨⟨by decide, tb_in 52 (by decide +kernel) rfl, tb_in 517 (by decide +kernel) rfl, by decide +kernel⟩, tb_in 515 (by decide +kernel) rfl, tb_in 516 (by decide +kernel) rfl⟩
theorem okX11_parse : okV mX11_parse 1 := ⟨⟨by decide, tb_in 52 (by decide +kernel) rfl, tb_in 525 (by decide +kernel) rfl, by decide +kernel⟩, tb_in 523 (by decide +kernel) rfl, tb_in 524 (by decide +kernel) rfl⟩
theorem okX11_nodeCount : okV mX11_nodeCount 0 := ⟨⟨by decide, tb_in 52 (by decide +kernel) rfl, tb_in 681 (by decide +kernel) rfl, by decide +kernel⟩, tb_in 679 (by decide +kernel) rfl, tb_in 680 (by decide +kernel) rfl⟩
theorem okX11_streetCount : okV mX11_streetCount 0 := ⟨⟨by decide, tb_in 52 (by decide +kernel) rfl, tb_in 685 (by decide +kernel) rfl, by decide +kernel⟩, tb_in 683 (by decide +kernel) rfl, tb_in 684 (by decide +kernel) rfl⟩
theorem okX11_houseCount : okV mX11_houseCount 0 := ⟨⟨by decide, tb_in 52 (by decide +kernel) rfl, tb_in 689 (by decide +kernel) rfl, by decide +kernel⟩, tb_in 687 (by decide +kernel) rfl, tb_in 688 (by decide +kernel) rfl⟩
theorem okX11_capacity : okV mX11_capacity 0 := ⟨⟨by decide, tb_in 52 (by decide +kernel) rfl, tb_in 693 (by decide +kernel) rfl, by decide +kernel⟩, tb_in 691 (by decide +kernel) rfl, tb_in 692 (by decide +kernel) rfl⟩
theorem okX11_day : okV mX11_day 0 := ⟨⟨by decide, tb_in 52 (by decide +kernel) rfl, tb_in 697 (by decide +kernel) rfl, by decide +kernel⟩, tb_in 695 (by decide +kernel) rfl, tb_in 696 (by decide +kernel) rfl⟩
theorem okX11_houseNode : okV mX11_houseNode 1 := ⟨⟨by decide, tb_in 52 (by decide +kernel) rfl, tb_in 701 (by decide +kernel) rfl, by decide +kernel⟩, tb_in 699 (by decide +kernel) rfl, tb_in 700 (by decide +kernel) rfl⟩
theorem okX11_order : okV mX11_order 2 := ⟨⟨by decide, tb_in 52 (by decide +kernel) rfl, tb_in 709 (by decide +kernel) rfl, by decide +kernel⟩, tb_in 707 (by decide +kernel) rfl, tb_in 708 (by decide +kernel) rfl⟩
theorem okX11_isOpen : okV mX11_isOpen 2 := ⟨⟨by decide, tb_in 52 (by decide +kernel) rfl, tb_in 716 (by decide +kernel) rfl, by decide +kernel⟩, tb_in 714 (by decide +kernel) rfl, tb_in 715 (by decide +kernel) rfl⟩
theorem okX11_arrival : okV mX11_arrival 3 := ⟨⟨by decide, tb_in 52 (by decide +kernel) rfl, tb_in 724 (by decide +kernel) rfl, by decide +kernel⟩, tb_in 722 (by decide +kernel) rfl, tb_in 723 (by decide +kernel) rfl⟩
theorem okX11_demand : okV mX11_demand 1 := ⟨⟨by decide, tb_in 52 (by decide +kernel) rfl, tb_in 753 (by decide +kernel) rfl, by decide +kernel⟩, tb_in 751 (by decide +kernel) rfl, tb_in 752 (by decide +kernel) rfl⟩
theorem okX11_totalDemand : okV mX11_totalDemand 0 := ⟨⟨by decide, tb_in 52 (by decide +kernel) rfl, tb_in 765 (by decide +kernel) rfl, by decide +kernel⟩, tb_in 763 (by decide +kernel) rfl, tb_in 764 (by decide +kernel) rfl⟩
theorem okX11_stops : okV mX11_stops 0 := ⟨⟨by decide, tb_in 52 (by decide +kernel) rfl, tb_in 774 (by decide +kernel) rfl, by decide +kernel⟩, tb_in 772 (by decide +kernel) rfl, tb_in 773 (by decide +kernel) rfl⟩
theorem okX11_habit : okV mX11_habit 2 := ⟨⟨by decide, tb_in 52 (by decide +kernel) rfl, tb_in 782 (by decide +kernel) rfl, by decide +kernel⟩, tb_in 780 (by decide +kernel) rfl, tb_in 781 (by decide +kernel) rfl⟩
theorem okX11_horseStop : okV mX11_horseStop 1 := ⟨⟨by decide, tb_in 52 (by decide +kernel) rfl, tb_in 786 (by decide +kernel) rfl, by decide +kernel⟩, tb_in 784 (by decide +kernel) rfl, tb_in 785 (by decide +kernel) rfl⟩
theorem okX11_fastestFinish : okV mX11_fastestFinish 0 := ⟨⟨by decide, tb_in 52 (by decide +kernel) rfl, tb_in 810 (by decide +kernel) rfl, by decide +kernel⟩, tb_in 808 (by decide +kernel) rfl, tb_in 809 (by decide +kernel) rfl⟩
theorem okX11_fastestStop : okV mX11_fastestStop 1 := ⟨⟨by decide, tb_in 52 (by decide +kernel) rfl, tb_in 875 (by decide +kernel) rfl, by decide +kernel⟩, tb_in 873 (by decide +kernel) rfl, tb_in 874 (by decide +kernel) rfl⟩
theorem okX11_previewFinish : okV mX11_previewFinish 1 := ⟨⟨by decide, tb_in 52 (by decide +kernel) rfl, tb_in 879 (by decide +kernel) rfl, by decide +kernel⟩, tb_in 877 (by decide +kernel) rfl, tb_in 878 (by decide +kernel) rfl⟩
theorem okX11_bottlesAt : okV mX11_bottlesAt 1 := ⟨⟨by decide, tb_in 52 (by decide +kernel) rfl, tb_in 937 (by decide +kernel) rfl, by decide +kernel⟩, tb_in 935 (by decide +kernel) rfl, tb_in 936 (by decide +kernel) rfl⟩
theorem okX11_delivered : okV mX11_delivered 1 := ⟨⟨by decide, tb_in 52 (by decide +kernel) rfl, tb_in 941 (by decide +kernel) rfl, by decide +kernel⟩, tb_in 939 (by decide +kernel) rfl, tb_in 940 (by decide +kernel) rfl⟩
theorem okX11_returned : okV mX11_returned 1 := ⟨⟨by decide, tb_in 52 (by decide +kernel) rfl, tb_in 945 (by decide +kernel) rfl, by decide +kernel⟩, tb_in 943 (by decide +kernel) rfl, tb_in 944 (by decide +kernel) rfl⟩
theorem okX11_broken : okV mX11_broken 1 := ⟨⟨by decide, tb_in 52 (by decide +kernel) rfl, tb_in 949 (by decide +kernel) rfl, by decide +kernel⟩, tb_in 947 (by decide +kernel) rfl, tb_in 948 (by decide +kernel) rfl⟩
theorem okX11_bill : okV mX11_bill 1 := ⟨⟨by decide, tb_in 52 (by decide +kernel) rfl, tb_in 953 (by decide +kernel) rfl, by decide +kernel⟩, tb_in 951 (by decide +kernel) rfl, tb_in 952 (by decide +kernel) rfl⟩
theorem okX11_bottlesOut : okV mX11_bottlesOut 0 := ⟨⟨by decide, tb_in 52 (by decide +kernel) rfl, tb_in 957 (by decide +kernel) rfl, by decide +kernel⟩, tb_in 955 (by decide +kernel) rfl, tb_in 956 (by decide +kernel) rfl⟩
theorem okX11_finish : okV mX11_finish 0 := ⟨⟨by decide, tb_in 52 (by decide +kernel) rfl, tb_in 961 (by decide +kernel) rfl, by decide +kernel⟩, tb_in 959 (by decide +kernel) rfl, tb_in 960 (by decide +kernel) rfl⟩
theorem okX11_visitCount : okV mX11_visitCount 0 := ⟨⟨by decide, tb_in 52 (by decide +kernel) rfl, tb_in 965 (by decide +kernel) rfl, by decide +kernel⟩, tb_in 963 (by decide +kernel) rfl, tb_in 964 (by decide +kernel) rfl⟩
theorem okX11_visitHouse : okV mX11_visitHouse 1 := ⟨⟨by decide, tb_in 52 (by decide +kernel) rfl, tb_in 969 (by decide +kernel) rfl, by decide +kernel⟩, tb_in 967 (by decide +kernel) rfl, tb_in 968 (by decide +kernel) rfl⟩
theorem okX11_visitMinute : okV mX11_visitMinute 1 := ⟨⟨by decide, tb_in 52 (by decide +kernel) rfl, tb_in 977 (by decide +kernel) rfl, by decide +kernel⟩, tb_in 975 (by decide +kernel) rfl, tb_in 976 (by decide +kernel) rfl⟩
theorem okX11_visitReturned : okV mX11_visitReturned 1 := ⟨⟨by decide, tb_in 52 (by decide +kernel) rfl, tb_in 981 (by decide +kernel) rfl, by decide +kernel⟩, tb_in 979 (by decide +kernel) rfl, tb_in 980 (by decide +kernel) rfl⟩
theorem okX11_reloads : okV mX11_reloads 0 := ⟨⟨by decide, tb_in 52 (by decide +kernel) rfl, tb_in 985 (by decide +kernel) rfl, by decide +kernel⟩, tb_in 983 (by decide +kernel) rfl, tb_in 984 (by decide +kernel) rfl⟩
theorem okX11_carryOut : okV mX11_carryOut 1 := ⟨⟨by decide, tb_in 52 (by decide +kernel) rfl, tb_in 989 (by decide +kernel) rfl, by decide +kernel⟩, tb_in 987 (by decide +kernel) rfl, tb_in 988 (by decide +kernel) rfl⟩
theorem okX11_setSkipped : okV mX11_setSkipped 2 := ⟨⟨by decide, tb_in 52 (by decide +kernel) rfl, tb_in 1012 (by decide +kernel) rfl, by decide +kernel⟩, tb_in 1010 (by decide +kernel) rfl, tb_in 1011 (by decide +kernel) rfl⟩
theorem okX11_breakBottles : okV mX11_breakBottles 2 := ⟨⟨by decide, tb_in 52 (by decide +kernel) rfl, tb_in 1017 (by decide +kernel) rfl, by decide +kernel⟩, tb_in 1015 (by decide +kernel) rfl, tb_in 1016 (by decide +kernel) rfl⟩
theorem okX11_setOrder : okV mX11_setOrder 3 := ⟨⟨by decide, tb_in 52 (by decide +kernel) rfl, tb_in 1021 (by decide +kernel) rfl, by decide +kernel⟩, tb_in 1019 (by decide +kernel) rfl, tb_in 1020 (by decide +kernel) rfl⟩
theorem okX11_setKeep : okV mX11_setKeep 2 := ⟨⟨by decide, tb_in 52 (by decide +kernel) rfl, tb_in 1025 (by decide +kernel) rfl, by decide +kernel⟩, tb_in 1023 (by decide +kernel) rfl, tb_in 1024 (by decide +kernel) rfl⟩
theorem okX11_setGate : okV mX11_setGate 3 := ⟨⟨by decide, tb_in 52 (by decide +kernel) rfl, tb_in 1029 (by decide +kernel) rfl, by decide +kernel⟩, tb_in 1027 (by decide +kernel) rfl, tb_in 1028 (by decide +kernel) rfl⟩
theorem okX11_undo : okV mX11_undo 0 := ⟨⟨by decide, tb_in 52 (by decide +kernel) rfl, tb_in 1033 (by decide +kernel) rfl, by decide +kernel⟩, tb_in 1031 (by decide +kernel) rfl, tb_in 1032 (by decide +kernel) rfl⟩
theorem okX11_saveSnapshot : okV mX11_saveSnapshot 1 := ⟨⟨by decide, tb_in 52 (by decide +kernel) rfl, tb_in 1041 (by decide +kernel) rfl, by decide +kernel⟩, tb_in 1039 (by decide +kernel) rfl, tb_in 1040 (by decide +kernel) rfl⟩
theorem okX11_restoreSnapshot : okV mX11_restoreSnapshot 1 := ⟨⟨by decide, tb_in 52 (by decide +kernel) rfl, tb_in 1048 (by decide +kernel) rfl, by decide +kernel⟩, tb_in 1046 (by decide +kernel) rfl, tb_in 1047 (by decide +kernel) rfl⟩
theorem okX11_isHouse : okV mX11_isHouse 1 := ⟨⟨by decide, tb_in 52 (by decide +kernel) rfl, tb_in 705 (by decide +kernel) rfl, by decide +kernel⟩, tb_in 704 (by decide +kernel) rfl, tb_in 1 (by decide +kernel) rfl⟩
theorem okX11_isStreet : okV mX11_isStreet 1 := ⟨⟨by decide, tb_in 52 (by decide +kernel) rfl, tb_in 720 (by decide +kernel) rfl, by decide +kernel⟩, tb_in 719 (by decide +kernel) rfl, tb_in 2 (by decide +kernel) rfl⟩
theorem okX11_isNode : okV mX11_isNode 1 := ⟨⟨by decide, tb_in 52 (by decide +kernel) rfl, tb_in 728 (by decide +kernel) rfl, by decide +kernel⟩, tb_in 727 (by decide +kernel) rfl, tb_in 3 (by decide +kernel) rfl⟩
theorem okX11_isVisit : okV mX11_isVisit 1 := ⟨⟨by decide, tb_in 52 (by decide +kernel) rfl, tb_in 973 (by decide +kernel) rfl, by decide +kernel⟩, tb_in 972 (by decide +kernel) rfl, tb_in 7 (by decide +kernel) rfl⟩
theorem okX11_isWeekday : okS mX11_isWeekday 1 := ⟨⟨by decide, tb_in 52 (by decide +kernel) rfl, tb_in 712 (by decide +kernel) rfl, by decide +kernel⟩, tb_in 711 (by decide +kernel) rfl⟩
theorem okX11_isChoice : okS mX11_isChoice 1 := ⟨⟨by decide, tb_in 52 (by decide +kernel) rfl, tb_in 882 (by decide +kernel) rfl, by decide +kernel⟩, tb_in 881 (by decide +kernel) rfl⟩
theorem okX11_isSlot : okS mX11_isSlot 1 := ⟨⟨by decide, tb_in 52 (by decide +kernel) rfl, tb_in 1044 (by decide +kernel) rfl, by decide +kernel⟩, tb_in 1043 (by decide +kernel) rfl⟩
theorem okX11_emptySlots : okV mX11_emptySlots 0 := ⟨⟨by decide, tb_in 52 (by decide +kernel) rfl, tb_in 673 (by decide +kernel) rfl, by decide +kernel⟩, tb_in 672 (by decide +kernel) rfl, tb_in 0 (by decide +kernel) rfl⟩
theorem okX11_beginChange : okV mX11_beginChange 0 := ⟨⟨by decide, tb_in 52 (by decide +kernel) rfl, tb_in 993 (by decide +kernel) rfl, by decide +kernel⟩, tb_in 992 (by decide +kernel) rfl, tb_in 8 (by decide +kernel) rfl⟩
theorem okX11_chooseRoute : okV mX11_chooseRoute 1 := ⟨⟨by decide, tb_in 52 (by decide +kernel) rfl, tb_in 886 (by decide +kernel) rfl, by decide +kernel⟩, tb_in 885 (by decide +kernel) rfl, tb_in 6 (by decide +kernel) rfl⟩
theorem okX11_chooseByHabit : okV mX11_chooseByHabit 0 := ⟨⟨by decide, tb_in 52 (by decide +kernel) rfl, tb_in 790 (by decide +kernel) rfl, by decide +kernel⟩, tb_in 789 (by decide +kernel) rfl, tb_in 4 (by decide +kernel) rfl⟩
theorem okX11_horseChoice : okV mX11_horseChoice 2 := ⟨⟨by decide, tb_in 52 (by decide +kernel) rfl, tb_in 798 (by decide +kernel) rfl, by decide +kernel⟩, tb_in 797 (by decide +kernel) rfl, tb_in 5 (by decide +kernel) rfl⟩
theorem okX11_settleAccounts : okV mX11_settleAccounts 1 := ⟨⟨by decide, tb_in 52 (by decide +kernel) rfl, tb_in 1003 (by decide +kernel) rfl, by decide +kernel⟩, tb_in 1002 (by decide +kernel) rfl, tb_in 9 (by decide +kernel) rfl⟩
theorem okX11_learnHabits : okV mX11_learnHabits 1 := ⟨⟨by decide, tb_in 52 (by decide +kernel) rfl, tb_in 1007 (by decide +kernel) rfl, by decide +kernel⟩, tb_in 1006 (by decide +kernel) rfl, tb_in 10 (by decide +kernel) rfl⟩
theorem okX12_init : okN mX12_init 0 := ⟨by decide, tb_in 64 (by decide +kernel) rfl, tb_in 1053 (by decide +kernel) rfl, by decide +kernel⟩
theorem okX12_within : okS mX12_within 3 := ⟨⟨by decide, tb_in 64 (by decide +kernel) rfl, tb_in 1209 (by decide +kernel) rfl, by decide +kernel⟩, tb_in 1208 (by decide +kernel) rfl⟩
theorem okX12_appendInt : okV mX12_appendInt 1 := ⟨⟨by decide, tb_in 64 (by decide +kernel) rfl, tb_in 1202 (by decide +kernel) rfl, by decide +kernel⟩, tb_in 1201 (by decide +kernel) rfl, tb_in 12 (by decide +kernel) rfl⟩
theorem okX12_append : okV mX12_append 5 := ⟨⟨by decide, tb_in 64 (by decide +kernel) rfl, tb_in 1198 (by decide +kernel) rfl, by decide +kernel⟩, tb_in 1196 (by decide +kernel) rfl, tb_in 1197 (by decide +kernel) rfl⟩
theorem okX12_byteAt : okV mX12_byteAt 1 := ⟨⟨by decide, tb_in 64 (by decide +kernel) rfl, tb_in 1217 (by decide +kernel) rfl, by decide +kernel⟩, tb_in 1216 (by decide +kernel) rfl, tb_in 14 (by decide +kernel) rfl⟩
theorem okX12_nextToken : okV mX12_nextToken 0 := ⟨⟨by decide, tb_in 64 (by decide +kernel) rfl, tb_in 1213 (by decide +kernel) rfl, by decide +kernel⟩, tb_in 1212 (by decide +kernel) rfl, tb_in 13 (by decide +kernel) rfl⟩
theorem okX12_must : okV mX12_must 2 := ⟨⟨by decide, tb_in 64 (by decide +kernel) rfl, tb_in 1240 (by decide +kernel) rfl, by decide +kernel⟩, tb_in 1239 (by decide +kernel) rfl, tb_in 18 (by decide +kernel) rfl⟩
theorem okX12_is : okV mX12_is 1 := ⟨⟨by decide, tb_in 64 (by decide +kernel) rfl, tb_in 1230 (by decide +kernel) rfl, by decide +kernel⟩, tb_in 1229 (by decide +kernel) rfl, tb_in 16 (by decide +kernel) rfl⟩
theorem okX12_number : okV mX12_number 2 := ⟨⟨by decide, tb_in 64 (by decide +kernel) rfl, tb_in 1244 (by decide +kernel) rfl, by decide +kernel⟩, tb_in 1243 (by decide +kernel) rfl, tb_in 19 (by decide +kernel) rfl⟩
theorem okX12_isJoined : okV mX12_isJoined 3 := ⟨⟨by decide, tb_in 64 (by decide +kernel) rfl, tb_in 1248 (by decide +kernel) rfl, by decide +kernel⟩, tb_in 1247 (by decide +kernel) rfl, tb_in 20 (by decide +kernel) rfl⟩
theorem okX12_readStreet : okV mX12_readStreet 0 := ⟨⟨by decide, tb_in 64 (by decide +kernel) rfl, tb_in 1236 (by decide +kernel) rfl, by decide +kernel⟩, tb_in 1235 (by decide +kernel) rfl, tb_in 17 (by decide +kernel) rfl⟩
theorem okX12_readHouse : okV mX12_readHouse 0 := ⟨⟨by decide, tb_in 64 (by decide +kernel) rfl, tb_in 1254 (by decide +kernel) rfl, by decide +kernel⟩, tb_in 1253 (by decide +kernel) rfl, tb_in 21 (by decide +kernel) rfl⟩
theorem okX12_once : okV mX12_once 1 := ⟨⟨by decide, tb_in 64 (by decide +kernel) rfl, tb_in 1259 (by decide +kernel) rfl, by decide +kernel⟩, tb_in 1258 (by decide +kernel) rfl, tb_in 22 (by decide +kernel) rfl⟩
theorem okX12_statement : okV mX12_statement 0 := ⟨⟨by decide, tb_in 64 (by decide +kernel) rfl, tb_in 1225 (by decide +kernel) rfl, by decide +kernel⟩, tb_in 1224 (by decide +kernel) rfl, tb_in 15 (by decide +kernel) rfl⟩
theorem okX12_adopt : okS mX12_adopt 1 := ⟨⟨by decide, tb_in 64 (by decide +kernel) rfl, tb_in 1265 (by decide +kernel) rfl, by decide +kernel⟩, tb_in 1264 (by decide +kernel) rfl⟩
theorem okX12_parse : okV mX12_parse 1 := ⟨⟨by decide, tb_in 64 (by decide +kernel) rfl, tb_in 1206 (by decide +kernel) rfl, by decide +kernel⟩, tb_in 1204 (by decide +kernel) rfl, tb_in 1205 (by decide +kernel) rfl⟩
theorem okX12_clearLedger : okV mX12_clearLedger 0 := ⟨⟨by decide, tb_in 64 (by decide +kernel) rfl, tb_in 1058 (by decide +kernel) rfl, by decide +kernel⟩, tb_in 1057 (by decide +kernel) rfl, tb_in 11 (by decide +kernel) rfl⟩
theorem okX12_keepState : okV mX12_keepState 0 := ⟨⟨by decide, tb_in 64 (by decide +kernel) rfl, tb_in 1443 (by decide +kernel) rfl, by decide +kernel⟩, tb_in 1442 (by decide +kernel) rfl, tb_in 47 (by decide +kernel) rfl⟩
theorem okX12_isHouse : okV mX12_isHouse 1 := ⟨⟨by decide, tb_in 64 (by decide +kernel) rfl, tb_in 1293 (by decide +kernel) rfl, by decide +kernel⟩, tb_in 1292 (by decide +kernel) rfl, tb_in 23 (by decide +kernel) rfl⟩
theorem okX12_isStreet : okV mX12_isStreet 1 := ⟨⟨by decide, tb_in 64 (by decide +kernel) rfl, tb_in 1306 (by decide +kernel) rfl, by decide +kernel⟩, tb_in 1305 (by decide +kernel) rfl, tb_in 24 (by decide +kernel) rfl⟩
theorem okX12_isNode : okV mX12_isNode 1 := ⟨⟨by decide, tb_in 64 (by decide +kernel) rfl, tb_in 1314 (by decide +kernel) rfl, by decide +kernel⟩, tb_in 1313 (by decide +kernel) rfl, tb_in 25 (by decide +kernel) rfl⟩
theorem okX12_nodeCount : okV mX12_nodeCount 0 := ⟨⟨by decide, tb_in 64 (by decide +kernel) rfl, tb_in 1269 (by decide +kernel) rfl, by decide +kernel⟩, tb_in 1267 (by decide +kernel) rfl, tb_in 1268 (by decide +kernel) rfl⟩
theorem okX12_streetCount : okV mX12_streetCount 0 := ⟨⟨by decide, tb_in 64 (by decide +kernel) rfl, tb_in 1273 (by decide +kernel) rfl, by decide +kernel⟩, tb_in 1271 (by decide +kernel) rfl, tb_in 1272 (by decide +kernel) rfl⟩
theorem okX12_houseCount : okV mX12_houseCount 0 := ⟨⟨by decide, tb_in 64 (by decide +kernel) rfl, tb_in 1277 (by decide +kernel) rfl, by decide +kernel⟩, tb_in 1275 (by decide +kernel) rfl, tb_in 1276 (by decide +kernel) rfl⟩
theorem okX12_capacity : okV mX12_capacity 0 := ⟨⟨by decide, tb_in 64 (by decide +kernel) rfl, tb_in 1281 (by decide +kernel) rfl, by decide +kernel⟩, tb_in 1279 (by decide +kernel) rfl, tb_in 1280 (by decide +kernel) rfl⟩
theorem okX12_day : okV mX12_day 0 := ⟨⟨by decide, tb_in 64 (by decide +kernel) rfl, tb_in 1285 (by decide +kernel) rfl, by decide +kernel⟩, tb_in 1283 (by decide +kernel) rfl, tb_in 1284 (by decide +kernel) rfl⟩
theorem okX12_houseNode : okV mX12_houseNode 1 := ⟨⟨by decide, tb_in 64 (by decide +kernel) rfl, tb_in 1289 (by decide +kernel) rfl, by decide +kernel⟩, tb_in 1287 (by decide +kernel) rfl, tb_in 1288 (by decide +kernel) rfl⟩
theorem okX12_order : okV mX12_order 2 := ⟨⟨by decide, tb_in 64 (by decide +kernel) rfl, tb_in 1297 (by decide +kernel) rfl, by decide +kernel⟩, tb_in 1295 (by decide +kernel) rfl, tb_in 1296 (by decide +kernel) rfl⟩
theorem okX12_through : okV mX12_through 2 := ⟨⟨by decide, tb_in 64 (by decide +kernel) rfl, tb_in 1328 (by decide +kernel) rfl, by decide +kernel⟩, tb_in 1327 (by decide +kernel) rfl, tb_in 28 (by decide +kernel) rfl⟩
theorem okX12_layArrivals : okV mX12_layArrivals 2 := ⟨⟨by decide, tb_in 64 (by decide +kernel) rfl, tb_in 1323 (by decide +kernel) rfl, by decide +kernel⟩, tb_in 1322 (by decide +kernel) rfl, tb_in 27 (by decide +kernel) rfl⟩
theorem okX12_arrivalOf : okV mX12_arrivalOf 3 := ⟨⟨by decide, tb_in 64 (by decide +kernel) rfl, tb_in 1319 (by decide +kernel) rfl, by decide +kernel⟩, tb_in 1318 (by decide +kernel) rfl, tb_in 26 (by decide +kernel) rfl⟩
theorem okX12_isOpen : okV mX12_isOpen 2 := ⟨⟨by decide, tb_in 64 (by decide +kernel) rfl, tb_in 1302 (by decide +kernel) rfl, by decide +kernel⟩, tb_in 1300 (by decide +kernel) rfl, tb_in 1301 (by decide +kernel) rfl⟩
theorem okX12_arrival : okV mX12_arrival 3 := ⟨⟨by decide, tb_in 64 (by decide +kernel) rfl, tb_in 1310 (by decide +kernel) rfl, by decide +kernel⟩, tb_in 1308 (by decide +kernel) rfl, tb_in 1309 (by decide +kernel) rfl⟩
theorem okX12_demandOf : okV mX12_demandOf 1 := ⟨⟨by decide, tb_in 64 (by decide +kernel) rfl, tb_in 1337 (by decide +kernel) rfl, by decide +kernel⟩, tb_in 1336 (by decide +kernel) rfl, tb_in 29 (by decide +kernel) rfl⟩
theorem okX12_demand : okV mX12_demand 1 := ⟨⟨by decide, tb_in 64 (by decide +kernel) rfl, tb_in 1333 (by decide +kernel) rfl, by decide +kernel⟩, tb_in 1331 (by decide +kernel) rfl, tb_in 1332 (by decide +kernel) rfl⟩
theorem okX12_totalOf : okV mX12_totalOf 0 := ⟨⟨by decide, tb_in 64 (by decide +kernel) rfl, tb_in 1345 (by decide +kernel) rfl, by decide +kernel⟩, tb_in 1344 (by decide +kernel) rfl, tb_in 30 (by decide +kernel) rfl⟩
theorem okX12_totalDemand : okV mX12_totalDemand 0 := ⟨⟨by decide, tb_in 64 (by decide +kernel) rfl, tb_in 1341 (by decide +kernel) rfl, by decide +kernel⟩, tb_in 1339 (by decide +kernel) rfl, tb_in 1340 (by decide +kernel) rfl⟩
theorem okX12_stopSet : okV mX12_stopSet 0 := ⟨⟨by decide, tb_in 64 (by decide +kernel) rfl, tb_in 1353 (by decide +kernel) rfl, by decide +kernel⟩, tb_in 1352 (by decide +kernel) rfl, tb_in 31 (by decide +kernel) rfl⟩
theorem okX12_stops : okV mX12_stops 0 := ⟨⟨by decide, tb_in 64 (by decide +kernel) rfl, tb_in 1349 (by decide +kernel) rfl, by decide +kernel⟩, tb_in 1347 (by decide +kernel) rfl, tb_in 1348 (by decide +kernel) rfl⟩
theorem okX12_habitOf : okV mX12_habitOf 2 := ⟨⟨by decide, tb_in 64 (by decide +kernel) rfl, tb_in 1361 (by decide +kernel) rfl, by decide +kernel⟩, tb_in 1360 (by decide +kernel) rfl, tb_in 32 (by decide +kernel) rfl⟩
theorem okX12_habit : okV mX12_habit 2 := ⟨⟨by decide, tb_in 64 (by decide +kernel) rfl, tb_in 1357 (by decide +kernel) rfl, by decide +kernel⟩, tb_in 1355 (by decide +kernel) rfl, tb_in 1356 (by decide +kernel) rfl⟩
theorem okX12_layByNumber : okV mX12_layByNumber 0 := ⟨⟨by decide, tb_in 64 (by decide +kernel) rfl, tb_in 1410 (by decide +kernel) rfl, by decide +kernel⟩, tb_in 1409 (by decide +kernel) rfl, tb_in 40 (by decide +kernel) rfl⟩
theorem okX12_layHorse : okV mX12_layHorse 0 := ⟨⟨by decide, tb_in 64 (by decide +kernel) rfl, tb_in 1369 (by decide +kernel) rfl, by decide +kernel⟩, tb_in 1368 (by decide +kernel) rfl, tb_in 33 (by decide +kernel) rfl⟩
theorem okX12_stayAt : okV mX12_stayAt 1 := ⟨⟨by decide, tb_in 64 (by decide +kernel) rfl, tb_in 1389 (by decide +kernel) rfl, by decide +kernel⟩, tb_in 1388 (by decide +kernel) rfl, tb_in 37 (by decide +kernel) rfl⟩
theorem okX12_bestEnd : okV mX12_bestEnd 3 := ⟨⟨by decide, tb_in 64 (by decide +kernel) rfl, tb_in 1385 (by decide +kernel) rfl, by decide +kernel⟩, tb_in 1384 (by decide +kernel) rfl, tb_in 36 (by decide +kernel) rfl⟩
theorem okX12_goesOn : okV mX12_goesOn 3 := ⟨⟨by decide, tb_in 64 (by decide +kernel) rfl, tb_in 1393 (by decide +kernel) rfl, by decide +kernel⟩, tb_in 1392 (by decide +kernel) rfl, tb_in 38 (by decide +kernel) rfl⟩
theorem okX12_layFastest : okV mX12_layFastest 0 := ⟨⟨by decide, tb_in 64 (by decide +kernel) rfl, tb_in 1381 (by decide +kernel) rfl, by decide +kernel⟩, tb_in 1380 (by decide +kernel) rfl, tb_in 35 (by decide +kernel) rfl⟩
theorem okX12_stopAt : okV mX12_stopAt 1 := ⟨⟨by decide, tb_in 64 (by decide +kernel) rfl, tb_in 1373 (by decide +kernel) rfl, by decide +kernel⟩, tb_in 1372 (by decide +kernel) rfl, tb_in 34 (by decide +kernel) rfl⟩
theorem okX12_horseStop : okV mX12_horseStop 1 := ⟨⟨by decide, tb_in 64 (by decide +kernel) rfl, tb_in 1365 (by decide +kernel) rfl, by decide +kernel⟩, tb_in 1363 (by decide +kernel) rfl, tb_in 1364 (by decide +kernel) rfl⟩
theorem okX12_fastestFinish : okV mX12_fastestFinish 0 := ⟨⟨by decide, tb_in 64 (by decide +kernel) rfl, tb_in 1377 (by decide +kernel) rfl, by decide +kernel⟩, tb_in 1375 (by decide +kernel) rfl, tb_in 1376 (by decide +kernel) rfl⟩
theorem okX12_fastestStop : okV mX12_fastestStop 1 := ⟨⟨by decide, tb_in 64 (by decide +kernel) rfl, tb_in 1397 (by decide +kernel) rfl, by decide +kernel⟩, tb_in 1395 (by decide +kernel) rfl, tb_in 1396 (by decide +kernel) rfl⟩
theorem okX12_layOrder : okV mX12_layOrder 1 := ⟨⟨by decide, tb_in 64 (by decide +kernel) rfl, tb_in 1406 (by decide +kernel) rfl, by decide +kernel⟩, tb_in 1405 (by decide +kernel) rfl, tb_in 39 (by decide +kernel) rfl⟩
theorem okX12_stillWanted : okV mX12_stillWanted 0 := ⟨⟨by decide, tb_in 64 (by decide +kernel) rfl, tb_in 1430 (by decide +kernel) rfl, by decide +kernel⟩, tb_in 1429 (by decide +kernel) rfl, tb_in 45 (by decide +kernel) rfl⟩
theorem okX12_reload : okV mX12_reload 1 := ⟨⟨by decide, tb_in 64 (by decide +kernel) rfl, tb_in 1426 (by decide +kernel) rfl, by decide +kernel⟩, tb_in 1425 (by decide +kernel) rfl, tb_in 44 (by decide +kernel) rfl⟩
theorem okX12_visit : okV mX12_visit 1 := ⟨⟨by decide, tb_in 64 (by decide +kernel) rfl, tb_in 1434 (by decide +kernel) rfl, by decide +kernel⟩, tb_in 1433 (by decide +kernel) rfl, tb_in 46 (by decide +kernel) rfl⟩
theorem okX12_visitStop : okV mX12_visitStop 1 := ⟨⟨by decide, tb_in 64 (by decide +kernel) rfl, tb_in 1422 (by decide +kernel) rfl, by decide +kernel⟩, tb_in 1421 (by decide +kernel) rfl, tb_in 43 (by decide +kernel) rfl⟩
theorem okX12_leaveOut : okV mX12_leaveOut 1 := ⟨⟨by decide, tb_in 64 (by decide +kernel) rfl, tb_in 1418 (by decide +kernel) rfl, by decide +kernel⟩, tb_in 1417 (by decide +kernel) rfl, tb_in 42 (by decide +kernel) rfl⟩
theorem okX12_playRound : okV mX12_playRound 0 := ⟨⟨by decide, tb_in 64 (by decide +kernel) rfl, tb_in 1414 (by decide +kernel) rfl, by decide +kernel⟩, tb_in 1413 (by decide +kernel) rfl, tb_in 41 (by decide +kernel) rfl⟩
theorem okX12_previewFinish : okV mX12_previewFinish 1 := ⟨⟨by decide, tb_in 64 (by decide +kernel) rfl, tb_in 1401 (by decide +kernel) rfl, by decide +kernel⟩, tb_in 1399 (by decide +kernel) rfl, tb_in 1400 (by decide +kernel) rfl⟩
theorem okX12_learn : okV mX12_learn 2 := ⟨⟨by decide, tb_in 64 (by decide +kernel) rfl, tb_in 1447 (by decide +kernel) rfl, by decide +kernel⟩, tb_in 1446 (by decide +kernel) rfl, tb_in 48 (by decide +kernel) rfl⟩
theorem okX12_carryOut : okV mX12_carryOut 1 := ⟨⟨by decide, tb_in 64 (by decide +kernel) rfl, tb_in 1439 (by decide +kernel) rfl, by decide +kernel⟩, tb_in 1437 (by decide +kernel) rfl, tb_in 1438 (by decide +kernel) rfl⟩
theorem okX12_bottlesAt : okV mX12_bottlesAt 1 := ⟨⟨by decide, tb_in 64 (by decide +kernel) rfl, tb_in 1451 (by decide +kernel) rfl, by decide +kernel⟩, tb_in 1449 (by decide +kernel) rfl, tb_in 1450 (by decide +kernel) rfl⟩
theorem okX12_delivered : okV mX12_delivered 1 := ⟨⟨by decide, tb_in 64 (by decide +kernel) rfl, tb_in 1455 (by decide +kernel) rfl, by decide +kernel⟩, tb_in 1453 (by decide +kernel) rfl, tb_in 1454 (by decide +kernel) rfl⟩
theorem okX12_returned : okV mX12_returned 1 := ⟨⟨by decide, tb_in 64 (by decide +kernel) rfl, tb_in 1459 (by decide +kernel) rfl, by decide +kernel⟩, tb_in 1457 (by decide +kernel) rfl, tb_in 1458 (by decide +kernel) rfl⟩
theorem okX12_broken : okV mX12_broken 1 := ⟨⟨by decide, tb_in 64 (by decide +kernel) rfl, tb_in 1463 (by decide +kernel) rfl, by decide +kernel⟩, tb_in 1461 (by decide +kernel) rfl, tb_in 1462 (by decide +kernel) rfl⟩
theorem okX12_bill : okV mX12_bill 1 := ⟨⟨by decide, tb_in 64 (by decide +kernel) rfl, tb_in 1467 (by decide +kernel) rfl, by decide +kernel⟩, tb_in 1465 (by decide +kernel) rfl, tb_in 1466 (by decide +kernel) rfl⟩
theorem okX12_bottlesOut : okV mX12_bottlesOut 0 := ⟨⟨by decide, tb_in 64 (by decide +kernel) rfl, tb_in 1471 (by decide +kernel) rfl, by decide +kernel⟩, tb_in 1469 (by decide +kernel) rfl, tb_in 1470 (by decide +kernel) rfl⟩
theorem okX12_finish : okV mX12_finish 0 := ⟨⟨by decide, tb_in 64 (by decide +kernel) rfl, tb_in 1475 (by decide +kernel) rfl, by decide +kernel⟩, tb_in 1473 (by decide +kernel) rfl, tb_in 1474 (by decide +kernel) rfl⟩
theorem okX12_visitCount : okV mX12_visitCount 0 := ⟨⟨by decide, tb_in 64 (by decide +kernel) rfl, tb_in 1479 (by decide +kernel) rfl, by decide +kernel⟩, tb_in 1477 (by decide +kernel) rfl, tb_in 1478 (by decide +kernel) rfl⟩
theorem okX12_recordOf : okV mX12_recordOf 2 := ⟨⟨by decide, tb_in 64 (by decide +kernel) rfl, tb_in 1487 (by decide +kernel) rfl, by decide +kernel⟩, tb_in 1486 (by decide +kernel) rfl, tb_in 49 (by decide +kernel) rfl⟩
theorem okX12_visitHouse : okV mX12_visitHouse 1 := ⟨⟨by decide, tb_in 64 (by decide +kernel) rfl, tb_in 1483 (by decide +kernel) rfl, by decide +kernel⟩, tb_in 1481 (by decide +kernel) rfl, tb_in 1482 (by decide +kernel) rfl⟩
theorem okX12_visitMinute : okV mX12_visitMinute 1 := ⟨⟨by decide, tb_in 64 (by decide +kernel) rfl, tb_in 1491 (by decide +kernel) rfl, by decide +kernel⟩, tb_in 1489 (by decide +kernel) rfl, tb_in 1490 (by decide +kernel) rfl⟩
theorem okX12_visitReturned : okV mX12_visitReturned 1 := ⟨⟨by decide, tb_in 64 (by decide +kernel) rfl, tb_in 1495 (by decide +kernel) rfl, by decide +kernel⟩, tb_in 1493 (by decide +kernel) rfl, tb_in 1494 (by decide +kernel) rfl⟩
theorem okX12_reloads : okV mX12_reloads 0 := ⟨⟨by decide, tb_in 64 (by decide +kernel) rfl, tb_in 1499 (by decide +kernel) rfl, by decide +kernel⟩, tb_in 1497 (by decide +kernel) rfl, tb_in 1498 (by decide +kernel) rfl⟩
theorem okX12_setSkipped : okV mX12_setSkipped 2 := ⟨⟨by decide, tb_in 64 (by decide +kernel) rfl, tb_in 1503 (by decide +kernel) rfl, by decide +kernel⟩, tb_in 1501 (by decide +kernel) rfl, tb_in 1502 (by decide +kernel) rfl⟩
theorem okX12_breakBottles : okV mX12_breakBottles 2 := ⟨⟨by decide, tb_in 64 (by decide +kernel) rfl, tb_in 1507 (by decide +kernel) rfl, by decide +kernel⟩, tb_in 1505 (by decide +kernel) rfl, tb_in 1506 (by decide +kernel) rfl⟩
theorem okX12_exchange : okV mX12_exchange 2 := ⟨⟨by decide, tb_in 64 (by decide +kernel) rfl, tb_in 1516 (by decide +kernel) rfl, by decide +kernel⟩, tb_in 1515 (by decide +kernel) rfl, tb_in 50 (by decide +kernel) rfl⟩
theorem okX12_setOrder : okV mX12_setOrder 3 := ⟨⟨by decide, tb_in 64 (by decide +kernel) rfl, tb_in 1511 (by decide +kernel) rfl, by decide +kernel⟩, tb_in 1509 (by decide +kernel) rfl, tb_in 1510 (by decide +kernel) rfl⟩
theorem okX12_setKeep : okV mX12_setKeep 2 := ⟨⟨by decide, tb_in 64 (by decide +kernel) rfl, tb_in 1520 (by decide +kernel) rfl, by decide +kernel⟩, tb_in 1518 (by decide +kernel) rfl, tb_in 1519 (by decide +kernel) rfl⟩
theorem okX12_setGate : okV mX12_setGate 3 := ⟨⟨by decide, tb_in 64 (by decide +kernel) rfl, tb_in 1524 (by decide +kernel) rfl, by decide +kernel⟩, tb_in 1522 (by decide +kernel) rfl, tb_in 1523 (by decide +kernel) rfl⟩
theorem okX12_undo : okV mX12_undo 0 := ⟨⟨by decide, tb_in 64 (by decide +kernel) rfl, tb_in 1530 (by decide +kernel) rfl, by decide +kernel⟩, tb_in 1528 (by decide +kernel) rfl, tb_in 1529 (by decide +kernel) rfl⟩
theorem okX12_saveSnapshot : okV mX12_saveSnapshot 1 := ⟨⟨by decide, tb_in 64 (by decide +kernel) rfl, tb_in 1534 (by decide +kernel) rfl, by decide +kernel⟩, tb_in 1532 (by decide +kernel) rfl, tb_in 1533 (by decide +kernel) rfl⟩
theorem okX12_restoreSnapshot : okV mX12_restoreSnapshot 1 := ⟨⟨by decide, tb_in 64 (by decide +kernel) rfl, tb_in 1538 (by decide +kernel) rfl, by decide +kernel⟩, tb_in 1536 (by decide +kernel) rfl, tb_in 1537 (by decide +kernel) rfl⟩
theorem okJ0_length_8abf5 : okV mJ0_length_8abf5 0 := ⟨⟨by decide, tb_in 66 (by decide +kernel) rfl, tb_in 557 (by decide +kernel) rfl, by decide +kernel⟩, tb_in 555 (by decide +kernel) rfl, tb_in 556 (by decide +kernel) rfl⟩
theorem okJ0_charAt_5068e : okV mJ0_charAt_5068e 1 := ⟨⟨by decide, tb_in 66 (by decide +kernel) rfl, tb_in 567 (by decide +kernel) rfl, by decide +kernel⟩, tb_in 565 (by decide +kernel) rfl, tb_in 566 (by decide +kernel) rfl⟩
theorem okJ0_coder_7d493 : okV mJ0_coder_7d493 0 := ⟨⟨by decide, tb_in 66 (by decide +kernel) rfl, tb_in 561 (by decide +kernel) rfl, by decide +kernel⟩, tb_in 559 (by decide +kernel) rfl, tb_in 560 (by decide +kernel) rfl⟩
theorem okJ0_isLatin1_aae02 : okV mJ0_isLatin1_aae02 0 := ⟨⟨by decide, tb_in 66 (by decide +kernel) rfl, tb_in 571 (by decide +kernel) rfl, by decide +kernel⟩, tb_in 569 (by decide +kernel) rfl, tb_in 570 (by decide +kernel) rfl⟩
theorem okJ0_checkIndex_df160 : okS mJ0_checkIndex_df160 2 := ⟨⟨by decide, tb_in 66 (by decide +kernel) rfl, tb_in 577 (by decide +kernel) rfl, by decide +kernel⟩, tb_in 576 (by decide +kernel) rfl⟩
theorem okJ1_charAt_3b067 : okS mJ1_charAt_3b067 2 := ⟨⟨by decide, tb_in 67 (by decide +kernel) rfl, tb_in 574 (by decide +kernel) rfl, by decide +kernel⟩, tb_in 573 (by decide +kernel) rfl⟩
theorem okJ7_fill_53178 : okS mJ7_fill_53178 2 := ⟨⟨by decide, tb_in 71 (by decide +kernel) rfl, tb_in 736 (by decide +kernel) rfl, by decide +kernel⟩, tb_in 735 (by decide +kernel) rfl⟩
theorem okJ3_checkIndex_8e157 : okS mJ3_checkIndex_8e157 3 := ⟨⟨by decide, tb_in 68 (by decide +kernel) rfl, tb_in 582 (by decide +kernel) rfl, by decide +kernel⟩, tb_in 581 (by decide +kernel) rfl⟩
theorem w_up {μ : mD} {n : Nat} {Rf : MR} {pc : Nat} {ls : List (Option Value)} {st : List Value} {I' : MI} {Q : Option Value → MI → Prop} (K : ∀ I1, I1 = I' → WP μ n Rf pc ls st I1 Q) : WP μ n Rf pc ls st I' Q := K _ rfl
theorem w_top {μ : mD} {n : Nat} {Rf : MR} {pc : Nat} {ls : List (Option Value)} {st : List Value} {I : MI} {Q : Option Value → MI → Prop} {e : Int32} (K : ∀ x, x = e → WP μ n Rf pc ls (.int x :: st) I Q) : WP μ n Rf pc ls (.int e :: st) I Q := K _ rfl
theorem wc_i {μ' : mD} {vs : List Value} {I : MI} {Q1 : Int32 → MI → Prop} {Q2 : Option Value → MI → Prop} (h : Wi μ' vs I Q1) (k : ∀ r I1, Q1 r I1 → Q2 (some (.int r)) I1) : WPm μ' 286 Rf0 vs I Q2 := WP.mono h (fun v I1 hv => by obtain ⟨r, rfl, h⟩ := hv; exact k r I1 h)
theorem wc_v {μ' : mD} {vs : List Value} {I : MI} {Q1 : MI → Prop} {Q2 : Option Value → MI → Prop} (h : Wv μ' vs I Q1) (k : ∀ I1, Q1 I1 → Q2 none I1) : WPm μ' 286 Rf0 vs I Q2 := WP.mono h (fun v I1 hv => by obtain ⟨rfl, h⟩ := hv; exact k I1 h)
theorem wc_r {μ' : mD} {vs : List Value} {I : MI} {Q1 : Nat → MI → Prop} {Q2 : Option Value → MI → Prop} (h : Wr μ' vs I Q1) (k : ∀ r I1, Q1 r I1 → Q2 (some (.ref r)) I1) : WPm μ' 286 Rf0 vs I Q2 := WP.mono h (fun v I1 hv => by obtain ⟨r, rfl, h⟩ := hv; exact k r I1 h)
end
section
def lsub : List (Option Value) → List (Option Value) → Prop
  | [], _ => True
  | none :: a, _ :: b => lsub a b
  | some v :: a, some w :: b => v = w ∧ lsub a b
  | _ :: _, _ => False
theorem lsub_at : ∀ (a b : List (Option Value)), lsub a b → ∀ (k : Nat) (v : Value), a[k]? = some (some v) → b[k]? = some (some v)
  | [], _, _, k, v, h => by simp at h
  | none :: a, [], h, _, _, _ => absurd h (by simp [lsub])
  | none :: a, x :: b, h, k, v, hk => by
    cases k with
    | zero => simp at hk
    | succ k => rw [List.getElem?_cons_succ] at hk ⊢; exact lsub_at a b (by cases x <;> simpa [lsub] using h) k v hk
  | some w :: a, [], h, _, _, _ => absurd h (by simp [lsub])
  | some w :: a, none :: b, h, _, _, _ => absurd h (by simp [lsub])
  | some w :: a, some x :: b, h, k, v, hk => by
    cases k with
    | zero => rw [List.getElem?_cons_zero] at hk ⊢; rw [← h.1]; exact hk
    | succ k => rw [List.getElem?_cons_succ] at hk ⊢; exact lsub_at a b h.2 k v hk
theorem w_less {μ : mD} {n : Nat} {Rf : MR} {pc : Nat} {ls ls' : List (Option Value)} {st : List Value} {I : MI} {Q : Option Value → MI → Prop} (h : lsub ls' ls) (K : WP μ n Rf pc ls' st I Q) : WP μ n Rf pc ls st I Q := by
  intro G ad A p l e s m args below meth c H locs lsA C hP hD hS hl
  exact K G ad A p l e s m args below meth c H locs lsA C hP hD hS ⟨hl.1, hl.2.1, fun k v hk => hl.2.2 k v (lsub_at _ _ h k v hk)⟩
end
section
def IsLg (c : Nat) : Prop := kd c = (0, 3) ∧ c + 3 < 286 ∧ Rf0 c 3 = some (c + 1) ∧ Rf0 c 4 = some (c + 2) ∧ Rf0 c 5 = some (c + 3) ∧ kd (c + 1) = (1, 12) ∧ kd (c + 2) = (1, 12) ∧ kd (c + 3) = (1, 12)
def IsSt (c : Nat) : Prop := kd c = (0, 8) ∧ c + 13 < 286 ∧ Rf0 c 2 = some (c + 1) ∧ Rf0 c 3 = some (c + 2) ∧ Rf0 c 4 = some (c + 3) ∧ Rf0 c 5 = some (c + 4) ∧ Rf0 c 6 = some (c + 5) ∧ Rf0 c 7 = some (c + 6) ∧ Rf0 c 8 = some (c + 7) ∧ Rf0 c 9 = some (c + 8) ∧ Rf0 c 10 = some (c + 9) ∧ Rf0 c 11 = some (c + 10) ∧ kd (c + 1) = (1, 84) ∧ kd (c + 2) = (1, 12) ∧ kd (c + 3) = (1, 18) ∧ kd (c + 4) = (1, 18) ∧ kd (c + 5) = (1, 12) ∧ kd (c + 6) = (1, 12) ∧ kd (c + 7) = (1, 12) ∧ kd (c + 8) = (1, 12) ∧ kd (c + 9) = (1, 100) ∧ IsLg (c + 10)
theorem dX0_driveTo_0 : decode cX0_driveTo 0 = .ok (.aload_n 0, 1) := by decide +kernel
theorem dX0_driveTo_1 : decode cX0_driveTo 1 = .ok (.getfield 30, 3) := by decide +kernel
theorem dX0_driveTo_4 : decode cX0_driveTo 4 = .ok (.aload_n 0, 1) := by decide +kernel
theorem dX0_driveTo_5 : decode cX0_driveTo 5 = .ok (.getfield 37, 3) := by decide +kernel
theorem dX0_driveTo_8 : decode cX0_driveTo 8 = .ok (.aload_n 0, 1) := by decide +kernel
theorem dX0_driveTo_9 : decode cX0_driveTo 9 = .ok (.getfield 46, 3) := by decide +kernel
theorem dX0_driveTo_12 : decode cX0_driveTo 12 = .ok (.invokevirtual 101, 3) := by decide +kernel
theorem dX0_driveTo_15 : decode cX0_driveTo 15 = .ok (.iload_n 1, 1) := by decide +kernel
theorem dX0_driveTo_16 : decode cX0_driveTo 16 = .ok (.iaload, 1) := by decide +kernel
theorem dX0_driveTo_17 : decode cX0_driveTo 17 = .ok (.istore_n 2, 1) := by decide +kernel
theorem dX0_driveTo_18 : decode cX0_driveTo 18 = .ok (.iload_n 2, 1) := by decide +kernel
theorem dX0_driveTo_19 : decode cX0_driveTo 19 = .ok (.ldc 107, 2) := by decide +kernel
theorem dX0_driveTo_21 : decode cX0_driveTo 21 = .ok (.if_icmp .ne 5, 3) := by decide +kernel
theorem dX0_driveTo_24 : decode cX0_driveTo 24 = .ok (.iconst 0, 1) := by decide +kernel
theorem dX0_driveTo_25 : decode cX0_driveTo 25 = .ok (.ireturn, 1) := by decide +kernel
theorem dX0_driveTo_26 : decode cX0_driveTo 26 = .ok (.aload_n 0, 1) := by decide +kernel
theorem dX0_driveTo_27 : decode cX0_driveTo 27 = .ok (.iload_n 1, 1) := by decide +kernel
theorem dX0_driveTo_28 : decode cX0_driveTo 28 = .ok (.putfield 37, 3) := by decide +kernel
theorem dX0_driveTo_31 : decode cX0_driveTo 31 = .ok (.aload_n 0, 1) := by decide +kernel
theorem dX0_driveTo_32 : decode cX0_driveTo 32 = .ok (.iload_n 2, 1) := by decide +kernel
theorem dX0_driveTo_33 : decode cX0_driveTo 33 = .ok (.putfield 46, 3) := by decide +kernel
theorem dX0_driveTo_36 : decode cX0_driveTo 36 = .ok (.iconst 1, 1) := by decide +kernel
theorem dX0_driveTo_37 : decode cX0_driveTo 37 = .ok (.ireturn, 1) := by decide +kernel
set_option maxRecDepth 20000 in
theorem rX0_driveTo {a1 : Int32} {I : MI} {Q : Int32 → MI → Prop} (H : (Wr mX4_arrivalsFrom [.ref 45, .int (I 56 5), .int (I 56 6)] I (fun r2 I1 => r2 = 46 ∧ (vp_in a1 10 ∧ (¬ (I1 46 a1.toNatClampNeg) = 2147483647 → (∀ I3 : MI, I3 = up2 I1 56 5 a1 → ∀ I4 : MI, I4 = up2 I3 56 6 (I1 46 a1.toNatClampNeg) → Q 1 I4)) ∧ ((I1 46 a1.toNatClampNeg) = 2147483647 → (Q 0 I1)))))) : Wi mX0_driveTo [.ref 56, .int a1] I Q := by
  show WP mX0_driveTo 286 Rf0 0 [some (.ref 56), some (.int a1), none] [] I (qi Q)
  refine w_aload_n dX0_driveTo_0 rfl rfl ?_
  refine w_getR dX0_driveTo_1 fl_0_30 okC0 kd_56 (by decide) (by decide) rfl rf_56_3 ?_
  refine w_aload_n dX0_driveTo_4 rfl rfl ?_
  refine w_getI dX0_driveTo_5 fl_0_37 okC0 kd_56 (by decide) (by decide) rfl ?_
  refine w_aload_n dX0_driveTo_8 rfl rfl ?_
  refine w_getI dX0_driveTo_9 fl_0_46 okC0 kd_56 (by decide) (by decide) rfl ?_
  refine w_callV (st := []) (As := [.int (I 56 5), .int (I 56 6)]) dX0_driveTo_12 ml_0_101 okX4_arrivalsFrom kd_45 (by decide) rfl rfl rfl (Nat.le_of_ble_eq_true rfl) (by decide) (Nat.le_of_ble_eq_true rfl) (wc_r H (fun r2 I1 H => ?_))
  obtain ⟨rfl, H⟩ := H
  refine w_iload_n dX0_driveTo_15 rfl rfl ?_
  refine w_iald dX0_driveTo_16 kd_46 (by decide) H.1 ?_
  replace H := H.2
  refine w_istore_n (ls' := [some (.ref 56), some (.int a1), some (.int (I1 46 a1.toNatClampNeg))]) dX0_driveTo_17 rfl (by decide) rfl rfl ?_
  refine w_iload_n dX0_driveTo_18 rfl rfl ?_
  refine w_ldc (v := 2147483647) dX0_driveTo_19 kl_0_107 ?_
  refine w_icmp_ne (t := 26) dX0_driveTo_21 (by decide) (fun h => ?_) (fun h => ?_)
  · replace H := H.1 h
    refine w_aload_n dX0_driveTo_26 rfl rfl ?_
    refine w_iload_n dX0_driveTo_27 rfl rfl ?_
    refine w_putI dX0_driveTo_28 fl_0_37 okC0 kd_56 (by decide) (by decide) rfl rfl rfl (w_up fun I3 hI => ?_)
    replace H := H I3 hI
    refine w_aload_n dX0_driveTo_31 rfl rfl ?_
    refine w_iload_n dX0_driveTo_32 rfl rfl ?_
    refine w_putI dX0_driveTo_33 fl_0_46 okC0 kd_56 (by decide) (by decide) rfl rfl rfl (w_up fun I4 hI => ?_)
    replace H := H I4 hI
    refine w_iconst (v := 1) dX0_driveTo_36 (by decide) ?_
    exact w_zret dX0_driveTo_37 rfl rfl ⟨_, rfl, H⟩
  · replace H := H.2 h
    refine w_iconst (v := 0) dX0_driveTo_24 (by decide) ?_
    exact w_zret dX0_driveTo_25 rfl rfl ⟨_, rfl, H⟩
theorem dX0_serveStop_0 : decode cX0_serveStop 0 = .ok (.iconst 0, 1) := by decide +kernel
theorem dX0_serveStop_1 : decode cX0_serveStop 1 = .ok (.istore_n 2, 1) := by decide +kernel
theorem dX0_serveStop_2 : decode cX0_serveStop 2 = .ok (.iload_n 2, 1) := by decide +kernel
theorem dX0_serveStop_3 : decode cX0_serveStop 3 = .ok (.aload_n 0, 1) := by decide +kernel
theorem dX0_serveStop_4 : decode cX0_serveStop 4 = .ok (.getfield 18, 3) := by decide +kernel
theorem dX0_serveStop_7 : decode cX0_serveStop 7 = .ok (.getfield 108, 3) := by decide +kernel
theorem dX0_serveStop_10 : decode cX0_serveStop 10 = .ok (.if_icmp .ge 75, 3) := by decide +kernel
theorem dX0_serveStop_13 : decode cX0_serveStop 13 = .ok (.aload_n 0, 1) := by decide +kernel
theorem dX0_serveStop_14 : decode cX0_serveStop 14 = .ok (.getfield 73, 3) := by decide +kernel
theorem dX0_serveStop_17 : decode cX0_serveStop 17 = .ok (.ifCond .ne 68, 3) := by decide +kernel
theorem dX0_serveStop_20 : decode cX0_serveStop 20 = .ok (.aload_n 0, 1) := by decide +kernel
theorem dX0_serveStop_21 : decode cX0_serveStop 21 = .ok (.getfield 26, 3) := by decide +kernel
theorem dX0_serveStop_24 : decode cX0_serveStop 24 = .ok (.iload_n 2, 1) := by decide +kernel
theorem dX0_serveStop_25 : decode cX0_serveStop 25 = .ok (.invokevirtual 111, 3) := by decide +kernel
theorem dX0_serveStop_28 : decode cX0_serveStop 28 = .ok (.istore_n 3, 1) := by decide +kernel
theorem dX0_serveStop_29 : decode cX0_serveStop 29 = .ok (.aload_n 0, 1) := by decide +kernel
theorem dX0_serveStop_30 : decode cX0_serveStop 30 = .ok (.getfield 18, 3) := by decide +kernel
theorem dX0_serveStop_33 : decode cX0_serveStop 33 = .ok (.getfield 114, 3) := by decide +kernel
theorem dX0_serveStop_36 : decode cX0_serveStop 36 = .ok (.iload_n 2, 1) := by decide +kernel
theorem dX0_serveStop_37 : decode cX0_serveStop 37 = .ok (.iaload, 1) := by decide +kernel
theorem dX0_serveStop_38 : decode cX0_serveStop 38 = .ok (.iload_n 1, 1) := by decide +kernel
theorem dX0_serveStop_39 : decode cX0_serveStop 39 = .ok (.if_icmp .ne 40, 3) := by decide +kernel
theorem dX0_serveStop_42 : decode cX0_serveStop 42 = .ok (.iload_n 3, 1) := by decide +kernel
theorem dX0_serveStop_43 : decode cX0_serveStop 43 = .ok (.ifCond .ne 6, 3) := by decide +kernel
theorem dX0_serveStop_46 : decode cX0_serveStop 46 = .ok (.goto 33, 3) := by decide +kernel
theorem dX0_serveStop_49 : decode cX0_serveStop 49 = .ok (.aload_n 0, 1) := by decide +kernel
theorem dX0_serveStop_50 : decode cX0_serveStop 50 = .ok (.getfield 67, 3) := by decide +kernel
theorem dX0_serveStop_53 : decode cX0_serveStop 53 = .ok (.iload_n 3, 1) := by decide +kernel
theorem dX0_serveStop_54 : decode cX0_serveStop 54 = .ok (.if_icmp .ge 19, 3) := by decide +kernel
theorem dX0_serveStop_57 : decode cX0_serveStop 57 = .ok (.aload_n 0, 1) := by decide +kernel
theorem dX0_serveStop_58 : decode cX0_serveStop 58 = .ok (.iload_n 1, 1) := by decide +kernel
theorem dX0_serveStop_59 : decode cX0_serveStop 59 = .ok (.invokevirtual 117, 3) := by decide +kernel
theorem dX0_serveStop_62 : decode cX0_serveStop 62 = .ok (.ifCond .ne 11, 3) := by decide +kernel
theorem dX0_serveStop_65 : decode cX0_serveStop 65 = .ok (.aload_n 0, 1) := by decide +kernel
theorem dX0_serveStop_66 : decode cX0_serveStop 66 = .ok (.iconst 1, 1) := by decide +kernel
theorem dX0_serveStop_67 : decode cX0_serveStop 67 = .ok (.putfield 73, 3) := by decide +kernel
theorem dX0_serveStop_70 : decode cX0_serveStop 70 = .ok (.goto 9, 3) := by decide +kernel
theorem dX0_serveStop_73 : decode cX0_serveStop 73 = .ok (.aload_n 0, 1) := by decide +kernel
theorem dX0_serveStop_74 : decode cX0_serveStop 74 = .ok (.iload_n 2, 1) := by decide +kernel
theorem dX0_serveStop_75 : decode cX0_serveStop 75 = .ok (.iload_n 3, 1) := by decide +kernel
theorem dX0_serveStop_76 : decode cX0_serveStop 76 = .ok (.invokevirtual 120, 3) := by decide +kernel
theorem dX0_serveStop_79 : decode cX0_serveStop 79 = .ok (.iinc 2 1, 3) := by decide +kernel
theorem dX0_serveStop_82 : decode cX0_serveStop 82 = .ok (.goto (-80), 3) := by decide +kernel
theorem dX0_serveStop_85 : decode cX0_serveStop 85 = .ok (.return_, 1) := by decide +kernel
abbrev LX0_serveStop_2 (l1 l2 : Int32) (I : MI) (Q : MI → Prop) : Prop := WP mX0_serveStop 286 Rf0 2 [some (.ref 56), some (.int l1), some (.int l2), none] [] I (qv Q)
abbrev LX0_serveStop_73 (l1 l2 l3 : Int32) (I : MI) (Q : MI → Prop) : Prop := WP mX0_serveStop 286 Rf0 73 [some (.ref 56), some (.int l1), some (.int l2), some (.int l3)] [] I (qv Q)
abbrev LX0_serveStop_79 (l1 l2 l3 : Int32) (I : MI) (Q : MI → Prop) : Prop := WP mX0_serveStop 286 Rf0 79 [some (.ref 56), some (.int l1), some (.int l2), some (.int l3)] [] I (qv Q)
set_option maxRecDepth 20000 in
theorem rX0_serveStop_2 {l1 l2 : Int32} {I : MI} {Q : MI → Prop} (H : (((I 24 2) ≤ l2 → (Q I)) ∧ (¬ (I 24 2) ≤ l2 → ((¬ (I 56 10) = 0 → (Q I)) ∧ ((I 56 10) = 0 → (Wi mX10_demandOf [.ref 44, .int l2] I (fun r2 I1 => (vp_in l2 12 ∧ (¬ (I1 28 l2.toNatClampNeg) = l1 → (LX0_serveStop_79 l1 l2 r2 I1 Q)) ∧ ((I1 28 l2.toNatClampNeg) = l1 → ((¬ r2 = 0 → ((r2 ≤ (I1 56 7) → (LX0_serveStop_73 l1 l2 r2 I1 Q)) ∧ (¬ r2 ≤ (I1 56 7) → (Wi mX0_reload [.ref 56, .int l1] I1 (fun r4 I3 => ((¬ r4 = 0 → (LX0_serveStop_73 l1 l2 r2 I3 Q)) ∧ (r4 = 0 → (∀ I5 : MI, I5 = up2 I3 56 10 1 → LX0_serveStop_79 l1 l2 r2 I5 Q)))))))) ∧ (r2 = 0 → (LX0_serveStop_79 l1 l2 r2 I1 Q)))))))))))) : LX0_serveStop_2 l1 l2 I Q := by
  show WP mX0_serveStop 286 Rf0 2 [some (.ref 56), some (.int l1), some (.int l2), none] [] I (qv Q)
  refine w_iload_n dX0_serveStop_2 rfl rfl ?_
  refine w_aload_n dX0_serveStop_3 rfl rfl ?_
  refine w_getR dX0_serveStop_4 fl_0_18 okC0 kd_56 (by decide) (by decide) rfl rf_56_0 ?_
  refine w_getI dX0_serveStop_7 fl_0_108 okC6 kd_24 (by decide) (by decide) rfl ?_
  refine w_icmp_ge (t := 85) dX0_serveStop_10 (by decide) (fun h => ?_) (fun h => ?_)
  · replace H := H.1 h
    exact w_vret dX0_serveStop_85 rfl ⟨rfl, H⟩
  · replace H := H.2 h
    refine w_aload_n dX0_serveStop_13 rfl rfl ?_
    refine w_getI dX0_serveStop_14 fl_0_73 okC0 kd_56 (by decide) (by decide) rfl ?_
    refine w_if_ne (t := 85) dX0_serveStop_17 (by decide) (fun h => ?_) (fun h => ?_)
    · replace H := H.1 h
      exact w_vret dX0_serveStop_85 rfl ⟨rfl, H⟩
    · replace H := H.2 h
      refine w_aload_n dX0_serveStop_20 rfl rfl ?_
      refine w_getR dX0_serveStop_21 fl_0_26 okC0 kd_56 (by decide) (by decide) rfl rf_56_2 ?_
      refine w_iload_n dX0_serveStop_24 rfl rfl ?_
      refine w_callV (st := []) (As := [.int l2]) dX0_serveStop_25 ml_0_111 okX10_demandOf kd_44 (by decide) rfl rfl rfl (Nat.le_of_ble_eq_true rfl) (by decide) (Nat.le_of_ble_eq_true rfl) (wc_i H (fun r2 I1 H => ?_))
      refine w_istore_n (ls' := [some (.ref 56), some (.int l1), some (.int l2), some (.int r2)]) dX0_serveStop_28 rfl (by decide) rfl rfl ?_
      refine w_aload_n dX0_serveStop_29 rfl rfl ?_
      refine w_getR dX0_serveStop_30 fl_0_18 okC0 kd_56 (by decide) (by decide) rfl rf_56_0 ?_
      refine w_getR dX0_serveStop_33 fl_0_114 okC6 kd_24 (by decide) (by decide) rfl rf_24_10 ?_
      refine w_iload_n dX0_serveStop_36 rfl rfl ?_
      refine w_iald dX0_serveStop_37 kd_28 (by decide) H.1 ?_
      replace H := H.2
      refine w_iload_n dX0_serveStop_38 rfl rfl ?_
      refine w_icmp_ne (t := 79) dX0_serveStop_39 (by decide) (fun h => ?_) (fun h => ?_)
      · replace H := H.1 h
        skip
        exact H
      · replace H := H.2 h
        refine w_iload_n dX0_serveStop_42 rfl rfl ?_
        refine w_if_ne (t := 49) dX0_serveStop_43 (by decide) (fun h => ?_) (fun h => ?_)
        · replace H := H.1 h
          refine w_aload_n dX0_serveStop_49 rfl rfl ?_
          refine w_getI dX0_serveStop_50 fl_0_67 okC0 kd_56 (by decide) (by decide) rfl ?_
          refine w_iload_n dX0_serveStop_53 rfl rfl ?_
          refine w_icmp_ge (t := 73) dX0_serveStop_54 (by decide) (fun h => ?_) (fun h => ?_)
          · replace H := H.1 h
            skip
            exact H
          · replace H := H.2 h
            refine w_aload_n dX0_serveStop_57 rfl rfl ?_
            refine w_iload_n dX0_serveStop_58 rfl rfl ?_
            refine w_callV (st := []) (As := [.int l1]) dX0_serveStop_59 ml_0_117 okX0_reload kd_56 (by decide) rfl rfl rfl (Nat.le_of_ble_eq_true rfl) (by decide) (Nat.le_of_ble_eq_true rfl) (wc_i H (fun r4 I3 H => ?_))
            refine w_if_ne (t := 73) dX0_serveStop_62 (by decide) (fun h => ?_) (fun h => ?_)
            · replace H := H.1 h
              skip
              exact H
            · replace H := H.2 h
              refine w_aload_n dX0_serveStop_65 rfl rfl ?_
              refine w_iconst (v := 1) dX0_serveStop_66 (by decide) ?_
              refine w_putZ dX0_serveStop_67 fl_0_73 okC0 kd_56 (by decide) (by decide) rfl rfl rfl (by decide) (w_up fun I5 hI => ?_)
              replace H := H I5 hI
              refine w_goto (t := 79) dX0_serveStop_70 (by decide) ?_
              skip
              exact H
        · replace H := H.2 h
          refine w_goto (t := 79) dX0_serveStop_46 (by decide) ?_
          skip
          exact H
set_option maxRecDepth 20000 in
theorem rX0_serveStop_73 {l1 l2 l3 : Int32} {I : MI} {Q : MI → Prop} (H : (Wv mX0_serveHouse [.ref 56, .int l2, .int l3] I (fun I1 => (LX0_serveStop_79 l1 l2 l3 I1 Q)))) : LX0_serveStop_73 l1 l2 l3 I Q := by
  show WP mX0_serveStop 286 Rf0 73 [some (.ref 56), some (.int l1), some (.int l2), some (.int l3)] [] I (qv Q)
  refine w_aload_n dX0_serveStop_73 rfl rfl ?_
  refine w_iload_n dX0_serveStop_74 rfl rfl ?_
  refine w_iload_n dX0_serveStop_75 rfl rfl ?_
  refine w_callV (st := []) (As := [.int l2, .int l3]) dX0_serveStop_76 ml_0_120 okX0_serveHouse kd_56 (by decide) rfl rfl rfl (Nat.le_of_ble_eq_true rfl) (by decide) (Nat.le_of_ble_eq_true rfl) (wc_v H (fun I1 H => ?_))
  skip
  exact H
set_option maxRecDepth 20000 in
theorem rX0_serveStop_79 {l1 l2 l3 : Int32} {I : MI} {Q : MI → Prop} (H : (LX0_serveStop_2 l1 (l2 + 1) I Q)) : LX0_serveStop_79 l1 l2 l3 I Q := by
  show WP mX0_serveStop 286 Rf0 79 [some (.ref 56), some (.int l1), some (.int l2), some (.int l3)] [] I (qv Q)
  refine w_iinc (v := l2 + 1) (ls' := [some (.ref 56), some (.int l1), some (.int (l2 + 1)), some (.int l3)]) dX0_serveStop_79 rfl rfl (by decide) rfl rfl ?_
  refine w_goto (t := 2) dX0_serveStop_82 (by decide) ?_
  refine w_less (ls' := [some (.ref 56), some (.int l1), some (.int (l2 + 1)), none]) (by simp [lsub]) ?_
  exact H
set_option maxRecDepth 20000 in
theorem rX0_serveStop {a1 : Int32} {I : MI} {Q : MI → Prop} (H : (LX0_serveStop_2 a1 0 I Q)) : Wv mX0_serveStop [.ref 56, .int a1] I Q := by
  show WP mX0_serveStop 286 Rf0 0 [some (.ref 56), some (.int a1), none, none] [] I (qv Q)
  refine w_iconst (v := 0) dX0_serveStop_0 (by decide) ?_
  refine w_istore_n (ls' := [some (.ref 56), some (.int a1), some (.int 0), none]) dX0_serveStop_1 rfl (by decide) rfl rfl ?_
  skip
  exact H
theorem dX0_reload_0 : decode cX0_reload 0 = .ok (.aload_n 0, 1) := by decide +kernel
theorem dX0_reload_1 : decode cX0_reload 1 = .ok (.iconst 0, 1) := by decide +kernel
theorem dX0_reload_2 : decode cX0_reload 2 = .ok (.invokevirtual 86, 3) := by decide +kernel
theorem dX0_reload_5 : decode cX0_reload 5 = .ok (.ifCond .ne 5, 3) := by decide +kernel
theorem dX0_reload_8 : decode cX0_reload 8 = .ok (.iconst 0, 1) := by decide +kernel
theorem dX0_reload_9 : decode cX0_reload 9 = .ok (.ireturn, 1) := by decide +kernel
theorem dX0_reload_10 : decode cX0_reload 10 = .ok (.aload_n 0, 1) := by decide +kernel
theorem dX0_reload_11 : decode cX0_reload 11 = .ok (.iconst 0, 1) := by decide +kernel
theorem dX0_reload_12 : decode cX0_reload 12 = .ok (.putfield 70, 3) := by decide +kernel
theorem dX0_reload_15 : decode cX0_reload 15 = .ok (.aload_n 0, 1) := by decide +kernel
theorem dX0_reload_16 : decode cX0_reload 16 = .ok (.aload_n 0, 1) := by decide +kernel
theorem dX0_reload_17 : decode cX0_reload 17 = .ok (.getfield 55, 3) := by decide +kernel
theorem dX0_reload_20 : decode cX0_reload 20 = .ok (.aload_n 0, 1) := by decide +kernel
theorem dX0_reload_21 : decode cX0_reload 21 = .ok (.getfield 18, 3) := by decide +kernel
theorem dX0_reload_24 : decode cX0_reload 24 = .ok (.getfield 58, 3) := by decide +kernel
theorem dX0_reload_27 : decode cX0_reload 27 = .ok (.invokestatic 61, 3) := by decide +kernel
theorem dX0_reload_30 : decode cX0_reload 30 = .ok (.putfield 67, 3) := by decide +kernel
theorem dX0_reload_33 : decode cX0_reload 33 = .ok (.aload_n 0, 1) := by decide +kernel
theorem dX0_reload_34 : decode cX0_reload 34 = .ok (.dup, 1) := by decide +kernel
theorem dX0_reload_35 : decode cX0_reload 35 = .ok (.getfield 46, 3) := by decide +kernel
theorem dX0_reload_38 : decode cX0_reload 38 = .ok (.bipush 10, 2) := by decide +kernel
theorem dX0_reload_40 : decode cX0_reload 40 = .ok (.iadd, 1) := by decide +kernel
theorem dX0_reload_41 : decode cX0_reload 41 = .ok (.putfield 46, 3) := by decide +kernel
theorem dX0_reload_44 : decode cX0_reload 44 = .ok (.aload_n 0, 1) := by decide +kernel
theorem dX0_reload_45 : decode cX0_reload 45 = .ok (.getfield 12, 3) := by decide +kernel
theorem dX0_reload_48 : decode cX0_reload 48 = .ok (.dup, 1) := by decide +kernel
theorem dX0_reload_49 : decode cX0_reload 49 = .ok (.getfield 124, 3) := by decide +kernel
theorem dX0_reload_52 : decode cX0_reload 52 = .ok (.iconst 1, 1) := by decide +kernel
theorem dX0_reload_53 : decode cX0_reload 53 = .ok (.iadd, 1) := by decide +kernel
theorem dX0_reload_54 : decode cX0_reload 54 = .ok (.putfield 124, 3) := by decide +kernel
theorem dX0_reload_57 : decode cX0_reload 57 = .ok (.aload_n 0, 1) := by decide +kernel
theorem dX0_reload_58 : decode cX0_reload 58 = .ok (.iload_n 1, 1) := by decide +kernel
theorem dX0_reload_59 : decode cX0_reload 59 = .ok (.invokevirtual 86, 3) := by decide +kernel
theorem dX0_reload_62 : decode cX0_reload 62 = .ok (.ireturn, 1) := by decide +kernel
set_option maxRecDepth 20000 in
theorem rX0_reload {a1 : Int32} {I : MI} {Q : Int32 → MI → Prop} (H : (Wi mX0_driveTo [.ref 56, .int 0] I (fun r2 I1 => ((¬ r2 = 0 → (∀ I3 : MI, I3 = up2 I1 56 8 0 → ∀ x4 : Int32, x4 = (if (I3 24 3) < (I3 56 9) then (I3 24 3) else (I3 56 9)) → ∀ I5 : MI, I5 = up2 I3 56 7 x4 → ∀ I6 : MI, I6 = up2 I5 56 6 ((I5 56 6) + 10) → ∀ I7 : MI, I7 = up2 I6 57 2 ((I6 57 2) + 1) → Wi mX0_driveTo [.ref 56, .int a1] I7 (fun r9 I8 => (narrow .boolean (.int r9) = .int r9 ∧ Q r9 I8)))) ∧ (r2 = 0 → (Q 0 I1)))))) : Wi mX0_reload [.ref 56, .int a1] I Q := by
  show WP mX0_reload 286 Rf0 0 [some (.ref 56), some (.int a1)] [] I (qi Q)
  refine w_aload_n dX0_reload_0 rfl rfl ?_
  refine w_iconst (v := 0) dX0_reload_1 (by decide) ?_
  refine w_callV (st := []) (As := [.int 0]) dX0_reload_2 ml_0_86 okX0_driveTo kd_56 (by decide) rfl rfl rfl (Nat.le_of_ble_eq_true rfl) (by decide) (Nat.le_of_ble_eq_true rfl) (wc_i H (fun r2 I1 H => ?_))
  refine w_if_ne (t := 10) dX0_reload_5 (by decide) (fun h => ?_) (fun h => ?_)
  · replace H := H.1 h
    refine w_aload_n dX0_reload_10 rfl rfl ?_
    refine w_iconst (v := 0) dX0_reload_11 (by decide) ?_
    refine w_putI dX0_reload_12 fl_0_70 okC0 kd_56 (by decide) (by decide) rfl rfl rfl (w_up fun I3 hI => ?_)
    replace H := H I3 hI
    refine w_aload_n dX0_reload_15 rfl rfl ?_
    refine w_aload_n dX0_reload_16 rfl rfl ?_
    refine w_getI dX0_reload_17 fl_0_55 okC0 kd_56 (by decide) (by decide) rfl ?_
    refine w_aload_n dX0_reload_20 rfl rfl ?_
    refine w_getR dX0_reload_21 fl_0_18 okC0 kd_56 (by decide) (by decide) rfl rf_56_0 ?_
    refine w_getI dX0_reload_24 fl_0_58 okC6 kd_24 (by decide) (by decide) rfl ?_
    refine w_min dX0_reload_27 ml_0_61 minS maI minC (by decide) (Nat.le_of_ble_eq_true rfl) ?_
    refine w_top fun x4 hx => ?_
    replace H := H x4 hx
    refine w_putI dX0_reload_30 fl_0_67 okC0 kd_56 (by decide) (by decide) rfl rfl rfl (w_up fun I5 hI => ?_)
    replace H := H I5 hI
    refine w_aload_n dX0_reload_33 rfl rfl ?_
    refine w_dup dX0_reload_34 rfl ?_
    refine w_getI dX0_reload_35 fl_0_46 okC0 kd_56 (by decide) (by decide) rfl ?_
    refine w_bipush (v := 10) dX0_reload_38 (by decide) ?_
    refine w_iadd dX0_reload_40 ?_
    refine w_putI dX0_reload_41 fl_0_46 okC0 kd_56 (by decide) (by decide) rfl rfl rfl (w_up fun I6 hI => ?_)
    replace H := H I6 hI
    refine w_aload_n dX0_reload_44 rfl rfl ?_
    refine w_getR dX0_reload_45 fl_0_12 okC0 kd_56 (by decide) (by decide) rfl rf_56_4 ?_
    refine w_dup dX0_reload_48 rfl ?_
    refine w_getI dX0_reload_49 fl_0_124 okC3 kd_57 (by decide) (by decide) rfl ?_
    refine w_iconst (v := 1) dX0_reload_52 (by decide) ?_
    refine w_iadd dX0_reload_53 ?_
    refine w_putI dX0_reload_54 fl_0_124 okC3 kd_57 (by decide) (by decide) rfl rfl rfl (w_up fun I7 hI => ?_)
    replace H := H I7 hI
    refine w_aload_n dX0_reload_57 rfl rfl ?_
    refine w_iload_n dX0_reload_58 rfl rfl ?_
    refine w_callV (st := []) (As := [.int a1]) dX0_reload_59 ml_0_86 okX0_driveTo kd_56 (by decide) rfl rfl rfl (Nat.le_of_ble_eq_true rfl) (by decide) (Nat.le_of_ble_eq_true rfl) (wc_i H (fun r9 I8 H => ?_))
    exact w_zret dX0_reload_62 rfl H.1 ⟨_, rfl, H.2⟩
  · replace H := H.2 h
    refine w_iconst (v := 0) dX0_reload_8 (by decide) ?_
    exact w_zret dX0_reload_9 rfl rfl ⟨_, rfl, H⟩
theorem dX0_serveHouse_0 : decode cX0_serveHouse 0 = .ok (.aload_n 0, 1) := by decide +kernel
theorem dX0_serveHouse_1 : decode cX0_serveHouse 1 = .ok (.dup, 1) := by decide +kernel
theorem dX0_serveHouse_2 : decode cX0_serveHouse 2 = .ok (.getfield 46, 3) := by decide +kernel
theorem dX0_serveHouse_5 : decode cX0_serveHouse 5 = .ok (.aload_n 0, 1) := by decide +kernel
theorem dX0_serveHouse_6 : decode cX0_serveHouse 6 = .ok (.getfield 26, 3) := by decide +kernel
theorem dX0_serveHouse_9 : decode cX0_serveHouse 9 = .ok (.iload_n 1, 1) := by decide +kernel
theorem dX0_serveHouse_10 : decode cX0_serveHouse 10 = .ok (.invokevirtual 127, 3) := by decide +kernel
theorem dX0_serveHouse_13 : decode cX0_serveHouse 13 = .ok (.iadd, 1) := by decide +kernel
theorem dX0_serveHouse_14 : decode cX0_serveHouse 14 = .ok (.putfield 46, 3) := by decide +kernel
theorem dX0_serveHouse_17 : decode cX0_serveHouse 17 = .ok (.aload_n 0, 1) := by decide +kernel
theorem dX0_serveHouse_18 : decode cX0_serveHouse 18 = .ok (.dup, 1) := by decide +kernel
theorem dX0_serveHouse_19 : decode cX0_serveHouse 19 = .ok (.getfield 67, 3) := by decide +kernel
theorem dX0_serveHouse_22 : decode cX0_serveHouse 22 = .ok (.iload_n 2, 1) := by decide +kernel
theorem dX0_serveHouse_23 : decode cX0_serveHouse 23 = .ok (.isub, 1) := by decide +kernel
theorem dX0_serveHouse_24 : decode cX0_serveHouse 24 = .ok (.putfield 67, 3) := by decide +kernel
theorem dX0_serveHouse_27 : decode cX0_serveHouse 27 = .ok (.aload_n 0, 1) := by decide +kernel
theorem dX0_serveHouse_28 : decode cX0_serveHouse 28 = .ok (.dup, 1) := by decide +kernel
theorem dX0_serveHouse_29 : decode cX0_serveHouse 29 = .ok (.getfield 55, 3) := by decide +kernel
theorem dX0_serveHouse_32 : decode cX0_serveHouse 32 = .ok (.iload_n 2, 1) := by decide +kernel
theorem dX0_serveHouse_33 : decode cX0_serveHouse 33 = .ok (.isub, 1) := by decide +kernel
theorem dX0_serveHouse_34 : decode cX0_serveHouse 34 = .ok (.putfield 55, 3) := by decide +kernel
theorem dX0_serveHouse_37 : decode cX0_serveHouse 37 = .ok (.aload_n 0, 1) := by decide +kernel
theorem dX0_serveHouse_38 : decode cX0_serveHouse 38 = .ok (.getfield 22, 3) := by decide +kernel
theorem dX0_serveHouse_41 : decode cX0_serveHouse 41 = .ok (.getfield 130, 3) := by decide +kernel
theorem dX0_serveHouse_44 : decode cX0_serveHouse 44 = .ok (.iload_n 1, 1) := by decide +kernel
theorem dX0_serveHouse_45 : decode cX0_serveHouse 45 = .ok (.iaload, 1) := by decide +kernel
theorem dX0_serveHouse_46 : decode cX0_serveHouse 46 = .ok (.aload_n 0, 1) := by decide +kernel
theorem dX0_serveHouse_47 : decode cX0_serveHouse 47 = .ok (.getfield 22, 3) := by decide +kernel
theorem dX0_serveHouse_50 : decode cX0_serveHouse 50 = .ok (.getfield 135, 3) := by decide +kernel
theorem dX0_serveHouse_53 : decode cX0_serveHouse 53 = .ok (.iload_n 1, 1) := by decide +kernel
theorem dX0_serveHouse_54 : decode cX0_serveHouse 54 = .ok (.iaload, 1) := by decide +kernel
theorem dX0_serveHouse_55 : decode cX0_serveHouse 55 = .ok (.isub, 1) := by decide +kernel
theorem dX0_serveHouse_56 : decode cX0_serveHouse 56 = .ok (.iconst 0, 1) := by decide +kernel
theorem dX0_serveHouse_57 : decode cX0_serveHouse 57 = .ok (.invokestatic 138, 3) := by decide +kernel
theorem dX0_serveHouse_60 : decode cX0_serveHouse 60 = .ok (.istore_n 3, 1) := by decide +kernel
theorem dX0_serveHouse_61 : decode cX0_serveHouse 61 = .ok (.aload_n 0, 1) := by decide +kernel
theorem dX0_serveHouse_62 : decode cX0_serveHouse 62 = .ok (.getfield 18, 3) := by decide +kernel
theorem dX0_serveHouse_65 : decode cX0_serveHouse 65 = .ok (.getfield 58, 3) := by decide +kernel
theorem dX0_serveHouse_68 : decode cX0_serveHouse 68 = .ok (.aload_n 0, 1) := by decide +kernel
theorem dX0_serveHouse_69 : decode cX0_serveHouse 69 = .ok (.getfield 67, 3) := by decide +kernel
theorem dX0_serveHouse_72 : decode cX0_serveHouse 72 = .ok (.isub, 1) := by decide +kernel
theorem dX0_serveHouse_73 : decode cX0_serveHouse 73 = .ok (.aload_n 0, 1) := by decide +kernel
theorem dX0_serveHouse_74 : decode cX0_serveHouse 74 = .ok (.getfield 70, 3) := by decide +kernel
theorem dX0_serveHouse_77 : decode cX0_serveHouse 77 = .ok (.isub, 1) := by decide +kernel
theorem dX0_serveHouse_78 : decode cX0_serveHouse 78 = .ok (.istore 4, 2) := by decide +kernel
theorem dX0_serveHouse_80 : decode cX0_serveHouse 80 = .ok (.iload_n 3, 1) := by decide +kernel
theorem dX0_serveHouse_81 : decode cX0_serveHouse 81 = .ok (.iload 4, 2) := by decide +kernel
theorem dX0_serveHouse_83 : decode cX0_serveHouse 83 = .ok (.invokestatic 61, 3) := by decide +kernel
theorem dX0_serveHouse_86 : decode cX0_serveHouse 86 = .ok (.istore 5, 2) := by decide +kernel
theorem dX0_serveHouse_88 : decode cX0_serveHouse 88 = .ok (.aload_n 0, 1) := by decide +kernel
theorem dX0_serveHouse_89 : decode cX0_serveHouse 89 = .ok (.dup, 1) := by decide +kernel
theorem dX0_serveHouse_90 : decode cX0_serveHouse 90 = .ok (.getfield 70, 3) := by decide +kernel
theorem dX0_serveHouse_93 : decode cX0_serveHouse 93 = .ok (.iload 5, 2) := by decide +kernel
theorem dX0_serveHouse_95 : decode cX0_serveHouse 95 = .ok (.iadd, 1) := by decide +kernel
theorem dX0_serveHouse_96 : decode cX0_serveHouse 96 = .ok (.putfield 70, 3) := by decide +kernel
theorem dX0_serveHouse_99 : decode cX0_serveHouse 99 = .ok (.aload_n 0, 1) := by decide +kernel
theorem dX0_serveHouse_100 : decode cX0_serveHouse 100 = .ok (.getfield 12, 3) := by decide +kernel
theorem dX0_serveHouse_103 : decode cX0_serveHouse 103 = .ok (.iload_n 1, 1) := by decide +kernel
theorem dX0_serveHouse_104 : decode cX0_serveHouse 104 = .ok (.aload_n 0, 1) := by decide +kernel
theorem dX0_serveHouse_105 : decode cX0_serveHouse 105 = .ok (.getfield 46, 3) := by decide +kernel
theorem dX0_serveHouse_108 : decode cX0_serveHouse 108 = .ok (.iload 5, 2) := by decide +kernel
theorem dX0_serveHouse_110 : decode cX0_serveHouse 110 = .ok (.invokevirtual 141, 3) := by decide +kernel
theorem dX0_serveHouse_113 : decode cX0_serveHouse 113 = .ok (.return_, 1) := by decide +kernel
set_option maxRecDepth 20000 in
theorem rX0_serveHouse {a1 a2 : Int32} {I : MI} {Q : MI → Prop} (H : (Wi mX10_visitMinutes [.ref 44, .int a1] I (fun r2 I1 => (∀ I3 : MI, I3 = up2 I1 56 6 ((I 56 6) + r2) → ∀ I4 : MI, I4 = up2 I3 56 7 ((I3 56 7) - a2) → ∀ I5 : MI, I5 = up2 I4 56 9 ((I4 56 9) - a2) → vp_in a1 12 ∧ vp_in a1 12 ∧ ∀ x6 : Int32, x6 = (if ((I5 35 a1.toNatClampNeg) - (I5 32 a1.toNatClampNeg)) < 0 then 0 else ((I5 35 a1.toNatClampNeg) - (I5 32 a1.toNatClampNeg))) → ∀ x7 : Int32, x7 = (if (((I5 24 3) - (I5 56 7)) - (I5 56 8)) < x6 then (((I5 24 3) - (I5 56 7)) - (I5 56 8)) else x6) → ∀ I8 : MI, I8 = up2 I5 56 8 ((I5 56 8) + x7) → Wv mX3_add [.ref 57, .int a1, .int (I8 56 6), .int x7] I8 (fun I9 => (Q I9)))))) : Wv mX0_serveHouse [.ref 56, .int a1, .int a2] I Q := by
  show WP mX0_serveHouse 286 Rf0 0 [some (.ref 56), some (.int a1), some (.int a2), none, none, none] [] I (qv Q)
  refine w_aload_n dX0_serveHouse_0 rfl rfl ?_
  refine w_dup dX0_serveHouse_1 rfl ?_
  refine w_getI dX0_serveHouse_2 fl_0_46 okC0 kd_56 (by decide) (by decide) rfl ?_
  refine w_aload_n dX0_serveHouse_5 rfl rfl ?_
  refine w_getR dX0_serveHouse_6 fl_0_26 okC0 kd_56 (by decide) (by decide) rfl rf_56_2 ?_
  refine w_iload_n dX0_serveHouse_9 rfl rfl ?_
  refine w_callV (st := [.int (I 56 6), .ref 56]) (As := [.int a1]) dX0_serveHouse_10 ml_0_127 okX10_visitMinutes kd_44 (by decide) rfl rfl rfl (Nat.le_of_ble_eq_true rfl) (by decide) (Nat.le_of_ble_eq_true rfl) (wc_i H (fun r2 I1 H => ?_))
  refine w_iadd dX0_serveHouse_13 ?_
  refine w_putI dX0_serveHouse_14 fl_0_46 okC0 kd_56 (by decide) (by decide) rfl rfl rfl (w_up fun I3 hI => ?_)
  replace H := H I3 hI
  refine w_aload_n dX0_serveHouse_17 rfl rfl ?_
  refine w_dup dX0_serveHouse_18 rfl ?_
  refine w_getI dX0_serveHouse_19 fl_0_67 okC0 kd_56 (by decide) (by decide) rfl ?_
  refine w_iload_n dX0_serveHouse_22 rfl rfl ?_
  refine w_isub dX0_serveHouse_23 ?_
  refine w_putI dX0_serveHouse_24 fl_0_67 okC0 kd_56 (by decide) (by decide) rfl rfl rfl (w_up fun I4 hI => ?_)
  replace H := H I4 hI
  refine w_aload_n dX0_serveHouse_27 rfl rfl ?_
  refine w_dup dX0_serveHouse_28 rfl ?_
  refine w_getI dX0_serveHouse_29 fl_0_55 okC0 kd_56 (by decide) (by decide) rfl ?_
  refine w_iload_n dX0_serveHouse_32 rfl rfl ?_
  refine w_isub dX0_serveHouse_33 ?_
  refine w_putI dX0_serveHouse_34 fl_0_55 okC0 kd_56 (by decide) (by decide) rfl rfl rfl (w_up fun I5 hI => ?_)
  replace H := H I5 hI
  refine w_aload_n dX0_serveHouse_37 rfl rfl ?_
  refine w_getR dX0_serveHouse_38 fl_0_22 okC0 kd_56 (by decide) (by decide) rfl rf_56_1 ?_
  refine w_getR dX0_serveHouse_41 fl_0_130 okC8 kd_30 (by decide) (by decide) rfl rf_30_6 ?_
  refine w_iload_n dX0_serveHouse_44 rfl rfl ?_
  refine w_iald dX0_serveHouse_45 kd_35 (by decide) H.1 ?_
  replace H := H.2
  refine w_aload_n dX0_serveHouse_46 rfl rfl ?_
  refine w_getR dX0_serveHouse_47 fl_0_22 okC0 kd_56 (by decide) (by decide) rfl rf_56_1 ?_
  refine w_getR dX0_serveHouse_50 fl_0_135 okC8 kd_30 (by decide) (by decide) rfl rf_30_3 ?_
  refine w_iload_n dX0_serveHouse_53 rfl rfl ?_
  refine w_iald dX0_serveHouse_54 kd_32 (by decide) H.1 ?_
  replace H := H.2
  refine w_isub dX0_serveHouse_55 ?_
  refine w_iconst (v := 0) dX0_serveHouse_56 (by decide) ?_
  refine w_max dX0_serveHouse_57 ml_0_138 maxS maI maxC (by decide) (Nat.le_of_ble_eq_true rfl) ?_
  refine w_top fun x6 hx => ?_
  replace H := H x6 hx
  refine w_istore_n (ls' := [some (.ref 56), some (.int a1), some (.int a2), some (.int x6), none, none]) dX0_serveHouse_60 rfl (by decide) rfl rfl ?_
  refine w_aload_n dX0_serveHouse_61 rfl rfl ?_
  refine w_getR dX0_serveHouse_62 fl_0_18 okC0 kd_56 (by decide) (by decide) rfl rf_56_0 ?_
  refine w_getI dX0_serveHouse_65 fl_0_58 okC6 kd_24 (by decide) (by decide) rfl ?_
  refine w_aload_n dX0_serveHouse_68 rfl rfl ?_
  refine w_getI dX0_serveHouse_69 fl_0_67 okC0 kd_56 (by decide) (by decide) rfl ?_
  refine w_isub dX0_serveHouse_72 ?_
  refine w_aload_n dX0_serveHouse_73 rfl rfl ?_
  refine w_getI dX0_serveHouse_74 fl_0_70 okC0 kd_56 (by decide) (by decide) rfl ?_
  refine w_isub dX0_serveHouse_77 ?_
  refine w_istore (ls' := [some (.ref 56), some (.int a1), some (.int a2), some (.int x6), some (.int (((I5 24 3) - (I5 56 7)) - (I5 56 8))), none]) dX0_serveHouse_78 (by decide) rfl rfl ?_
  refine w_iload_n dX0_serveHouse_80 rfl rfl ?_
  refine w_iload dX0_serveHouse_81 rfl ?_
  refine w_min dX0_serveHouse_83 ml_0_61 minS maI minC (by decide) (Nat.le_of_ble_eq_true rfl) ?_
  refine w_top fun x7 hx => ?_
  replace H := H x7 hx
  refine w_istore (ls' := [some (.ref 56), some (.int a1), some (.int a2), some (.int x6), some (.int (((I5 24 3) - (I5 56 7)) - (I5 56 8))), some (.int x7)]) dX0_serveHouse_86 (by decide) rfl rfl ?_
  refine w_aload_n dX0_serveHouse_88 rfl rfl ?_
  refine w_dup dX0_serveHouse_89 rfl ?_
  refine w_getI dX0_serveHouse_90 fl_0_70 okC0 kd_56 (by decide) (by decide) rfl ?_
  refine w_iload dX0_serveHouse_93 rfl ?_
  refine w_iadd dX0_serveHouse_95 ?_
  refine w_putI dX0_serveHouse_96 fl_0_70 okC0 kd_56 (by decide) (by decide) rfl rfl rfl (w_up fun I8 hI => ?_)
  replace H := H I8 hI
  refine w_aload_n dX0_serveHouse_99 rfl rfl ?_
  refine w_getR dX0_serveHouse_100 fl_0_12 okC0 kd_56 (by decide) (by decide) rfl rf_56_4 ?_
  refine w_iload_n dX0_serveHouse_103 rfl rfl ?_
  refine w_aload_n dX0_serveHouse_104 rfl rfl ?_
  refine w_getI dX0_serveHouse_105 fl_0_46 okC0 kd_56 (by decide) (by decide) rfl ?_
  refine w_iload dX0_serveHouse_108 rfl ?_
  refine w_callV (st := []) (As := [.int a1, .int (I8 56 6), .int x7]) dX0_serveHouse_110 ml_0_141 okX3_add kd_57 (by decide) rfl rfl rfl (Nat.le_of_ble_eq_true rfl) (by decide) (Nat.le_of_ble_eq_true rfl) (wc_v H (fun I9 H => ?_))
  exact w_vret dX0_serveHouse_113 rfl ⟨rfl, H⟩
theorem dX1_forget_0 : decode cX1_forget 0 = .ok (.aload_n 0, 1) := by decide +kernel
theorem dX1_forget_1 : decode cX1_forget 1 = .ok (.iconst 0, 1) := by decide +kernel
theorem dX1_forget_2 : decode cX1_forget 2 = .ok (.putfield 45, 3) := by decide +kernel
theorem dX1_forget_5 : decode cX1_forget 5 = .ok (.return_, 1) := by decide +kernel
set_option maxRecDepth 20000 in
theorem rX1_forget {I : MI} {Q : MI → Prop} (H : (∀ I1 : MI, I1 = up2 I 50 9 0 → Q I1)) : Wv mX1_forget [.ref 50] I Q := by
  show WP mX1_forget 286 Rf0 0 [some (.ref 50)] [] I (qv Q)
  refine w_aload_n dX1_forget_0 rfl rfl ?_
  refine w_iconst (v := 0) dX1_forget_1 (by decide) ?_
  refine w_putZ dX1_forget_2 fl_1_45 okC1 kd_50 (by decide) (by decide) rfl rfl rfl (by decide) (w_up fun I1 hI => ?_)
  replace H := H I1 hI
  exact w_vret dX1_forget_5 rfl ⟨rfl, H⟩
theorem dX1_find_0 : decode cX1_find 0 = .ok (.aload_n 0, 1) := by decide +kernel
theorem dX1_find_1 : decode cX1_find 1 = .ok (.getfield 45, 3) := by decide +kernel
theorem dX1_find_4 : decode cX1_find 4 = .ok (.ifCond .eq 4, 3) := by decide +kernel
theorem dX1_find_7 : decode cX1_find 7 = .ok (.return_, 1) := by decide +kernel
theorem dX1_find_8 : decode cX1_find 8 = .ok (.aload_n 0, 1) := by decide +kernel
theorem dX1_find_9 : decode cX1_find 9 = .ok (.iconst 1, 1) := by decide +kernel
theorem dX1_find_10 : decode cX1_find 10 = .ok (.putfield 45, 3) := by decide +kernel
theorem dX1_find_13 : decode cX1_find 13 = .ok (.aload_n 0, 1) := by decide +kernel
theorem dX1_find_14 : decode cX1_find 14 = .ok (.ldc 28, 2) := by decide +kernel
theorem dX1_find_16 : decode cX1_find 16 = .ok (.putfield 29, 3) := by decide +kernel
theorem dX1_find_19 : decode cX1_find 19 = .ok (.aload_n 0, 1) := by decide +kernel
theorem dX1_find_20 : decode cX1_find 20 = .ok (.getfield 12, 3) := by decide +kernel
theorem dX1_find_23 : decode cX1_find 23 = .ok (.invokevirtual 49, 3) := by decide +kernel
theorem dX1_find_26 : decode cX1_find 26 = .ok (.aload_n 0, 1) := by decide +kernel
theorem dX1_find_27 : decode cX1_find 27 = .ok (.getfield 37, 3) := by decide +kernel
theorem dX1_find_30 : decode cX1_find 30 = .ok (.invokevirtual 52, 3) := by decide +kernel
theorem dX1_find_33 : decode cX1_find 33 = .ok (.aload_n 0, 1) := by decide +kernel
theorem dX1_find_34 : decode cX1_find 34 = .ok (.getfield 33, 3) := by decide +kernel
theorem dX1_find_37 : decode cX1_find 37 = .ok (.getfield 58, 3) := by decide +kernel
theorem dX1_find_40 : decode cX1_find 40 = .ok (.if_icmp .le 4, 3) := by decide +kernel
theorem dX1_find_43 : decode cX1_find 43 = .ok (.return_, 1) := by decide +kernel
theorem dX1_find_44 : decode cX1_find 44 = .ok (.aload_n 0, 1) := by decide +kernel
theorem dX1_find_45 : decode cX1_find 45 = .ok (.aload_n 0, 1) := by decide +kernel
theorem dX1_find_46 : decode cX1_find 46 = .ok (.getfield 37, 3) := by decide +kernel
theorem dX1_find_49 : decode cX1_find 49 = .ok (.invokevirtual 63, 3) := by decide +kernel
theorem dX1_find_52 : decode cX1_find 52 = .ok (.putfield 66, 3) := by decide +kernel
theorem dX1_find_55 : decode cX1_find 55 = .ok (.aload_n 0, 1) := by decide +kernel
theorem dX1_find_56 : decode cX1_find 56 = .ok (.invokevirtual 69, 3) := by decide +kernel
theorem dX1_find_59 : decode cX1_find 59 = .ok (.aload_n 0, 1) := by decide +kernel
theorem dX1_find_60 : decode cX1_find 60 = .ok (.invokevirtual 72, 3) := by decide +kernel
theorem dX1_find_63 : decode cX1_find 63 = .ok (.aload_n 0, 1) := by decide +kernel
theorem dX1_find_64 : decode cX1_find 64 = .ok (.getfield 29, 3) := by decide +kernel
theorem dX1_find_67 : decode cX1_find 67 = .ok (.ldc 28, 2) := by decide +kernel
theorem dX1_find_69 : decode cX1_find 69 = .ok (.if_icmp .eq 11, 3) := by decide +kernel
theorem dX1_find_72 : decode cX1_find 72 = .ok (.aload_n 0, 1) := by decide +kernel
theorem dX1_find_73 : decode cX1_find 73 = .ok (.invokevirtual 75, 3) := by decide +kernel
theorem dX1_find_76 : decode cX1_find 76 = .ok (.aload_n 0, 1) := by decide +kernel
theorem dX1_find_77 : decode cX1_find 77 = .ok (.invokevirtual 78, 3) := by decide +kernel
theorem dX1_find_80 : decode cX1_find 80 = .ok (.return_, 1) := by decide +kernel
set_option maxRecDepth 20000 in
theorem rX1_find {I : MI} {Q : MI → Prop} (H : (((I 50 9) = 0 → (∀ I1 : MI, I1 = up2 I 50 9 1 → ∀ I2 : MI, I2 = up2 I1 50 8 2147483647 → Wv mX7_clear [.ref 51] I2 (fun I3 => (Wi mX10_sumOfDemands [.ref 44] I3 (fun r5 I4 => ((r5 ≤ (I4 24 3) → (Wi mX10_stopSet [.ref 44] I4 (fun r7 I6 => (∀ I8 : MI, I8 = up2 I6 50 7 r7 → Wv mX1_sumVisits [.ref 50] I8 (fun I9 => (Wv mX1_findEarliest [.ref 50] I9 (fun I10 => (((I10 50 8) = 2147483647 → (Q I10)) ∧ (¬ (I10 50 8) = 2147483647 → (Wv mX1_findLatest [.ref 50] I10 (fun I11 => (Wv mX1_walk [.ref 50] I11 (fun I12 => (Q I12)))))))))))))) ∧ (¬ r5 ≤ (I4 24 3) → (Q I4)))))))) ∧ (¬ (I 50 9) = 0 → (Q I)))) : Wv mX1_find [.ref 50] I Q := by
  show WP mX1_find 286 Rf0 0 [some (.ref 50)] [] I (qv Q)
  refine w_aload_n dX1_find_0 rfl rfl ?_
  refine w_getI dX1_find_1 fl_1_45 okC1 kd_50 (by decide) (by decide) rfl ?_
  refine w_if_eq (t := 8) dX1_find_4 (by decide) (fun h => ?_) (fun h => ?_)
  · replace H := H.1 h
    refine w_aload_n dX1_find_8 rfl rfl ?_
    refine w_iconst (v := 1) dX1_find_9 (by decide) ?_
    refine w_putZ dX1_find_10 fl_1_45 okC1 kd_50 (by decide) (by decide) rfl rfl rfl (by decide) (w_up fun I1 hI => ?_)
    replace H := H I1 hI
    refine w_aload_n dX1_find_13 rfl rfl ?_
    refine w_ldc (v := 2147483647) dX1_find_14 kl_1_28 ?_
    refine w_putI dX1_find_16 fl_1_29 okC1 kd_50 (by decide) (by decide) rfl rfl rfl (w_up fun I2 hI => ?_)
    replace H := H I2 hI
    refine w_aload_n dX1_find_19 rfl rfl ?_
    refine w_getR dX1_find_20 fl_1_12 okC1 kd_50 (by decide) (by decide) rfl rf_50_3 ?_
    refine w_callV (st := []) (As := []) dX1_find_23 ml_1_49 okX7_clear kd_51 (by decide) rfl rfl rfl (Nat.le_of_ble_eq_true rfl) (by decide) (Nat.le_of_ble_eq_true rfl) (wc_v H (fun I3 H => ?_))
    refine w_aload_n dX1_find_26 rfl rfl ?_
    refine w_getR dX1_find_27 fl_1_37 okC1 kd_50 (by decide) (by decide) rfl rf_50_1 ?_
    refine w_callV (st := []) (As := []) dX1_find_30 ml_1_52 okX10_sumOfDemands kd_44 (by decide) rfl rfl rfl (Nat.le_of_ble_eq_true rfl) (by decide) (Nat.le_of_ble_eq_true rfl) (wc_i H (fun r5 I4 H => ?_))
    refine w_aload_n dX1_find_33 rfl rfl ?_
    refine w_getR dX1_find_34 fl_1_33 okC1 kd_50 (by decide) (by decide) rfl rf_50_0 ?_
    refine w_getI dX1_find_37 fl_1_58 okC6 kd_24 (by decide) (by decide) rfl ?_
    refine w_icmp_le (t := 44) dX1_find_40 (by decide) (fun h => ?_) (fun h => ?_)
    · replace H := H.1 h
      refine w_aload_n dX1_find_44 rfl rfl ?_
      refine w_aload_n dX1_find_45 rfl rfl ?_
      refine w_getR dX1_find_46 fl_1_37 okC1 kd_50 (by decide) (by decide) rfl rf_50_1 ?_
      refine w_callV (st := [.ref 50]) (As := []) dX1_find_49 ml_1_63 okX10_stopSet kd_44 (by decide) rfl rfl rfl (Nat.le_of_ble_eq_true rfl) (by decide) (Nat.le_of_ble_eq_true rfl) (wc_i H (fun r7 I6 H => ?_))
      refine w_putI dX1_find_52 fl_1_66 okC1 kd_50 (by decide) (by decide) rfl rfl rfl (w_up fun I8 hI => ?_)
      replace H := H I8 hI
      refine w_aload_n dX1_find_55 rfl rfl ?_
      refine w_callV (st := []) (As := []) dX1_find_56 ml_1_69 okX1_sumVisits kd_50 (by decide) rfl rfl rfl (Nat.le_of_ble_eq_true rfl) (by decide) (Nat.le_of_ble_eq_true rfl) (wc_v H (fun I9 H => ?_))
      refine w_aload_n dX1_find_59 rfl rfl ?_
      refine w_callV (st := []) (As := []) dX1_find_60 ml_1_72 okX1_findEarliest kd_50 (by decide) rfl rfl rfl (Nat.le_of_ble_eq_true rfl) (by decide) (Nat.le_of_ble_eq_true rfl) (wc_v H (fun I10 H => ?_))
      refine w_aload_n dX1_find_63 rfl rfl ?_
      refine w_getI dX1_find_64 fl_1_29 okC1 kd_50 (by decide) (by decide) rfl ?_
      refine w_ldc (v := 2147483647) dX1_find_67 kl_1_28 ?_
      refine w_icmp_eq (t := 80) dX1_find_69 (by decide) (fun h => ?_) (fun h => ?_)
      · replace H := H.1 h
        exact w_vret dX1_find_80 rfl ⟨rfl, H⟩
      · replace H := H.2 h
        refine w_aload_n dX1_find_72 rfl rfl ?_
        refine w_callV (st := []) (As := []) dX1_find_73 ml_1_75 okX1_findLatest kd_50 (by decide) rfl rfl rfl (Nat.le_of_ble_eq_true rfl) (by decide) (Nat.le_of_ble_eq_true rfl) (wc_v H (fun I11 H => ?_))
        refine w_aload_n dX1_find_76 rfl rfl ?_
        refine w_callV (st := []) (As := []) dX1_find_77 ml_1_78 okX1_walk kd_50 (by decide) rfl rfl rfl (Nat.le_of_ble_eq_true rfl) (by decide) (Nat.le_of_ble_eq_true rfl) (wc_v H (fun I12 H => ?_))
        exact w_vret dX1_find_80 rfl ⟨rfl, H⟩
    · replace H := H.2 h
      exact w_vret dX1_find_43 rfl ⟨rfl, H⟩
  · replace H := H.2 h
    exact w_vret dX1_find_7 rfl ⟨rfl, H⟩
theorem dX1_sumVisits_0 : decode cX1_sumVisits 0 = .ok (.aload_n 0, 1) := by decide +kernel
theorem dX1_sumVisits_1 : decode cX1_sumVisits 1 = .ok (.getfield 18, 3) := by decide +kernel
theorem dX1_sumVisits_4 : decode cX1_sumVisits 4 = .ok (.iconst 0, 1) := by decide +kernel
theorem dX1_sumVisits_5 : decode cX1_sumVisits 5 = .ok (.invokestatic 81, 3) := by decide +kernel
theorem dX1_sumVisits_8 : decode cX1_sumVisits 8 = .ok (.iconst 0, 1) := by decide +kernel
theorem dX1_sumVisits_9 : decode cX1_sumVisits 9 = .ok (.istore_n 1, 1) := by decide +kernel
theorem dX1_sumVisits_10 : decode cX1_sumVisits 10 = .ok (.iload_n 1, 1) := by decide +kernel
theorem dX1_sumVisits_11 : decode cX1_sumVisits 11 = .ok (.aload_n 0, 1) := by decide +kernel
theorem dX1_sumVisits_12 : decode cX1_sumVisits 12 = .ok (.getfield 33, 3) := by decide +kernel
theorem dX1_sumVisits_15 : decode cX1_sumVisits 15 = .ok (.getfield 87, 3) := by decide +kernel
theorem dX1_sumVisits_18 : decode cX1_sumVisits 18 = .ok (.if_icmp .ge 45, 3) := by decide +kernel
theorem dX1_sumVisits_21 : decode cX1_sumVisits 21 = .ok (.aload_n 0, 1) := by decide +kernel
theorem dX1_sumVisits_22 : decode cX1_sumVisits 22 = .ok (.getfield 37, 3) := by decide +kernel
theorem dX1_sumVisits_25 : decode cX1_sumVisits 25 = .ok (.iload_n 1, 1) := by decide +kernel
theorem dX1_sumVisits_26 : decode cX1_sumVisits 26 = .ok (.invokevirtual 90, 3) := by decide +kernel
theorem dX1_sumVisits_29 : decode cX1_sumVisits 29 = .ok (.ifCond .le 28, 3) := by decide +kernel
theorem dX1_sumVisits_32 : decode cX1_sumVisits 32 = .ok (.aload_n 0, 1) := by decide +kernel
theorem dX1_sumVisits_33 : decode cX1_sumVisits 33 = .ok (.getfield 18, 3) := by decide +kernel
theorem dX1_sumVisits_36 : decode cX1_sumVisits 36 = .ok (.aload_n 0, 1) := by decide +kernel
theorem dX1_sumVisits_37 : decode cX1_sumVisits 37 = .ok (.getfield 33, 3) := by decide +kernel
theorem dX1_sumVisits_40 : decode cX1_sumVisits 40 = .ok (.getfield 94, 3) := by decide +kernel
theorem dX1_sumVisits_43 : decode cX1_sumVisits 43 = .ok (.iload_n 1, 1) := by decide +kernel
theorem dX1_sumVisits_44 : decode cX1_sumVisits 44 = .ok (.iaload, 1) := by decide +kernel
theorem dX1_sumVisits_45 : decode cX1_sumVisits 45 = .ok (.dup2, 1) := by decide +kernel
theorem dX1_sumVisits_46 : decode cX1_sumVisits 46 = .ok (.iaload, 1) := by decide +kernel
theorem dX1_sumVisits_47 : decode cX1_sumVisits 47 = .ok (.aload_n 0, 1) := by decide +kernel
theorem dX1_sumVisits_48 : decode cX1_sumVisits 48 = .ok (.getfield 37, 3) := by decide +kernel
theorem dX1_sumVisits_51 : decode cX1_sumVisits 51 = .ok (.iload_n 1, 1) := by decide +kernel
theorem dX1_sumVisits_52 : decode cX1_sumVisits 52 = .ok (.invokevirtual 97, 3) := by decide +kernel
theorem dX1_sumVisits_55 : decode cX1_sumVisits 55 = .ok (.iadd, 1) := by decide +kernel
theorem dX1_sumVisits_56 : decode cX1_sumVisits 56 = .ok (.iastore, 1) := by decide +kernel
theorem dX1_sumVisits_57 : decode cX1_sumVisits 57 = .ok (.iinc 1 1, 3) := by decide +kernel
theorem dX1_sumVisits_60 : decode cX1_sumVisits 60 = .ok (.goto (-50), 3) := by decide +kernel
theorem dX1_sumVisits_63 : decode cX1_sumVisits 63 = .ok (.return_, 1) := by decide +kernel
abbrev LX1_sumVisits_10 (l1 : Int32) (I : MI) (Q : MI → Prop) : Prop := WP mX1_sumVisits 286 Rf0 10 [some (.ref 50), some (.int l1)] [] I (qv Q)
abbrev LX1_sumVisits_57 (l1 : Int32) (I : MI) (Q : MI → Prop) : Prop := WP mX1_sumVisits 286 Rf0 57 [some (.ref 50), some (.int l1)] [] I (qv Q)
set_option maxRecDepth 20000 in
theorem rX1_sumVisits_10 {l1 : Int32} {I : MI} {Q : MI → Prop} (H : (((I 24 2) ≤ l1 → (Q I)) ∧ (¬ (I 24 2) ≤ l1 → (Wi mX10_demandOf [.ref 44, .int l1] I (fun r2 I1 => ((r2 ≤ 0 → (LX1_sumVisits_57 l1 I1 Q)) ∧ (¬ r2 ≤ 0 → (vp_in l1 12 ∧ vp_in (I1 28 l1.toNatClampNeg) 10 ∧ Wi mX10_visitMinutes [.ref 44, .int l1] I1 (fun r4 I3 => (vp_in (I1 28 l1.toNatClampNeg) 10 ∧ ∀ I5 : MI, I5 = up2 I3 53 (I1 28 l1.toNatClampNeg).toNatClampNeg ((I1 53 (I1 28 l1.toNatClampNeg).toNatClampNeg) + r4) → LX1_sumVisits_57 l1 I5 Q)))))))))) : LX1_sumVisits_10 l1 I Q := by
  show WP mX1_sumVisits 286 Rf0 10 [some (.ref 50), some (.int l1)] [] I (qv Q)
  refine w_iload_n dX1_sumVisits_10 rfl rfl ?_
  refine w_aload_n dX1_sumVisits_11 rfl rfl ?_
  refine w_getR dX1_sumVisits_12 fl_1_33 okC1 kd_50 (by decide) (by decide) rfl rf_50_0 ?_
  refine w_getI dX1_sumVisits_15 fl_1_87 okC6 kd_24 (by decide) (by decide) rfl ?_
  refine w_icmp_ge (t := 63) dX1_sumVisits_18 (by decide) (fun h => ?_) (fun h => ?_)
  · replace H := H.1 h
    exact w_vret dX1_sumVisits_63 rfl ⟨rfl, H⟩
  · replace H := H.2 h
    refine w_aload_n dX1_sumVisits_21 rfl rfl ?_
    refine w_getR dX1_sumVisits_22 fl_1_37 okC1 kd_50 (by decide) (by decide) rfl rf_50_1 ?_
    refine w_iload_n dX1_sumVisits_25 rfl rfl ?_
    refine w_callV (st := []) (As := [.int l1]) dX1_sumVisits_26 ml_1_90 okX10_demandOf kd_44 (by decide) rfl rfl rfl (Nat.le_of_ble_eq_true rfl) (by decide) (Nat.le_of_ble_eq_true rfl) (wc_i H (fun r2 I1 H => ?_))
    refine w_if_le (t := 57) dX1_sumVisits_29 (by decide) (fun h => ?_) (fun h => ?_)
    · replace H := H.1 h
      skip
      exact H
    · replace H := H.2 h
      refine w_aload_n dX1_sumVisits_32 rfl rfl ?_
      refine w_getR dX1_sumVisits_33 fl_1_18 okC1 kd_50 (by decide) (by decide) rfl rf_50_4 ?_
      refine w_aload_n dX1_sumVisits_36 rfl rfl ?_
      refine w_getR dX1_sumVisits_37 fl_1_33 okC1 kd_50 (by decide) (by decide) rfl rf_50_0 ?_
      refine w_getR dX1_sumVisits_40 fl_1_94 okC6 kd_24 (by decide) (by decide) rfl rf_24_10 ?_
      refine w_iload_n dX1_sumVisits_43 rfl rfl ?_
      refine w_iald dX1_sumVisits_44 kd_28 (by decide) H.1 ?_
      replace H := H.2
      refine w_dup2 dX1_sumVisits_45 rfl rfl ?_
      refine w_iald dX1_sumVisits_46 kd_53 (by decide) H.1 ?_
      replace H := H.2
      refine w_aload_n dX1_sumVisits_47 rfl rfl ?_
      refine w_getR dX1_sumVisits_48 fl_1_37 okC1 kd_50 (by decide) (by decide) rfl rf_50_1 ?_
      refine w_iload_n dX1_sumVisits_51 rfl rfl ?_
      refine w_callV (st := [.int (I1 53 (I1 28 l1.toNatClampNeg).toNatClampNeg), .int (I1 28 l1.toNatClampNeg), .ref 53]) (As := [.int l1]) dX1_sumVisits_52 ml_1_97 okX10_visitMinutes kd_44 (by decide) rfl rfl rfl (Nat.le_of_ble_eq_true rfl) (by decide) (Nat.le_of_ble_eq_true rfl) (wc_i H (fun r4 I3 H => ?_))
      refine w_iadd dX1_sumVisits_55 ?_
      refine w_iast dX1_sumVisits_56 kd_53 (by decide) H.1 (w_up fun I5 hI => ?_)
      replace H := H.2 I5 hI
      skip
      exact H
set_option maxRecDepth 20000 in
theorem rX1_sumVisits_57 {l1 : Int32} {I : MI} {Q : MI → Prop} (H : (LX1_sumVisits_10 (l1 + 1) I Q)) : LX1_sumVisits_57 l1 I Q := by
  show WP mX1_sumVisits 286 Rf0 57 [some (.ref 50), some (.int l1)] [] I (qv Q)
  refine w_iinc (v := l1 + 1) (ls' := [some (.ref 50), some (.int (l1 + 1))]) dX1_sumVisits_57 rfl rfl (by decide) rfl rfl ?_
  refine w_goto (t := 10) dX1_sumVisits_60 (by decide) ?_
  skip
  exact H
set_option maxRecDepth 20000 in
theorem rX1_sumVisits {I : MI} {Q : MI → Prop} (H : (Wv mJ7_fill_53178 [.ref 53, .int 0] I (fun I1 => (LX1_sumVisits_10 0 I1 Q)))) : Wv mX1_sumVisits [.ref 50] I Q := by
  show WP mX1_sumVisits 286 Rf0 0 [some (.ref 50), none] [] I (qv Q)
  refine w_aload_n dX1_sumVisits_0 rfl rfl ?_
  refine w_getR dX1_sumVisits_1 fl_1_18 okC1 kd_50 (by decide) (by decide) rfl rf_50_4 ?_
  refine w_iconst (v := 0) dX1_sumVisits_4 (by decide) ?_
  refine w_callS (st := []) (As := [.ref 53, .int 0]) dX1_sumVisits_5 ml_1_81 okJ7_fill_53178 rfl (Nat.le_of_ble_eq_true rfl) (by decide) (Nat.le_of_ble_eq_true rfl) (wc_v H (fun I1 H => ?_))
  refine w_iconst (v := 0) dX1_sumVisits_8 (by decide) ?_
  refine w_istore_n (ls' := [some (.ref 50), some (.int 0)]) dX1_sumVisits_9 rfl (by decide) rfl rfl ?_
  skip
  exact H
theorem dX1_place_0 : decode cX1_place 0 = .ok (.iload_n 0, 1) := by decide +kernel
theorem dX1_place_1 : decode cX1_place 1 = .ok (.iconst 1, 1) := by decide +kernel
theorem dX1_place_2 : decode cX1_place 2 = .ok (.ishr, 1) := by decide +kernel
theorem dX1_place_3 : decode cX1_place 3 = .ok (.bipush 10, 2) := by decide +kernel
theorem dX1_place_5 : decode cX1_place 5 = .ok (.imul, 1) := by decide +kernel
theorem dX1_place_6 : decode cX1_place 6 = .ok (.iload_n 1, 1) := by decide +kernel
theorem dX1_place_7 : decode cX1_place 7 = .ok (.iadd, 1) := by decide +kernel
theorem dX1_place_8 : decode cX1_place 8 = .ok (.ireturn, 1) := by decide +kernel
set_option maxRecDepth 20000 in
theorem rX1_place {a1 a2 : Int32} {I : MI} {Q : Int32 → MI → Prop} (H : (Q (((a1 >>> ((1 : Int32) &&& 31)) * 10) + a2) I)) : Wi mX1_place [.int a1, .int a2] I Q := by
  show WP mX1_place 286 Rf0 0 [some (.int a1), some (.int a2)] [] I (qi Q)
  refine w_iload_n dX1_place_0 rfl rfl ?_
  refine w_iconst (v := 1) dX1_place_1 (by decide) ?_
  refine w_ishr dX1_place_2 ?_
  refine w_bipush (v := 10) dX1_place_3 (by decide) ?_
  refine w_imul dX1_place_5 ?_
  refine w_iload_n dX1_place_6 rfl rfl ?_
  refine w_iadd dX1_place_7 ?_
  exact w_iret dX1_place_8 rfl ⟨_, rfl, H⟩
theorem dX1_isLast_0 : decode cX1_isLast 0 = .ok (.iload_n 0, 1) := by decide +kernel
theorem dX1_isLast_1 : decode cX1_isLast 1 = .ok (.ifCond .ne 15, 3) := by decide +kernel
theorem dX1_isLast_4 : decode cX1_isLast 4 = .ok (.iload_n 1, 1) := by decide +kernel
theorem dX1_isLast_5 : decode cX1_isLast 5 = .ok (.ifCond .ne 7, 3) := by decide +kernel
theorem dX1_isLast_8 : decode cX1_isLast 8 = .ok (.iconst 1, 1) := by decide +kernel
theorem dX1_isLast_9 : decode cX1_isLast 9 = .ok (.goto 20, 3) := by decide +kernel
theorem dX1_isLast_12 : decode cX1_isLast 12 = .ok (.iconst 0, 1) := by decide +kernel
theorem dX1_isLast_13 : decode cX1_isLast 13 = .ok (.goto 16, 3) := by decide +kernel
theorem dX1_isLast_16 : decode cX1_isLast 16 = .ok (.iload_n 0, 1) := by decide +kernel
theorem dX1_isLast_17 : decode cX1_isLast 17 = .ok (.iconst 1, 1) := by decide +kernel
theorem dX1_isLast_18 : decode cX1_isLast 18 = .ok (.iload_n 1, 1) := by decide +kernel
theorem dX1_isLast_19 : decode cX1_isLast 19 = .ok (.ishl, 1) := by decide +kernel
theorem dX1_isLast_20 : decode cX1_isLast 20 = .ok (.iand, 1) := by decide +kernel
theorem dX1_isLast_21 : decode cX1_isLast 21 = .ok (.ifCond .eq 7, 3) := by decide +kernel
theorem dX1_isLast_24 : decode cX1_isLast 24 = .ok (.iconst 1, 1) := by decide +kernel
theorem dX1_isLast_25 : decode cX1_isLast 25 = .ok (.goto 4, 3) := by decide +kernel
theorem dX1_isLast_28 : decode cX1_isLast 28 = .ok (.iconst 0, 1) := by decide +kernel
theorem dX1_isLast_29 : decode cX1_isLast 29 = .ok (.ireturn, 1) := by decide +kernel
set_option maxRecDepth 20000 in
theorem rX1_isLast {a1 a2 : Int32} {I : MI} {Q : Int32 → MI → Prop} (H : ((¬ a1 = 0 → (((a1 &&& ((1 : Int32) <<< (a2 &&& 31))) = 0 → (Q 0 I)) ∧ (¬ (a1 &&& ((1 : Int32) <<< (a2 &&& 31))) = 0 → (Q 1 I)))) ∧ (a1 = 0 → ((¬ a2 = 0 → (Q 0 I)) ∧ (a2 = 0 → (Q 1 I)))))) : Wi mX1_isLast [.int a1, .int a2] I Q := by
  show WP mX1_isLast 286 Rf0 0 [some (.int a1), some (.int a2)] [] I (qi Q)
  refine w_iload_n dX1_isLast_0 rfl rfl ?_
  refine w_if_ne (t := 16) dX1_isLast_1 (by decide) (fun h => ?_) (fun h => ?_)
  · replace H := H.1 h
    refine w_iload_n dX1_isLast_16 rfl rfl ?_
    refine w_iconst (v := 1) dX1_isLast_17 (by decide) ?_
    refine w_iload_n dX1_isLast_18 rfl rfl ?_
    refine w_ishl dX1_isLast_19 ?_
    refine w_iand dX1_isLast_20 ?_
    refine w_if_eq (t := 28) dX1_isLast_21 (by decide) (fun h => ?_) (fun h => ?_)
    · replace H := H.1 h
      refine w_iconst (v := 0) dX1_isLast_28 (by decide) ?_
      exact w_zret dX1_isLast_29 rfl rfl ⟨_, rfl, H⟩
    · replace H := H.2 h
      refine w_iconst (v := 1) dX1_isLast_24 (by decide) ?_
      refine w_goto (t := 29) dX1_isLast_25 (by decide) ?_
      exact w_zret dX1_isLast_29 rfl rfl ⟨_, rfl, H⟩
  · replace H := H.2 h
    refine w_iload_n dX1_isLast_4 rfl rfl ?_
    refine w_if_ne (t := 12) dX1_isLast_5 (by decide) (fun h => ?_) (fun h => ?_)
    · replace H := H.1 h
      refine w_iconst (v := 0) dX1_isLast_12 (by decide) ?_
      refine w_goto (t := 29) dX1_isLast_13 (by decide) ?_
      exact w_zret dX1_isLast_29 rfl rfl ⟨_, rfl, H⟩
    · replace H := H.2 h
      refine w_iconst (v := 1) dX1_isLast_8 (by decide) ?_
      refine w_goto (t := 29) dX1_isLast_9 (by decide) ?_
      exact w_zret dX1_isLast_29 rfl rfl ⟨_, rfl, H⟩
theorem dX1_isPart_0 : decode cX1_isPart 0 = .ok (.iload_n 1, 1) := by decide +kernel
theorem dX1_isPart_1 : decode cX1_isPart 1 = .ok (.aload_n 0, 1) := by decide +kernel
theorem dX1_isPart_2 : decode cX1_isPart 2 = .ok (.getfield 66, 3) := by decide +kernel
theorem dX1_isPart_5 : decode cX1_isPart 5 = .ok (.iconst (-1), 1) := by decide +kernel
theorem dX1_isPart_6 : decode cX1_isPart 6 = .ok (.ixor, 1) := by decide +kernel
theorem dX1_isPart_7 : decode cX1_isPart 7 = .ok (.iand, 1) := by decide +kernel
theorem dX1_isPart_8 : decode cX1_isPart 8 = .ok (.ifCond .ne 7, 3) := by decide +kernel
theorem dX1_isPart_11 : decode cX1_isPart 11 = .ok (.iconst 1, 1) := by decide +kernel
theorem dX1_isPart_12 : decode cX1_isPart 12 = .ok (.goto 4, 3) := by decide +kernel
theorem dX1_isPart_15 : decode cX1_isPart 15 = .ok (.iconst 0, 1) := by decide +kernel
theorem dX1_isPart_16 : decode cX1_isPart 16 = .ok (.ireturn, 1) := by decide +kernel
set_option maxRecDepth 20000 in
theorem rX1_isPart {a1 : Int32} {I : MI} {Q : Int32 → MI → Prop} (H : ((¬ (a1 &&& ((I 50 7) ^^^ ((-1) : Int32))) = 0 → (Q 0 I)) ∧ ((a1 &&& ((I 50 7) ^^^ ((-1) : Int32))) = 0 → (Q 1 I)))) : Wi mX1_isPart [.ref 50, .int a1] I Q := by
  show WP mX1_isPart 286 Rf0 0 [some (.ref 50), some (.int a1)] [] I (qi Q)
  refine w_iload_n dX1_isPart_0 rfl rfl ?_
  refine w_aload_n dX1_isPart_1 rfl rfl ?_
  refine w_getI dX1_isPart_2 fl_1_66 okC1 kd_50 (by decide) (by decide) rfl ?_
  refine w_iconst (v := (-1)) dX1_isPart_5 (by decide) ?_
  refine w_ixor dX1_isPart_6 ?_
  refine w_iand dX1_isPart_7 ?_
  refine w_if_ne (t := 15) dX1_isPart_8 (by decide) (fun h => ?_) (fun h => ?_)
  · replace H := H.1 h
    refine w_iconst (v := 0) dX1_isPart_15 (by decide) ?_
    exact w_zret dX1_isPart_16 rfl rfl ⟨_, rfl, H⟩
  · replace H := H.2 h
    refine w_iconst (v := 1) dX1_isPart_11 (by decide) ?_
    refine w_goto (t := 16) dX1_isPart_12 (by decide) ?_
    exact w_zret dX1_isPart_16 rfl rfl ⟨_, rfl, H⟩
theorem dX1_findEarliest_0 : decode cX1_findEarliest 0 = .ok (.aload_n 0, 1) := by decide +kernel
theorem dX1_findEarliest_1 : decode cX1_findEarliest 1 = .ok (.getfield 22, 3) := by decide +kernel
theorem dX1_findEarliest_4 : decode cX1_findEarliest 4 = .ok (.ldc 28, 2) := by decide +kernel
theorem dX1_findEarliest_6 : decode cX1_findEarliest 6 = .ok (.invokestatic 81, 3) := by decide +kernel
theorem dX1_findEarliest_9 : decode cX1_findEarliest 9 = .ok (.aload_n 0, 1) := by decide +kernel
theorem dX1_findEarliest_10 : decode cX1_findEarliest 10 = .ok (.getfield 22, 3) := by decide +kernel
theorem dX1_findEarliest_13 : decode cX1_findEarliest 13 = .ok (.iconst 0, 1) := by decide +kernel
theorem dX1_findEarliest_14 : decode cX1_findEarliest 14 = .ok (.iconst 0, 1) := by decide +kernel
theorem dX1_findEarliest_15 : decode cX1_findEarliest 15 = .ok (.invokestatic 100, 3) := by decide +kernel
theorem dX1_findEarliest_18 : decode cX1_findEarliest 18 = .ok (.aload_n 0, 1) := by decide +kernel
theorem dX1_findEarliest_19 : decode cX1_findEarliest 19 = .ok (.getfield 33, 3) := by decide +kernel
theorem dX1_findEarliest_22 : decode cX1_findEarliest 22 = .ok (.getfield 104, 3) := by decide +kernel
theorem dX1_findEarliest_25 : decode cX1_findEarliest 25 = .ok (.iastore, 1) := by decide +kernel
theorem dX1_findEarliest_26 : decode cX1_findEarliest 26 = .ok (.iconst 0, 1) := by decide +kernel
theorem dX1_findEarliest_27 : decode cX1_findEarliest 27 = .ok (.istore_n 1, 1) := by decide +kernel
theorem dX1_findEarliest_28 : decode cX1_findEarliest 28 = .ok (.iload_n 1, 1) := by decide +kernel
theorem dX1_findEarliest_29 : decode cX1_findEarliest 29 = .ok (.aload_n 0, 1) := by decide +kernel
theorem dX1_findEarliest_30 : decode cX1_findEarliest 30 = .ok (.getfield 66, 3) := by decide +kernel
theorem dX1_findEarliest_33 : decode cX1_findEarliest 33 = .ok (.if_icmp .gt 68, 3) := by decide +kernel
theorem dX1_findEarliest_36 : decode cX1_findEarliest 36 = .ok (.aload_n 0, 1) := by decide +kernel
theorem dX1_findEarliest_37 : decode cX1_findEarliest 37 = .ok (.iload_n 1, 1) := by decide +kernel
theorem dX1_findEarliest_38 : decode cX1_findEarliest 38 = .ok (.invokevirtual 107, 3) := by decide +kernel
theorem dX1_findEarliest_41 : decode cX1_findEarliest 41 = .ok (.ifCond .ne 6, 3) := by decide +kernel
theorem dX1_findEarliest_44 : decode cX1_findEarliest 44 = .ok (.goto 51, 3) := by decide +kernel
theorem dX1_findEarliest_47 : decode cX1_findEarliest 47 = .ok (.iconst 0, 1) := by decide +kernel
theorem dX1_findEarliest_48 : decode cX1_findEarliest 48 = .ok (.istore_n 2, 1) := by decide +kernel
theorem dX1_findEarliest_49 : decode cX1_findEarliest 49 = .ok (.iload_n 2, 1) := by decide +kernel
theorem dX1_findEarliest_50 : decode cX1_findEarliest 50 = .ok (.aload_n 0, 1) := by decide +kernel
theorem dX1_findEarliest_51 : decode cX1_findEarliest 51 = .ok (.getfield 33, 3) := by decide +kernel
theorem dX1_findEarliest_54 : decode cX1_findEarliest 54 = .ok (.getfield 111, 3) := by decide +kernel
theorem dX1_findEarliest_57 : decode cX1_findEarliest 57 = .ok (.if_icmp .ge 38, 3) := by decide +kernel
theorem dX1_findEarliest_60 : decode cX1_findEarliest 60 = .ok (.iload_n 1, 1) := by decide +kernel
theorem dX1_findEarliest_61 : decode cX1_findEarliest 61 = .ok (.iload_n 2, 1) := by decide +kernel
theorem dX1_findEarliest_62 : decode cX1_findEarliest 62 = .ok (.invokestatic 114, 3) := by decide +kernel
theorem dX1_findEarliest_65 : decode cX1_findEarliest 65 = .ok (.ifCond .eq 24, 3) := by decide +kernel
theorem dX1_findEarliest_68 : decode cX1_findEarliest 68 = .ok (.aload_n 0, 1) := by decide +kernel
theorem dX1_findEarliest_69 : decode cX1_findEarliest 69 = .ok (.getfield 22, 3) := by decide +kernel
theorem dX1_findEarliest_72 : decode cX1_findEarliest 72 = .ok (.iload_n 1, 1) := by decide +kernel
theorem dX1_findEarliest_73 : decode cX1_findEarliest 73 = .ok (.iload_n 2, 1) := by decide +kernel
theorem dX1_findEarliest_74 : decode cX1_findEarliest 74 = .ok (.invokestatic 100, 3) := by decide +kernel
theorem dX1_findEarliest_77 : decode cX1_findEarliest 77 = .ok (.iaload, 1) := by decide +kernel
theorem dX1_findEarliest_78 : decode cX1_findEarliest 78 = .ok (.ldc 28, 2) := by decide +kernel
theorem dX1_findEarliest_80 : decode cX1_findEarliest 80 = .ok (.if_icmp .eq 9, 3) := by decide +kernel
theorem dX1_findEarliest_83 : decode cX1_findEarliest 83 = .ok (.aload_n 0, 1) := by decide +kernel
theorem dX1_findEarliest_84 : decode cX1_findEarliest 84 = .ok (.iload_n 1, 1) := by decide +kernel
theorem dX1_findEarliest_85 : decode cX1_findEarliest 85 = .ok (.iload_n 2, 1) := by decide +kernel
theorem dX1_findEarliest_86 : decode cX1_findEarliest 86 = .ok (.invokevirtual 118, 3) := by decide +kernel
theorem dX1_findEarliest_89 : decode cX1_findEarliest 89 = .ok (.iinc 2 1, 3) := by decide +kernel
theorem dX1_findEarliest_92 : decode cX1_findEarliest 92 = .ok (.goto (-43), 3) := by decide +kernel
theorem dX1_findEarliest_95 : decode cX1_findEarliest 95 = .ok (.iinc 1 2, 3) := by decide +kernel
theorem dX1_findEarliest_98 : decode cX1_findEarliest 98 = .ok (.goto (-70), 3) := by decide +kernel
theorem dX1_findEarliest_101 : decode cX1_findEarliest 101 = .ok (.return_, 1) := by decide +kernel
abbrev LX1_findEarliest_28 (l1 : Int32) (I : MI) (Q : MI → Prop) : Prop := WP mX1_findEarliest 286 Rf0 28 [some (.ref 50), some (.int l1), none] [] I (qv Q)
abbrev LX1_findEarliest_49 (l1 l2 : Int32) (I : MI) (Q : MI → Prop) : Prop := WP mX1_findEarliest 286 Rf0 49 [some (.ref 50), some (.int l1), some (.int l2)] [] I (qv Q)
abbrev LX1_findEarliest_89 (l1 l2 : Int32) (I : MI) (Q : MI → Prop) : Prop := WP mX1_findEarliest 286 Rf0 89 [some (.ref 50), some (.int l1), some (.int l2)] [] I (qv Q)
abbrev LX1_findEarliest_95 (l1 : Int32) (I : MI) (Q : MI → Prop) : Prop := WP mX1_findEarliest 286 Rf0 95 [some (.ref 50), some (.int l1), none] [] I (qv Q)
set_option maxRecDepth 20000 in
theorem rX1_findEarliest_28 {l1 : Int32} {I : MI} {Q : MI → Prop} (H : (((I 50 7) < l1 → (Q I)) ∧ (¬ (I 50 7) < l1 → (Wi mX1_isPart [.ref 50, .int l1] I (fun r2 I1 => ((¬ r2 = 0 → (LX1_findEarliest_49 l1 0 I1 Q)) ∧ (r2 = 0 → (LX1_findEarliest_95 l1 I1 Q)))))))) : LX1_findEarliest_28 l1 I Q := by
  show WP mX1_findEarliest 286 Rf0 28 [some (.ref 50), some (.int l1), none] [] I (qv Q)
  refine w_iload_n dX1_findEarliest_28 rfl rfl ?_
  refine w_aload_n dX1_findEarliest_29 rfl rfl ?_
  refine w_getI dX1_findEarliest_30 fl_1_66 okC1 kd_50 (by decide) (by decide) rfl ?_
  refine w_icmp_gt (t := 101) dX1_findEarliest_33 (by decide) (fun h => ?_) (fun h => ?_)
  · replace H := H.1 h
    exact w_vret dX1_findEarliest_101 rfl ⟨rfl, H⟩
  · replace H := H.2 h
    refine w_aload_n dX1_findEarliest_36 rfl rfl ?_
    refine w_iload_n dX1_findEarliest_37 rfl rfl ?_
    refine w_callV (st := []) (As := [.int l1]) dX1_findEarliest_38 ml_1_107 okX1_isPart kd_50 (by decide) rfl rfl rfl (Nat.le_of_ble_eq_true rfl) (by decide) (Nat.le_of_ble_eq_true rfl) (wc_i H (fun r2 I1 H => ?_))
    refine w_if_ne (t := 47) dX1_findEarliest_41 (by decide) (fun h => ?_) (fun h => ?_)
    · replace H := H.1 h
      refine w_iconst (v := 0) dX1_findEarliest_47 (by decide) ?_
      refine w_istore_n (ls' := [some (.ref 50), some (.int l1), some (.int 0)]) dX1_findEarliest_48 rfl (by decide) rfl rfl ?_
      skip
      exact H
    · replace H := H.2 h
      refine w_goto (t := 95) dX1_findEarliest_44 (by decide) ?_
      skip
      exact H
set_option maxRecDepth 20000 in
theorem rX1_findEarliest_49 {l1 l2 : Int32} {I : MI} {Q : MI → Prop} (H : (((I 24 0) ≤ l2 → (LX1_findEarliest_95 l1 I Q)) ∧ (¬ (I 24 0) ≤ l2 → (Wi mX1_isLast [.int l1, .int l2] I (fun r2 I1 => ((r2 = 0 → (LX1_findEarliest_89 l1 l2 I1 Q)) ∧ (¬ r2 = 0 → (Wi mX1_place [.int l1, .int l2] I1 (fun r4 I3 => (vp_in r4 5120 ∧ ((I3 54 r4.toNatClampNeg) = 2147483647 → (LX1_findEarliest_89 l1 l2 I3 Q)) ∧ (¬ (I3 54 r4.toNatClampNeg) = 2147483647 → (Wv mX1_driveOn [.ref 50, .int l1, .int l2] I3 (fun I5 => (LX1_findEarliest_89 l1 l2 I5 Q)))))))))))))) : LX1_findEarliest_49 l1 l2 I Q := by
  show WP mX1_findEarliest 286 Rf0 49 [some (.ref 50), some (.int l1), some (.int l2)] [] I (qv Q)
  refine w_iload_n dX1_findEarliest_49 rfl rfl ?_
  refine w_aload_n dX1_findEarliest_50 rfl rfl ?_
  refine w_getR dX1_findEarliest_51 fl_1_33 okC1 kd_50 (by decide) (by decide) rfl rf_50_0 ?_
  refine w_getI dX1_findEarliest_54 fl_1_111 okC6 kd_24 (by decide) (by decide) rfl ?_
  refine w_icmp_ge (t := 95) dX1_findEarliest_57 (by decide) (fun h => ?_) (fun h => ?_)
  · replace H := H.1 h
    refine w_less (ls' := [some (.ref 50), some (.int l1), none]) (by simp [lsub]) ?_
    exact H
  · replace H := H.2 h
    refine w_iload_n dX1_findEarliest_60 rfl rfl ?_
    refine w_iload_n dX1_findEarliest_61 rfl rfl ?_
    refine w_callS (st := []) (As := [.int l1, .int l2]) dX1_findEarliest_62 ml_1_114 okX1_isLast rfl (Nat.le_of_ble_eq_true rfl) (by decide) (Nat.le_of_ble_eq_true rfl) (wc_i H (fun r2 I1 H => ?_))
    refine w_if_eq (t := 89) dX1_findEarliest_65 (by decide) (fun h => ?_) (fun h => ?_)
    · replace H := H.1 h
      skip
      exact H
    · replace H := H.2 h
      refine w_aload_n dX1_findEarliest_68 rfl rfl ?_
      refine w_getR dX1_findEarliest_69 fl_1_22 okC1 kd_50 (by decide) (by decide) rfl rf_50_5 ?_
      refine w_iload_n dX1_findEarliest_72 rfl rfl ?_
      refine w_iload_n dX1_findEarliest_73 rfl rfl ?_
      refine w_callS (st := [.ref 54]) (As := [.int l1, .int l2]) dX1_findEarliest_74 ml_1_100 okX1_place rfl (Nat.le_of_ble_eq_true rfl) (by decide) (Nat.le_of_ble_eq_true rfl) (wc_i H (fun r4 I3 H => ?_))
      refine w_iald dX1_findEarliest_77 kd_54 (by decide) H.1 ?_
      replace H := H.2
      refine w_ldc (v := 2147483647) dX1_findEarliest_78 kl_1_28 ?_
      refine w_icmp_eq (t := 89) dX1_findEarliest_80 (by decide) (fun h => ?_) (fun h => ?_)
      · replace H := H.1 h
        skip
        exact H
      · replace H := H.2 h
        refine w_aload_n dX1_findEarliest_83 rfl rfl ?_
        refine w_iload_n dX1_findEarliest_84 rfl rfl ?_
        refine w_iload_n dX1_findEarliest_85 rfl rfl ?_
        refine w_callV (st := []) (As := [.int l1, .int l2]) dX1_findEarliest_86 ml_1_118 okX1_driveOn kd_50 (by decide) rfl rfl rfl (Nat.le_of_ble_eq_true rfl) (by decide) (Nat.le_of_ble_eq_true rfl) (wc_v H (fun I5 H => ?_))
        skip
        exact H
set_option maxRecDepth 20000 in
theorem rX1_findEarliest_89 {l1 l2 : Int32} {I : MI} {Q : MI → Prop} (H : (LX1_findEarliest_49 l1 (l2 + 1) I Q)) : LX1_findEarliest_89 l1 l2 I Q := by
  show WP mX1_findEarliest 286 Rf0 89 [some (.ref 50), some (.int l1), some (.int l2)] [] I (qv Q)
  refine w_iinc (v := l2 + 1) (ls' := [some (.ref 50), some (.int l1), some (.int (l2 + 1))]) dX1_findEarliest_89 rfl rfl (by decide) rfl rfl ?_
  refine w_goto (t := 49) dX1_findEarliest_92 (by decide) ?_
  skip
  exact H
set_option maxRecDepth 20000 in
theorem rX1_findEarliest_95 {l1 : Int32} {I : MI} {Q : MI → Prop} (H : (LX1_findEarliest_28 (l1 + 2) I Q)) : LX1_findEarliest_95 l1 I Q := by
  show WP mX1_findEarliest 286 Rf0 95 [some (.ref 50), some (.int l1), none] [] I (qv Q)
  refine w_iinc (v := l1 + 2) (ls' := [some (.ref 50), some (.int (l1 + 2)), none]) dX1_findEarliest_95 rfl rfl (by decide) rfl rfl ?_
  refine w_goto (t := 28) dX1_findEarliest_98 (by decide) ?_
  skip
  exact H
set_option maxRecDepth 20000 in
theorem rX1_findEarliest {I : MI} {Q : MI → Prop} (H : (Wv mJ7_fill_53178 [.ref 54, .int 2147483647] I (fun I1 => (Wi mX1_place [.int 0, .int 0] I1 (fun r3 I2 => (vp_in r3 5120 ∧ ∀ I4 : MI, I4 = up2 I2 54 r3.toNatClampNeg (I2 24 4) → LX1_findEarliest_28 0 I4 Q)))))) : Wv mX1_findEarliest [.ref 50] I Q := by
  show WP mX1_findEarliest 286 Rf0 0 [some (.ref 50), none, none] [] I (qv Q)
  refine w_aload_n dX1_findEarliest_0 rfl rfl ?_
  refine w_getR dX1_findEarliest_1 fl_1_22 okC1 kd_50 (by decide) (by decide) rfl rf_50_5 ?_
  refine w_ldc (v := 2147483647) dX1_findEarliest_4 kl_1_28 ?_
  refine w_callS (st := []) (As := [.ref 54, .int 2147483647]) dX1_findEarliest_6 ml_1_81 okJ7_fill_53178 rfl (Nat.le_of_ble_eq_true rfl) (by decide) (Nat.le_of_ble_eq_true rfl) (wc_v H (fun I1 H => ?_))
  refine w_aload_n dX1_findEarliest_9 rfl rfl ?_
  refine w_getR dX1_findEarliest_10 fl_1_22 okC1 kd_50 (by decide) (by decide) rfl rf_50_5 ?_
  refine w_iconst (v := 0) dX1_findEarliest_13 (by decide) ?_
  refine w_iconst (v := 0) dX1_findEarliest_14 (by decide) ?_
  refine w_callS (st := [.ref 54]) (As := [.int 0, .int 0]) dX1_findEarliest_15 ml_1_100 okX1_place rfl (Nat.le_of_ble_eq_true rfl) (by decide) (Nat.le_of_ble_eq_true rfl) (wc_i H (fun r3 I2 H => ?_))
  refine w_aload_n dX1_findEarliest_18 rfl rfl ?_
  refine w_getR dX1_findEarliest_19 fl_1_33 okC1 kd_50 (by decide) (by decide) rfl rf_50_0 ?_
  refine w_getI dX1_findEarliest_22 fl_1_104 okC6 kd_24 (by decide) (by decide) rfl ?_
  refine w_iast dX1_findEarliest_25 kd_54 (by decide) H.1 (w_up fun I4 hI => ?_)
  replace H := H.2 I4 hI
  refine w_iconst (v := 0) dX1_findEarliest_26 (by decide) ?_
  refine w_istore_n (ls' := [some (.ref 50), some (.int 0), none]) dX1_findEarliest_27 rfl (by decide) rfl rfl ?_
  skip
  exact H
theorem dX1_driveOn_0 : decode cX1_driveOn 0 = .ok (.aload_n 0, 1) := by decide +kernel
theorem dX1_driveOn_1 : decode cX1_driveOn 1 = .ok (.getfield 41, 3) := by decide +kernel
theorem dX1_driveOn_4 : decode cX1_driveOn 4 = .ok (.iload_n 2, 1) := by decide +kernel
theorem dX1_driveOn_5 : decode cX1_driveOn 5 = .ok (.aload_n 0, 1) := by decide +kernel
theorem dX1_driveOn_6 : decode cX1_driveOn 6 = .ok (.getfield 22, 3) := by decide +kernel
theorem dX1_driveOn_9 : decode cX1_driveOn 9 = .ok (.iload_n 1, 1) := by decide +kernel
theorem dX1_driveOn_10 : decode cX1_driveOn 10 = .ok (.iload_n 2, 1) := by decide +kernel
theorem dX1_driveOn_11 : decode cX1_driveOn 11 = .ok (.invokestatic 100, 3) := by decide +kernel
theorem dX1_driveOn_14 : decode cX1_driveOn 14 = .ok (.iaload, 1) := by decide +kernel
theorem dX1_driveOn_15 : decode cX1_driveOn 15 = .ok (.invokevirtual 122, 3) := by decide +kernel
theorem dX1_driveOn_18 : decode cX1_driveOn 18 = .ok (.astore_n 3, 1) := by decide +kernel
theorem dX1_driveOn_19 : decode cX1_driveOn 19 = .ok (.iload_n 1, 1) := by decide +kernel
theorem dX1_driveOn_20 : decode cX1_driveOn 20 = .ok (.aload_n 0, 1) := by decide +kernel
theorem dX1_driveOn_21 : decode cX1_driveOn 21 = .ok (.getfield 66, 3) := by decide +kernel
theorem dX1_driveOn_24 : decode cX1_driveOn 24 = .ok (.if_icmp .ne 18, 3) := by decide +kernel
theorem dX1_driveOn_27 : decode cX1_driveOn 27 = .ok (.aload_n 0, 1) := by decide +kernel
theorem dX1_driveOn_28 : decode cX1_driveOn 28 = .ok (.aload_n 0, 1) := by decide +kernel
theorem dX1_driveOn_29 : decode cX1_driveOn 29 = .ok (.getfield 29, 3) := by decide +kernel
theorem dX1_driveOn_32 : decode cX1_driveOn 32 = .ok (.aload_n 3, 1) := by decide +kernel
theorem dX1_driveOn_33 : decode cX1_driveOn 33 = .ok (.iconst 0, 1) := by decide +kernel
theorem dX1_driveOn_34 : decode cX1_driveOn 34 = .ok (.iaload, 1) := by decide +kernel
theorem dX1_driveOn_35 : decode cX1_driveOn 35 = .ok (.invokestatic 128, 3) := by decide +kernel
theorem dX1_driveOn_38 : decode cX1_driveOn 38 = .ok (.putfield 29, 3) := by decide +kernel
theorem dX1_driveOn_41 : decode cX1_driveOn 41 = .ok (.return_, 1) := by decide +kernel
theorem dX1_driveOn_42 : decode cX1_driveOn 42 = .ok (.iconst 1, 1) := by decide +kernel
theorem dX1_driveOn_43 : decode cX1_driveOn 43 = .ok (.istore 4, 2) := by decide +kernel
theorem dX1_driveOn_45 : decode cX1_driveOn 45 = .ok (.iload 4, 2) := by decide +kernel
theorem dX1_driveOn_47 : decode cX1_driveOn 47 = .ok (.aload_n 0, 1) := by decide +kernel
theorem dX1_driveOn_48 : decode cX1_driveOn 48 = .ok (.getfield 33, 3) := by decide +kernel
theorem dX1_driveOn_51 : decode cX1_driveOn 51 = .ok (.getfield 111, 3) := by decide +kernel
theorem dX1_driveOn_54 : decode cX1_driveOn 54 = .ok (.if_icmp .ge 76, 3) := by decide +kernel
theorem dX1_driveOn_57 : decode cX1_driveOn 57 = .ok (.aload_n 0, 1) := by decide +kernel
theorem dX1_driveOn_58 : decode cX1_driveOn 58 = .ok (.getfield 66, 3) := by decide +kernel
theorem dX1_driveOn_61 : decode cX1_driveOn 61 = .ok (.iload_n 1, 1) := by decide +kernel
theorem dX1_driveOn_62 : decode cX1_driveOn 62 = .ok (.iconst (-1), 1) := by decide +kernel
theorem dX1_driveOn_63 : decode cX1_driveOn 63 = .ok (.ixor, 1) := by decide +kernel
theorem dX1_driveOn_64 : decode cX1_driveOn 64 = .ok (.iand, 1) := by decide +kernel
theorem dX1_driveOn_65 : decode cX1_driveOn 65 = .ok (.iconst 1, 1) := by decide +kernel
theorem dX1_driveOn_66 : decode cX1_driveOn 66 = .ok (.iload 4, 2) := by decide +kernel
theorem dX1_driveOn_68 : decode cX1_driveOn 68 = .ok (.ishl, 1) := by decide +kernel
theorem dX1_driveOn_69 : decode cX1_driveOn 69 = .ok (.iand, 1) := by decide +kernel
theorem dX1_driveOn_70 : decode cX1_driveOn 70 = .ok (.ifCond .eq 54, 3) := by decide +kernel
theorem dX1_driveOn_73 : decode cX1_driveOn 73 = .ok (.aload_n 3, 1) := by decide +kernel
theorem dX1_driveOn_74 : decode cX1_driveOn 74 = .ok (.iload 4, 2) := by decide +kernel
theorem dX1_driveOn_76 : decode cX1_driveOn 76 = .ok (.iaload, 1) := by decide +kernel
theorem dX1_driveOn_77 : decode cX1_driveOn 77 = .ok (.ldc 28, 2) := by decide +kernel
theorem dX1_driveOn_79 : decode cX1_driveOn 79 = .ok (.if_icmp .eq 45, 3) := by decide +kernel
theorem dX1_driveOn_82 : decode cX1_driveOn 82 = .ok (.iload_n 1, 1) := by decide +kernel
theorem dX1_driveOn_83 : decode cX1_driveOn 83 = .ok (.iconst 1, 1) := by decide +kernel
theorem dX1_driveOn_84 : decode cX1_driveOn 84 = .ok (.iload 4, 2) := by decide +kernel
theorem dX1_driveOn_86 : decode cX1_driveOn 86 = .ok (.ishl, 1) := by decide +kernel
theorem dX1_driveOn_87 : decode cX1_driveOn 87 = .ok (.ior, 1) := by decide +kernel
theorem dX1_driveOn_88 : decode cX1_driveOn 88 = .ok (.iload 4, 2) := by decide +kernel
theorem dX1_driveOn_90 : decode cX1_driveOn 90 = .ok (.invokestatic 100, 3) := by decide +kernel
theorem dX1_driveOn_93 : decode cX1_driveOn 93 = .ok (.istore 5, 2) := by decide +kernel
theorem dX1_driveOn_95 : decode cX1_driveOn 95 = .ok (.aload_n 0, 1) := by decide +kernel
theorem dX1_driveOn_96 : decode cX1_driveOn 96 = .ok (.getfield 22, 3) := by decide +kernel
theorem dX1_driveOn_99 : decode cX1_driveOn 99 = .ok (.iload 5, 2) := by decide +kernel
theorem dX1_driveOn_101 : decode cX1_driveOn 101 = .ok (.aload_n 0, 1) := by decide +kernel
theorem dX1_driveOn_102 : decode cX1_driveOn 102 = .ok (.getfield 22, 3) := by decide +kernel
theorem dX1_driveOn_105 : decode cX1_driveOn 105 = .ok (.iload 5, 2) := by decide +kernel
theorem dX1_driveOn_107 : decode cX1_driveOn 107 = .ok (.iaload, 1) := by decide +kernel
theorem dX1_driveOn_108 : decode cX1_driveOn 108 = .ok (.aload_n 3, 1) := by decide +kernel
theorem dX1_driveOn_109 : decode cX1_driveOn 109 = .ok (.iload 4, 2) := by decide +kernel
theorem dX1_driveOn_111 : decode cX1_driveOn 111 = .ok (.iaload, 1) := by decide +kernel
theorem dX1_driveOn_112 : decode cX1_driveOn 112 = .ok (.aload_n 0, 1) := by decide +kernel
theorem dX1_driveOn_113 : decode cX1_driveOn 113 = .ok (.getfield 18, 3) := by decide +kernel
theorem dX1_driveOn_116 : decode cX1_driveOn 116 = .ok (.iload 4, 2) := by decide +kernel
theorem dX1_driveOn_118 : decode cX1_driveOn 118 = .ok (.iaload, 1) := by decide +kernel
theorem dX1_driveOn_119 : decode cX1_driveOn 119 = .ok (.iadd, 1) := by decide +kernel
theorem dX1_driveOn_120 : decode cX1_driveOn 120 = .ok (.invokestatic 128, 3) := by decide +kernel
theorem dX1_driveOn_123 : decode cX1_driveOn 123 = .ok (.iastore, 1) := by decide +kernel
theorem dX1_driveOn_124 : decode cX1_driveOn 124 = .ok (.iinc 4 1, 3) := by decide +kernel
theorem dX1_driveOn_127 : decode cX1_driveOn 127 = .ok (.goto (-82), 3) := by decide +kernel
theorem dX1_driveOn_130 : decode cX1_driveOn 130 = .ok (.return_, 1) := by decide +kernel
abbrev LX1_driveOn_45 (l1 l2 l4 : Int32) (I : MI) (Q : MI → Prop) : Prop := WP mX1_driveOn 286 Rf0 45 [some (.ref 50), some (.int l1), some (.int l2), some (.ref 46), some (.int l4), none] [] I (qv Q)
abbrev LX1_driveOn_124 (l1 l2 l4 : Int32) (I : MI) (Q : MI → Prop) : Prop := WP mX1_driveOn 286 Rf0 124 [some (.ref 50), some (.int l1), some (.int l2), some (.ref 46), some (.int l4), none] [] I (qv Q)
set_option maxRecDepth 20000 in
theorem rX1_driveOn_45 {l1 l2 l4 : Int32} {I : MI} {Q : MI → Prop} (H : (((I 24 0) ≤ l4 → (Q I)) ∧ (¬ (I 24 0) ≤ l4 → (((((I 50 7) &&& (l1 ^^^ ((-1) : Int32))) &&& ((1 : Int32) <<< (l4 &&& 31))) = 0 → (LX1_driveOn_124 l1 l2 l4 I Q)) ∧ (¬ (((I 50 7) &&& (l1 ^^^ ((-1) : Int32))) &&& ((1 : Int32) <<< (l4 &&& 31))) = 0 → (vp_in l4 10 ∧ ((I 46 l4.toNatClampNeg) = 2147483647 → (LX1_driveOn_124 l1 l2 l4 I Q)) ∧ (¬ (I 46 l4.toNatClampNeg) = 2147483647 → (Wi mX1_place [.int (l1 ||| ((1 : Int32) <<< (l4 &&& 31))), .int l4] I (fun r2 I1 => (vp_in r2 5120 ∧ vp_in l4 10 ∧ vp_in l4 10 ∧ ∀ x3 : Int32, x3 = (if ((I1 46 l4.toNatClampNeg) + (I1 53 l4.toNatClampNeg)) < (I1 54 r2.toNatClampNeg) then ((I1 46 l4.toNatClampNeg) + (I1 53 l4.toNatClampNeg)) else (I1 54 r2.toNatClampNeg)) → vp_in r2 5120 ∧ ∀ I4 : MI, I4 = up2 I1 54 r2.toNatClampNeg x3 → LX1_driveOn_124 l1 l2 l4 I4 Q)))))))))) : LX1_driveOn_45 l1 l2 l4 I Q := by
  show WP mX1_driveOn 286 Rf0 45 [some (.ref 50), some (.int l1), some (.int l2), some (.ref 46), some (.int l4), none] [] I (qv Q)
  refine w_iload dX1_driveOn_45 rfl ?_
  refine w_aload_n dX1_driveOn_47 rfl rfl ?_
  refine w_getR dX1_driveOn_48 fl_1_33 okC1 kd_50 (by decide) (by decide) rfl rf_50_0 ?_
  refine w_getI dX1_driveOn_51 fl_1_111 okC6 kd_24 (by decide) (by decide) rfl ?_
  refine w_icmp_ge (t := 130) dX1_driveOn_54 (by decide) (fun h => ?_) (fun h => ?_)
  · replace H := H.1 h
    exact w_vret dX1_driveOn_130 rfl ⟨rfl, H⟩
  · replace H := H.2 h
    refine w_aload_n dX1_driveOn_57 rfl rfl ?_
    refine w_getI dX1_driveOn_58 fl_1_66 okC1 kd_50 (by decide) (by decide) rfl ?_
    refine w_iload_n dX1_driveOn_61 rfl rfl ?_
    refine w_iconst (v := (-1)) dX1_driveOn_62 (by decide) ?_
    refine w_ixor dX1_driveOn_63 ?_
    refine w_iand dX1_driveOn_64 ?_
    refine w_iconst (v := 1) dX1_driveOn_65 (by decide) ?_
    refine w_iload dX1_driveOn_66 rfl ?_
    refine w_ishl dX1_driveOn_68 ?_
    refine w_iand dX1_driveOn_69 ?_
    refine w_if_eq (t := 124) dX1_driveOn_70 (by decide) (fun h => ?_) (fun h => ?_)
    · replace H := H.1 h
      skip
      exact H
    · replace H := H.2 h
      refine w_aload_n dX1_driveOn_73 rfl rfl ?_
      refine w_iload dX1_driveOn_74 rfl ?_
      refine w_iald dX1_driveOn_76 kd_46 (by decide) H.1 ?_
      replace H := H.2
      refine w_ldc (v := 2147483647) dX1_driveOn_77 kl_1_28 ?_
      refine w_icmp_eq (t := 124) dX1_driveOn_79 (by decide) (fun h => ?_) (fun h => ?_)
      · replace H := H.1 h
        skip
        exact H
      · replace H := H.2 h
        refine w_iload_n dX1_driveOn_82 rfl rfl ?_
        refine w_iconst (v := 1) dX1_driveOn_83 (by decide) ?_
        refine w_iload dX1_driveOn_84 rfl ?_
        refine w_ishl dX1_driveOn_86 ?_
        refine w_ior dX1_driveOn_87 ?_
        refine w_iload dX1_driveOn_88 rfl ?_
        refine w_callS (st := []) (As := [.int (l1 ||| ((1 : Int32) <<< (l4 &&& 31))), .int l4]) dX1_driveOn_90 ml_1_100 okX1_place rfl (Nat.le_of_ble_eq_true rfl) (by decide) (Nat.le_of_ble_eq_true rfl) (wc_i H (fun r2 I1 H => ?_))
        refine w_istore (ls' := [some (.ref 50), some (.int l1), some (.int l2), some (.ref 46), some (.int l4), some (.int r2)]) dX1_driveOn_93 (by decide) rfl rfl ?_
        refine w_aload_n dX1_driveOn_95 rfl rfl ?_
        refine w_getR dX1_driveOn_96 fl_1_22 okC1 kd_50 (by decide) (by decide) rfl rf_50_5 ?_
        refine w_iload dX1_driveOn_99 rfl ?_
        refine w_aload_n dX1_driveOn_101 rfl rfl ?_
        refine w_getR dX1_driveOn_102 fl_1_22 okC1 kd_50 (by decide) (by decide) rfl rf_50_5 ?_
        refine w_iload dX1_driveOn_105 rfl ?_
        refine w_iald dX1_driveOn_107 kd_54 (by decide) H.1 ?_
        replace H := H.2
        refine w_aload_n dX1_driveOn_108 rfl rfl ?_
        refine w_iload dX1_driveOn_109 rfl ?_
        refine w_iald dX1_driveOn_111 kd_46 (by decide) H.1 ?_
        replace H := H.2
        refine w_aload_n dX1_driveOn_112 rfl rfl ?_
        refine w_getR dX1_driveOn_113 fl_1_18 okC1 kd_50 (by decide) (by decide) rfl rf_50_4 ?_
        refine w_iload dX1_driveOn_116 rfl ?_
        refine w_iald dX1_driveOn_118 kd_53 (by decide) H.1 ?_
        replace H := H.2
        refine w_iadd dX1_driveOn_119 ?_
        refine w_min dX1_driveOn_120 ml_1_128 minS maI minC (by decide) (Nat.le_of_ble_eq_true rfl) ?_
        refine w_top fun x3 hx => ?_
        replace H := H x3 hx
        refine w_iast dX1_driveOn_123 kd_54 (by decide) H.1 (w_up fun I4 hI => ?_)
        replace H := H.2 I4 hI
        refine w_less (ls' := [some (.ref 50), some (.int l1), some (.int l2), some (.ref 46), some (.int l4), none]) (by simp [lsub]) ?_
        exact H
set_option maxRecDepth 20000 in
theorem rX1_driveOn_124 {l1 l2 l4 : Int32} {I : MI} {Q : MI → Prop} (H : (LX1_driveOn_45 l1 l2 (l4 + 1) I Q)) : LX1_driveOn_124 l1 l2 l4 I Q := by
  show WP mX1_driveOn 286 Rf0 124 [some (.ref 50), some (.int l1), some (.int l2), some (.ref 46), some (.int l4), none] [] I (qv Q)
  refine w_iinc (v := l4 + 1) (ls' := [some (.ref 50), some (.int l1), some (.int l2), some (.ref 46), some (.int (l4 + 1)), none]) dX1_driveOn_124 rfl rfl (by decide) rfl rfl ?_
  refine w_goto (t := 45) dX1_driveOn_127 (by decide) ?_
  skip
  exact H
set_option maxRecDepth 20000 in
theorem rX1_driveOn {a1 a2 : Int32} {I : MI} {Q : MI → Prop} (H : (Wi mX1_place [.int a1, .int a2] I (fun r2 I1 => (vp_in r2 5120 ∧ Wr mX4_arrivalsFrom [.ref 45, .int a2, .int (I1 54 r2.toNatClampNeg)] I1 (fun r4 I3 => r4 = 46 ∧ ((¬ a1 = (I3 50 7) → (LX1_driveOn_45 a1 a2 1 I3 Q)) ∧ (a1 = (I3 50 7) → (vp_in 0 10 ∧ ∀ x5 : Int32, x5 = (if (I3 46 (0 : Int32).toNatClampNeg) < (I3 50 8) then (I3 46 (0 : Int32).toNatClampNeg) else (I3 50 8)) → ∀ I6 : MI, I6 = up2 I3 50 8 x5 → Q I6)))))))) : Wv mX1_driveOn [.ref 50, .int a1, .int a2] I Q := by
  show WP mX1_driveOn 286 Rf0 0 [some (.ref 50), some (.int a1), some (.int a2), none, none, none] [] I (qv Q)
  refine w_aload_n dX1_driveOn_0 rfl rfl ?_
  refine w_getR dX1_driveOn_1 fl_1_41 okC1 kd_50 (by decide) (by decide) rfl rf_50_2 ?_
  refine w_iload_n dX1_driveOn_4 rfl rfl ?_
  refine w_aload_n dX1_driveOn_5 rfl rfl ?_
  refine w_getR dX1_driveOn_6 fl_1_22 okC1 kd_50 (by decide) (by decide) rfl rf_50_5 ?_
  refine w_iload_n dX1_driveOn_9 rfl rfl ?_
  refine w_iload_n dX1_driveOn_10 rfl rfl ?_
  refine w_callS (st := [.ref 54, .int a2, .ref 45]) (As := [.int a1, .int a2]) dX1_driveOn_11 ml_1_100 okX1_place rfl (Nat.le_of_ble_eq_true rfl) (by decide) (Nat.le_of_ble_eq_true rfl) (wc_i H (fun r2 I1 H => ?_))
  refine w_iald dX1_driveOn_14 kd_54 (by decide) H.1 ?_
  replace H := H.2
  refine w_callV (st := []) (As := [.int a2, .int (I1 54 r2.toNatClampNeg)]) dX1_driveOn_15 ml_1_122 okX4_arrivalsFrom kd_45 (by decide) rfl rfl rfl (Nat.le_of_ble_eq_true rfl) (by decide) (Nat.le_of_ble_eq_true rfl) (wc_r H (fun r4 I3 H => ?_))
  obtain ⟨rfl, H⟩ := H
  refine w_astore_n (ls' := [some (.ref 50), some (.int a1), some (.int a2), some (.ref 46), none, none]) dX1_driveOn_18 rfl (by decide) rfl rfl ?_
  refine w_iload_n dX1_driveOn_19 rfl rfl ?_
  refine w_aload_n dX1_driveOn_20 rfl rfl ?_
  refine w_getI dX1_driveOn_21 fl_1_66 okC1 kd_50 (by decide) (by decide) rfl ?_
  refine w_icmp_ne (t := 42) dX1_driveOn_24 (by decide) (fun h => ?_) (fun h => ?_)
  · replace H := H.1 h
    refine w_iconst (v := 1) dX1_driveOn_42 (by decide) ?_
    refine w_istore (ls' := [some (.ref 50), some (.int a1), some (.int a2), some (.ref 46), some (.int 1), none]) dX1_driveOn_43 (by decide) rfl rfl ?_
    skip
    exact H
  · replace H := H.2 h
    refine w_aload_n dX1_driveOn_27 rfl rfl ?_
    refine w_aload_n dX1_driveOn_28 rfl rfl ?_
    refine w_getI dX1_driveOn_29 fl_1_29 okC1 kd_50 (by decide) (by decide) rfl ?_
    refine w_aload_n dX1_driveOn_32 rfl rfl ?_
    refine w_iconst (v := 0) dX1_driveOn_33 (by decide) ?_
    refine w_iald dX1_driveOn_34 kd_46 (by decide) H.1 ?_
    replace H := H.2
    refine w_min dX1_driveOn_35 ml_1_128 minS maI minC (by decide) (Nat.le_of_ble_eq_true rfl) ?_
    refine w_top fun x5 hx => ?_
    replace H := H x5 hx
    refine w_putI dX1_driveOn_38 fl_1_29 okC1 kd_50 (by decide) (by decide) rfl rfl rfl (w_up fun I6 hI => ?_)
    replace H := H I6 hI
    exact w_vret dX1_driveOn_41 rfl ⟨rfl, H⟩
theorem dX1_findLatest_0 : decode cX1_findLatest 0 = .ok (.aload_n 0, 1) := by decide +kernel
theorem dX1_findLatest_1 : decode cX1_findLatest 1 = .ok (.getfield 25, 3) := by decide +kernel
theorem dX1_findLatest_4 : decode cX1_findLatest 4 = .ok (.iconst (-1), 1) := by decide +kernel
theorem dX1_findLatest_5 : decode cX1_findLatest 5 = .ok (.invokestatic 81, 3) := by decide +kernel
theorem dX1_findLatest_8 : decode cX1_findLatest 8 = .ok (.aload_n 0, 1) := by decide +kernel
theorem dX1_findLatest_9 : decode cX1_findLatest 9 = .ok (.aload_n 0, 1) := by decide +kernel
theorem dX1_findLatest_10 : decode cX1_findLatest 10 = .ok (.getfield 66, 3) := by decide +kernel
theorem dX1_findLatest_13 : decode cX1_findLatest 13 = .ok (.aload_n 0, 1) := by decide +kernel
theorem dX1_findLatest_14 : decode cX1_findLatest 14 = .ok (.getfield 41, 3) := by decide +kernel
theorem dX1_findLatest_17 : decode cX1_findLatest 17 = .ok (.iconst 0, 1) := by decide +kernel
theorem dX1_findLatest_18 : decode cX1_findLatest 18 = .ok (.aload_n 0, 1) := by decide +kernel
theorem dX1_findLatest_19 : decode cX1_findLatest 19 = .ok (.getfield 29, 3) := by decide +kernel
theorem dX1_findLatest_22 : decode cX1_findLatest 22 = .ok (.invokevirtual 133, 3) := by decide +kernel
theorem dX1_findLatest_25 : decode cX1_findLatest 25 = .ok (.invokevirtual 136, 3) := by decide +kernel
theorem dX1_findLatest_28 : decode cX1_findLatest 28 = .ok (.aload_n 0, 1) := by decide +kernel
theorem dX1_findLatest_29 : decode cX1_findLatest 29 = .ok (.getfield 66, 3) := by decide +kernel
theorem dX1_findLatest_32 : decode cX1_findLatest 32 = .ok (.istore_n 1, 1) := by decide +kernel
theorem dX1_findLatest_33 : decode cX1_findLatest 33 = .ok (.iload_n 1, 1) := by decide +kernel
theorem dX1_findLatest_34 : decode cX1_findLatest 34 = .ok (.ifCond .le 100, 3) := by decide +kernel
theorem dX1_findLatest_37 : decode cX1_findLatest 37 = .ok (.aload_n 0, 1) := by decide +kernel
theorem dX1_findLatest_38 : decode cX1_findLatest 38 = .ok (.iload_n 1, 1) := by decide +kernel
theorem dX1_findLatest_39 : decode cX1_findLatest 39 = .ok (.invokevirtual 107, 3) := by decide +kernel
theorem dX1_findLatest_42 : decode cX1_findLatest 42 = .ok (.ifCond .ne 6, 3) := by decide +kernel
theorem dX1_findLatest_45 : decode cX1_findLatest 45 = .ok (.goto 83, 3) := by decide +kernel
theorem dX1_findLatest_48 : decode cX1_findLatest 48 = .ok (.iconst 1, 1) := by decide +kernel
theorem dX1_findLatest_49 : decode cX1_findLatest 49 = .ok (.istore_n 2, 1) := by decide +kernel
theorem dX1_findLatest_50 : decode cX1_findLatest 50 = .ok (.iload_n 2, 1) := by decide +kernel
theorem dX1_findLatest_51 : decode cX1_findLatest 51 = .ok (.aload_n 0, 1) := by decide +kernel
theorem dX1_findLatest_52 : decode cX1_findLatest 52 = .ok (.getfield 33, 3) := by decide +kernel
theorem dX1_findLatest_55 : decode cX1_findLatest 55 = .ok (.getfield 111, 3) := by decide +kernel
theorem dX1_findLatest_58 : decode cX1_findLatest 58 = .ok (.if_icmp .ge 70, 3) := by decide +kernel
theorem dX1_findLatest_61 : decode cX1_findLatest 61 = .ok (.iload_n 1, 1) := by decide +kernel
theorem dX1_findLatest_62 : decode cX1_findLatest 62 = .ok (.iload_n 2, 1) := by decide +kernel
theorem dX1_findLatest_63 : decode cX1_findLatest 63 = .ok (.invokestatic 100, 3) := by decide +kernel
theorem dX1_findLatest_66 : decode cX1_findLatest 66 = .ok (.istore_n 3, 1) := by decide +kernel
theorem dX1_findLatest_67 : decode cX1_findLatest 67 = .ok (.iload_n 1, 1) := by decide +kernel
theorem dX1_findLatest_68 : decode cX1_findLatest 68 = .ok (.iload_n 2, 1) := by decide +kernel
theorem dX1_findLatest_69 : decode cX1_findLatest 69 = .ok (.invokestatic 114, 3) := by decide +kernel
theorem dX1_findLatest_72 : decode cX1_findLatest 72 = .ok (.ifCond .eq 50, 3) := by decide +kernel
theorem dX1_findLatest_75 : decode cX1_findLatest 75 = .ok (.aload_n 0, 1) := by decide +kernel
theorem dX1_findLatest_76 : decode cX1_findLatest 76 = .ok (.getfield 22, 3) := by decide +kernel
theorem dX1_findLatest_79 : decode cX1_findLatest 79 = .ok (.iload_n 3, 1) := by decide +kernel
theorem dX1_findLatest_80 : decode cX1_findLatest 80 = .ok (.iaload, 1) := by decide +kernel
theorem dX1_findLatest_81 : decode cX1_findLatest 81 = .ok (.aload_n 0, 1) := by decide +kernel
theorem dX1_findLatest_82 : decode cX1_findLatest 82 = .ok (.getfield 25, 3) := by decide +kernel
theorem dX1_findLatest_85 : decode cX1_findLatest 85 = .ok (.iload_n 3, 1) := by decide +kernel
theorem dX1_findLatest_86 : decode cX1_findLatest 86 = .ok (.iaload, 1) := by decide +kernel
theorem dX1_findLatest_87 : decode cX1_findLatest 87 = .ok (.if_icmp .gt 35, 3) := by decide +kernel
theorem dX1_findLatest_90 : decode cX1_findLatest 90 = .ok (.aload_n 0, 1) := by decide +kernel
theorem dX1_findLatest_91 : decode cX1_findLatest 91 = .ok (.iload_n 1, 1) := by decide +kernel
theorem dX1_findLatest_92 : decode cX1_findLatest 92 = .ok (.iconst 1, 1) := by decide +kernel
theorem dX1_findLatest_93 : decode cX1_findLatest 93 = .ok (.iload_n 2, 1) := by decide +kernel
theorem dX1_findLatest_94 : decode cX1_findLatest 94 = .ok (.ishl, 1) := by decide +kernel
theorem dX1_findLatest_95 : decode cX1_findLatest 95 = .ok (.iconst (-1), 1) := by decide +kernel
theorem dX1_findLatest_96 : decode cX1_findLatest 96 = .ok (.ixor, 1) := by decide +kernel
theorem dX1_findLatest_97 : decode cX1_findLatest 97 = .ok (.iand, 1) := by decide +kernel
theorem dX1_findLatest_98 : decode cX1_findLatest 98 = .ok (.aload_n 0, 1) := by decide +kernel
theorem dX1_findLatest_99 : decode cX1_findLatest 99 = .ok (.getfield 41, 3) := by decide +kernel
theorem dX1_findLatest_102 : decode cX1_findLatest 102 = .ok (.iload_n 2, 1) := by decide +kernel
theorem dX1_findLatest_103 : decode cX1_findLatest 103 = .ok (.aload_n 0, 1) := by decide +kernel
theorem dX1_findLatest_104 : decode cX1_findLatest 104 = .ok (.getfield 25, 3) := by decide +kernel
theorem dX1_findLatest_107 : decode cX1_findLatest 107 = .ok (.iload_n 3, 1) := by decide +kernel
theorem dX1_findLatest_108 : decode cX1_findLatest 108 = .ok (.iaload, 1) := by decide +kernel
theorem dX1_findLatest_109 : decode cX1_findLatest 109 = .ok (.aload_n 0, 1) := by decide +kernel
theorem dX1_findLatest_110 : decode cX1_findLatest 110 = .ok (.getfield 18, 3) := by decide +kernel
theorem dX1_findLatest_113 : decode cX1_findLatest 113 = .ok (.iload_n 2, 1) := by decide +kernel
theorem dX1_findLatest_114 : decode cX1_findLatest 114 = .ok (.iaload, 1) := by decide +kernel
theorem dX1_findLatest_115 : decode cX1_findLatest 115 = .ok (.isub, 1) := by decide +kernel
theorem dX1_findLatest_116 : decode cX1_findLatest 116 = .ok (.invokevirtual 133, 3) := by decide +kernel
theorem dX1_findLatest_119 : decode cX1_findLatest 119 = .ok (.invokevirtual 136, 3) := by decide +kernel
theorem dX1_findLatest_122 : decode cX1_findLatest 122 = .ok (.iinc 2 1, 3) := by decide +kernel
theorem dX1_findLatest_125 : decode cX1_findLatest 125 = .ok (.goto (-75), 3) := by decide +kernel
theorem dX1_findLatest_128 : decode cX1_findLatest 128 = .ok (.iinc 1 (-2), 3) := by decide +kernel
theorem dX1_findLatest_131 : decode cX1_findLatest 131 = .ok (.goto (-98), 3) := by decide +kernel
theorem dX1_findLatest_134 : decode cX1_findLatest 134 = .ok (.return_, 1) := by decide +kernel
abbrev LX1_findLatest_33 (l1 : Int32) (I : MI) (Q : MI → Prop) : Prop := WP mX1_findLatest 286 Rf0 33 [some (.ref 50), some (.int l1), none, none] [] I (qv Q)
abbrev LX1_findLatest_50 (l1 l2 : Int32) (I : MI) (Q : MI → Prop) : Prop := WP mX1_findLatest 286 Rf0 50 [some (.ref 50), some (.int l1), some (.int l2), none] [] I (qv Q)
abbrev LX1_findLatest_122 (l1 l2 l3 : Int32) (I : MI) (Q : MI → Prop) : Prop := WP mX1_findLatest 286 Rf0 122 [some (.ref 50), some (.int l1), some (.int l2), some (.int l3)] [] I (qv Q)
abbrev LX1_findLatest_128 (l1 : Int32) (I : MI) (Q : MI → Prop) : Prop := WP mX1_findLatest 286 Rf0 128 [some (.ref 50), some (.int l1), none, none] [] I (qv Q)
set_option maxRecDepth 20000 in
theorem rX1_findLatest_33 {l1 : Int32} {I : MI} {Q : MI → Prop} (H : ((l1 ≤ 0 → (Q I)) ∧ (¬ l1 ≤ 0 → (Wi mX1_isPart [.ref 50, .int l1] I (fun r2 I1 => ((¬ r2 = 0 → (LX1_findLatest_50 l1 1 I1 Q)) ∧ (r2 = 0 → (LX1_findLatest_128 l1 I1 Q)))))))) : LX1_findLatest_33 l1 I Q := by
  show WP mX1_findLatest 286 Rf0 33 [some (.ref 50), some (.int l1), none, none] [] I (qv Q)
  refine w_iload_n dX1_findLatest_33 rfl rfl ?_
  refine w_if_le (t := 134) dX1_findLatest_34 (by decide) (fun h => ?_) (fun h => ?_)
  · replace H := H.1 h
    exact w_vret dX1_findLatest_134 rfl ⟨rfl, H⟩
  · replace H := H.2 h
    refine w_aload_n dX1_findLatest_37 rfl rfl ?_
    refine w_iload_n dX1_findLatest_38 rfl rfl ?_
    refine w_callV (st := []) (As := [.int l1]) dX1_findLatest_39 ml_1_107 okX1_isPart kd_50 (by decide) rfl rfl rfl (Nat.le_of_ble_eq_true rfl) (by decide) (Nat.le_of_ble_eq_true rfl) (wc_i H (fun r2 I1 H => ?_))
    refine w_if_ne (t := 48) dX1_findLatest_42 (by decide) (fun h => ?_) (fun h => ?_)
    · replace H := H.1 h
      refine w_iconst (v := 1) dX1_findLatest_48 (by decide) ?_
      refine w_istore_n (ls' := [some (.ref 50), some (.int l1), some (.int 1), none]) dX1_findLatest_49 rfl (by decide) rfl rfl ?_
      skip
      exact H
    · replace H := H.2 h
      refine w_goto (t := 128) dX1_findLatest_45 (by decide) ?_
      skip
      exact H
set_option maxRecDepth 20000 in
theorem rX1_findLatest_50 {l1 l2 : Int32} {I : MI} {Q : MI → Prop} (H : (((I 24 0) ≤ l2 → (LX1_findLatest_128 l1 I Q)) ∧ (¬ (I 24 0) ≤ l2 → (Wi mX1_place [.int l1, .int l2] I (fun r2 I1 => (Wi mX1_isLast [.int l1, .int l2] I1 (fun r4 I3 => ((r4 = 0 → (LX1_findLatest_122 l1 l2 r2 I3 Q)) ∧ (¬ r4 = 0 → (vp_in r2 5120 ∧ vp_in r2 5120 ∧ ((I3 55 r2.toNatClampNeg) < (I3 54 r2.toNatClampNeg) → (LX1_findLatest_122 l1 l2 r2 I3 Q)) ∧ (¬ (I3 55 r2.toNatClampNeg) < (I3 54 r2.toNatClampNeg) → (vp_in r2 5120 ∧ vp_in l2 10 ∧ Wr mX4_departuresTo [.ref 45, .int l2, .int ((I3 55 r2.toNatClampNeg) - (I3 53 l2.toNatClampNeg))] I3 (fun r6 I5 => r6 = 47 ∧ (Wv mX1_allow [.ref 50, .int (l1 &&& (((1 : Int32) <<< (l2 &&& 31)) ^^^ ((-1) : Int32))), .ref 47] I5 (fun I7 => (LX1_findLatest_122 l1 l2 r2 I7 Q)))))))))))))))) : LX1_findLatest_50 l1 l2 I Q := by
  show WP mX1_findLatest 286 Rf0 50 [some (.ref 50), some (.int l1), some (.int l2), none] [] I (qv Q)
  refine w_iload_n dX1_findLatest_50 rfl rfl ?_
  refine w_aload_n dX1_findLatest_51 rfl rfl ?_
  refine w_getR dX1_findLatest_52 fl_1_33 okC1 kd_50 (by decide) (by decide) rfl rf_50_0 ?_
  refine w_getI dX1_findLatest_55 fl_1_111 okC6 kd_24 (by decide) (by decide) rfl ?_
  refine w_icmp_ge (t := 128) dX1_findLatest_58 (by decide) (fun h => ?_) (fun h => ?_)
  · replace H := H.1 h
    refine w_less (ls' := [some (.ref 50), some (.int l1), none, none]) (by simp [lsub]) ?_
    exact H
  · replace H := H.2 h
    refine w_iload_n dX1_findLatest_61 rfl rfl ?_
    refine w_iload_n dX1_findLatest_62 rfl rfl ?_
    refine w_callS (st := []) (As := [.int l1, .int l2]) dX1_findLatest_63 ml_1_100 okX1_place rfl (Nat.le_of_ble_eq_true rfl) (by decide) (Nat.le_of_ble_eq_true rfl) (wc_i H (fun r2 I1 H => ?_))
    refine w_istore_n (ls' := [some (.ref 50), some (.int l1), some (.int l2), some (.int r2)]) dX1_findLatest_66 rfl (by decide) rfl rfl ?_
    refine w_iload_n dX1_findLatest_67 rfl rfl ?_
    refine w_iload_n dX1_findLatest_68 rfl rfl ?_
    refine w_callS (st := []) (As := [.int l1, .int l2]) dX1_findLatest_69 ml_1_114 okX1_isLast rfl (Nat.le_of_ble_eq_true rfl) (by decide) (Nat.le_of_ble_eq_true rfl) (wc_i H (fun r4 I3 H => ?_))
    refine w_if_eq (t := 122) dX1_findLatest_72 (by decide) (fun h => ?_) (fun h => ?_)
    · replace H := H.1 h
      skip
      exact H
    · replace H := H.2 h
      refine w_aload_n dX1_findLatest_75 rfl rfl ?_
      refine w_getR dX1_findLatest_76 fl_1_22 okC1 kd_50 (by decide) (by decide) rfl rf_50_5 ?_
      refine w_iload_n dX1_findLatest_79 rfl rfl ?_
      refine w_iald dX1_findLatest_80 kd_54 (by decide) H.1 ?_
      replace H := H.2
      refine w_aload_n dX1_findLatest_81 rfl rfl ?_
      refine w_getR dX1_findLatest_82 fl_1_25 okC1 kd_50 (by decide) (by decide) rfl rf_50_6 ?_
      refine w_iload_n dX1_findLatest_85 rfl rfl ?_
      refine w_iald dX1_findLatest_86 kd_55 (by decide) H.1 ?_
      replace H := H.2
      refine w_icmp_gt (t := 122) dX1_findLatest_87 (by decide) (fun h => ?_) (fun h => ?_)
      · replace H := H.1 h
        skip
        exact H
      · replace H := H.2 h
        refine w_aload_n dX1_findLatest_90 rfl rfl ?_
        refine w_iload_n dX1_findLatest_91 rfl rfl ?_
        refine w_iconst (v := 1) dX1_findLatest_92 (by decide) ?_
        refine w_iload_n dX1_findLatest_93 rfl rfl ?_
        refine w_ishl dX1_findLatest_94 ?_
        refine w_iconst (v := (-1)) dX1_findLatest_95 (by decide) ?_
        refine w_ixor dX1_findLatest_96 ?_
        refine w_iand dX1_findLatest_97 ?_
        refine w_aload_n dX1_findLatest_98 rfl rfl ?_
        refine w_getR dX1_findLatest_99 fl_1_41 okC1 kd_50 (by decide) (by decide) rfl rf_50_2 ?_
        refine w_iload_n dX1_findLatest_102 rfl rfl ?_
        refine w_aload_n dX1_findLatest_103 rfl rfl ?_
        refine w_getR dX1_findLatest_104 fl_1_25 okC1 kd_50 (by decide) (by decide) rfl rf_50_6 ?_
        refine w_iload_n dX1_findLatest_107 rfl rfl ?_
        refine w_iald dX1_findLatest_108 kd_55 (by decide) H.1 ?_
        replace H := H.2
        refine w_aload_n dX1_findLatest_109 rfl rfl ?_
        refine w_getR dX1_findLatest_110 fl_1_18 okC1 kd_50 (by decide) (by decide) rfl rf_50_4 ?_
        refine w_iload_n dX1_findLatest_113 rfl rfl ?_
        refine w_iald dX1_findLatest_114 kd_53 (by decide) H.1 ?_
        replace H := H.2
        refine w_isub dX1_findLatest_115 ?_
        refine w_callV (st := [.int (l1 &&& (((1 : Int32) <<< (l2 &&& 31)) ^^^ ((-1) : Int32))), .ref 50]) (As := [.int l2, .int ((I3 55 r2.toNatClampNeg) - (I3 53 l2.toNatClampNeg))]) dX1_findLatest_116 ml_1_133 okX4_departuresTo kd_45 (by decide) rfl rfl rfl (Nat.le_of_ble_eq_true rfl) (by decide) (Nat.le_of_ble_eq_true rfl) (wc_r H (fun r6 I5 H => ?_))
        obtain ⟨rfl, H⟩ := H
        refine w_callV (st := []) (As := [.int (l1 &&& (((1 : Int32) <<< (l2 &&& 31)) ^^^ ((-1) : Int32))), .ref 47]) dX1_findLatest_119 ml_1_136 okX1_allow kd_50 (by decide) rfl rfl rfl (Nat.le_of_ble_eq_true rfl) (by decide) (Nat.le_of_ble_eq_true rfl) (wc_v H (fun I7 H => ?_))
        skip
        exact H
set_option maxRecDepth 20000 in
theorem rX1_findLatest_122 {l1 l2 l3 : Int32} {I : MI} {Q : MI → Prop} (H : (LX1_findLatest_50 l1 (l2 + 1) I Q)) : LX1_findLatest_122 l1 l2 l3 I Q := by
  show WP mX1_findLatest 286 Rf0 122 [some (.ref 50), some (.int l1), some (.int l2), some (.int l3)] [] I (qv Q)
  refine w_iinc (v := l2 + 1) (ls' := [some (.ref 50), some (.int l1), some (.int (l2 + 1)), some (.int l3)]) dX1_findLatest_122 rfl rfl (by decide) rfl rfl ?_
  refine w_goto (t := 50) dX1_findLatest_125 (by decide) ?_
  refine w_less (ls' := [some (.ref 50), some (.int l1), some (.int (l2 + 1)), none]) (by simp [lsub]) ?_
  exact H
set_option maxRecDepth 20000 in
theorem rX1_findLatest_128 {l1 : Int32} {I : MI} {Q : MI → Prop} (H : (LX1_findLatest_33 (l1 + (-2)) I Q)) : LX1_findLatest_128 l1 I Q := by
  show WP mX1_findLatest 286 Rf0 128 [some (.ref 50), some (.int l1), none, none] [] I (qv Q)
  refine w_iinc (v := l1 + (-2)) (ls' := [some (.ref 50), some (.int (l1 + (-2))), none, none]) dX1_findLatest_128 rfl rfl (by decide) rfl rfl ?_
  refine w_goto (t := 33) dX1_findLatest_131 (by decide) ?_
  skip
  exact H
set_option maxRecDepth 20000 in
theorem rX1_findLatest {I : MI} {Q : MI → Prop} (H : (Wv mJ7_fill_53178 [.ref 55, .int (-1)] I (fun I1 => (Wr mX4_departuresTo [.ref 45, .int 0, .int (I1 50 8)] I1 (fun r3 I2 => r3 = 47 ∧ (Wv mX1_allow [.ref 50, .int (I1 50 7), .ref 47] I2 (fun I4 => (LX1_findLatest_33 (I4 50 7) I4 Q)))))))) : Wv mX1_findLatest [.ref 50] I Q := by
  show WP mX1_findLatest 286 Rf0 0 [some (.ref 50), none, none, none] [] I (qv Q)
  refine w_aload_n dX1_findLatest_0 rfl rfl ?_
  refine w_getR dX1_findLatest_1 fl_1_25 okC1 kd_50 (by decide) (by decide) rfl rf_50_6 ?_
  refine w_iconst (v := (-1)) dX1_findLatest_4 (by decide) ?_
  refine w_callS (st := []) (As := [.ref 55, .int (-1)]) dX1_findLatest_5 ml_1_81 okJ7_fill_53178 rfl (Nat.le_of_ble_eq_true rfl) (by decide) (Nat.le_of_ble_eq_true rfl) (wc_v H (fun I1 H => ?_))
  refine w_aload_n dX1_findLatest_8 rfl rfl ?_
  refine w_aload_n dX1_findLatest_9 rfl rfl ?_
  refine w_getI dX1_findLatest_10 fl_1_66 okC1 kd_50 (by decide) (by decide) rfl ?_
  refine w_aload_n dX1_findLatest_13 rfl rfl ?_
  refine w_getR dX1_findLatest_14 fl_1_41 okC1 kd_50 (by decide) (by decide) rfl rf_50_2 ?_
  refine w_iconst (v := 0) dX1_findLatest_17 (by decide) ?_
  refine w_aload_n dX1_findLatest_18 rfl rfl ?_
  refine w_getI dX1_findLatest_19 fl_1_29 okC1 kd_50 (by decide) (by decide) rfl ?_
  refine w_callV (st := [.int (I1 50 7), .ref 50]) (As := [.int 0, .int (I1 50 8)]) dX1_findLatest_22 ml_1_133 okX4_departuresTo kd_45 (by decide) rfl rfl rfl (Nat.le_of_ble_eq_true rfl) (by decide) (Nat.le_of_ble_eq_true rfl) (wc_r H (fun r3 I2 H => ?_))
  obtain ⟨rfl, H⟩ := H
  refine w_callV (st := []) (As := [.int (I1 50 7), .ref 47]) dX1_findLatest_25 ml_1_136 okX1_allow kd_50 (by decide) rfl rfl rfl (Nat.le_of_ble_eq_true rfl) (by decide) (Nat.le_of_ble_eq_true rfl) (wc_v H (fun I4 H => ?_))
  refine w_aload_n dX1_findLatest_28 rfl rfl ?_
  refine w_getI dX1_findLatest_29 fl_1_66 okC1 kd_50 (by decide) (by decide) rfl ?_
  refine w_istore_n (ls' := [some (.ref 50), some (.int (I4 50 7)), none, none]) dX1_findLatest_32 rfl (by decide) rfl rfl ?_
  skip
  exact H
theorem dX1_walk_0 : decode cX1_walk 0 = .ok (.iconst 0, 1) := by decide +kernel
theorem dX1_walk_1 : decode cX1_walk 1 = .ok (.istore_n 1, 1) := by decide +kernel
theorem dX1_walk_2 : decode cX1_walk 2 = .ok (.iconst 0, 1) := by decide +kernel
theorem dX1_walk_3 : decode cX1_walk 3 = .ok (.istore_n 2, 1) := by decide +kernel
theorem dX1_walk_4 : decode cX1_walk 4 = .ok (.aload_n 0, 1) := by decide +kernel
theorem dX1_walk_5 : decode cX1_walk 5 = .ok (.getfield 33, 3) := by decide +kernel
theorem dX1_walk_8 : decode cX1_walk 8 = .ok (.getfield 104, 3) := by decide +kernel
theorem dX1_walk_11 : decode cX1_walk 11 = .ok (.istore_n 3, 1) := by decide +kernel
theorem dX1_walk_12 : decode cX1_walk 12 = .ok (.iconst 0, 1) := by decide +kernel
theorem dX1_walk_13 : decode cX1_walk 13 = .ok (.istore 4, 2) := by decide +kernel
theorem dX1_walk_15 : decode cX1_walk 15 = .ok (.iload 4, 2) := by decide +kernel
theorem dX1_walk_17 : decode cX1_walk 17 = .ok (.bipush 10, 2) := by decide +kernel
theorem dX1_walk_19 : decode cX1_walk 19 = .ok (.if_icmp .ge 62, 3) := by decide +kernel
theorem dX1_walk_22 : decode cX1_walk 22 = .ok (.iload_n 1, 1) := by decide +kernel
theorem dX1_walk_23 : decode cX1_walk 23 = .ok (.aload_n 0, 1) := by decide +kernel
theorem dX1_walk_24 : decode cX1_walk 24 = .ok (.getfield 66, 3) := by decide +kernel
theorem dX1_walk_27 : decode cX1_walk 27 = .ok (.if_icmp .eq 54, 3) := by decide +kernel
theorem dX1_walk_30 : decode cX1_walk 30 = .ok (.aload_n 0, 1) := by decide +kernel
theorem dX1_walk_31 : decode cX1_walk 31 = .ok (.getfield 41, 3) := by decide +kernel
theorem dX1_walk_34 : decode cX1_walk 34 = .ok (.iload_n 2, 1) := by decide +kernel
theorem dX1_walk_35 : decode cX1_walk 35 = .ok (.iload_n 3, 1) := by decide +kernel
theorem dX1_walk_36 : decode cX1_walk 36 = .ok (.invokevirtual 122, 3) := by decide +kernel
theorem dX1_walk_39 : decode cX1_walk 39 = .ok (.astore 5, 2) := by decide +kernel
theorem dX1_walk_41 : decode cX1_walk 41 = .ok (.aload_n 0, 1) := by decide +kernel
theorem dX1_walk_42 : decode cX1_walk 42 = .ok (.iload_n 1, 1) := by decide +kernel
theorem dX1_walk_43 : decode cX1_walk 43 = .ok (.aload 5, 2) := by decide +kernel
theorem dX1_walk_45 : decode cX1_walk 45 = .ok (.invokevirtual 143, 3) := by decide +kernel
theorem dX1_walk_48 : decode cX1_walk 48 = .ok (.istore_n 2, 1) := by decide +kernel
theorem dX1_walk_49 : decode cX1_walk 49 = .ok (.aload 5, 2) := by decide +kernel
theorem dX1_walk_51 : decode cX1_walk 51 = .ok (.iload_n 2, 1) := by decide +kernel
theorem dX1_walk_52 : decode cX1_walk 52 = .ok (.iaload, 1) := by decide +kernel
theorem dX1_walk_53 : decode cX1_walk 53 = .ok (.aload_n 0, 1) := by decide +kernel
theorem dX1_walk_54 : decode cX1_walk 54 = .ok (.getfield 18, 3) := by decide +kernel
theorem dX1_walk_57 : decode cX1_walk 57 = .ok (.iload_n 2, 1) := by decide +kernel
theorem dX1_walk_58 : decode cX1_walk 58 = .ok (.iaload, 1) := by decide +kernel
theorem dX1_walk_59 : decode cX1_walk 59 = .ok (.iadd, 1) := by decide +kernel
theorem dX1_walk_60 : decode cX1_walk 60 = .ok (.istore_n 3, 1) := by decide +kernel
theorem dX1_walk_61 : decode cX1_walk 61 = .ok (.iload_n 1, 1) := by decide +kernel
theorem dX1_walk_62 : decode cX1_walk 62 = .ok (.iconst 1, 1) := by decide +kernel
theorem dX1_walk_63 : decode cX1_walk 63 = .ok (.iload_n 2, 1) := by decide +kernel
theorem dX1_walk_64 : decode cX1_walk 64 = .ok (.ishl, 1) := by decide +kernel
theorem dX1_walk_65 : decode cX1_walk 65 = .ok (.ior, 1) := by decide +kernel
theorem dX1_walk_66 : decode cX1_walk 66 = .ok (.istore_n 1, 1) := by decide +kernel
theorem dX1_walk_67 : decode cX1_walk 67 = .ok (.aload_n 0, 1) := by decide +kernel
theorem dX1_walk_68 : decode cX1_walk 68 = .ok (.getfield 12, 3) := by decide +kernel
theorem dX1_walk_71 : decode cX1_walk 71 = .ok (.iload_n 2, 1) := by decide +kernel
theorem dX1_walk_72 : decode cX1_walk 72 = .ok (.invokevirtual 147, 3) := by decide +kernel
theorem dX1_walk_75 : decode cX1_walk 75 = .ok (.iinc 4 1, 3) := by decide +kernel
theorem dX1_walk_78 : decode cX1_walk 78 = .ok (.goto (-63), 3) := by decide +kernel
theorem dX1_walk_81 : decode cX1_walk 81 = .ok (.return_, 1) := by decide +kernel
abbrev LX1_walk_15 (l1 l2 l3 l4 : Int32) (I : MI) (Q : MI → Prop) : Prop := WP mX1_walk 286 Rf0 15 [some (.ref 50), some (.int l1), some (.int l2), some (.int l3), some (.int l4), none] [] I (qv Q)
set_option maxRecDepth 20000 in
theorem rX1_walk_15 {l1 l2 l3 l4 : Int32} {I : MI} {Q : MI → Prop} (H : ((10 ≤ l4 → (Q I)) ∧ (¬ 10 ≤ l4 → ((l1 = (I 50 7) → (Q I)) ∧ (¬ l1 = (I 50 7) → (Wr mX4_arrivalsFrom [.ref 45, .int l2, .int l3] I (fun r2 I1 => r2 = 46 ∧ (Wi mX1_firstInTime [.ref 50, .int l1, .ref 46] I1 (fun r4 I3 => (vp_in r4 10 ∧ vp_in r4 10 ∧ Wv mX7_add [.ref 51, .int r4] I3 (fun I5 => (LX1_walk_15 (l1 ||| ((1 : Int32) <<< (r4 &&& 31))) r4 ((I3 46 r4.toNatClampNeg) + (I3 53 r4.toNatClampNeg)) (l4 + 1) I5 Q)))))))))))) : LX1_walk_15 l1 l2 l3 l4 I Q := by
  show WP mX1_walk 286 Rf0 15 [some (.ref 50), some (.int l1), some (.int l2), some (.int l3), some (.int l4), none] [] I (qv Q)
  refine w_iload dX1_walk_15 rfl ?_
  refine w_bipush (v := 10) dX1_walk_17 (by decide) ?_
  refine w_icmp_ge (t := 81) dX1_walk_19 (by decide) (fun h => ?_) (fun h => ?_)
  · replace H := H.1 h
    exact w_vret dX1_walk_81 rfl ⟨rfl, H⟩
  · replace H := H.2 h
    refine w_iload_n dX1_walk_22 rfl rfl ?_
    refine w_aload_n dX1_walk_23 rfl rfl ?_
    refine w_getI dX1_walk_24 fl_1_66 okC1 kd_50 (by decide) (by decide) rfl ?_
    refine w_icmp_eq (t := 81) dX1_walk_27 (by decide) (fun h => ?_) (fun h => ?_)
    · replace H := H.1 h
      exact w_vret dX1_walk_81 rfl ⟨rfl, H⟩
    · replace H := H.2 h
      refine w_aload_n dX1_walk_30 rfl rfl ?_
      refine w_getR dX1_walk_31 fl_1_41 okC1 kd_50 (by decide) (by decide) rfl rf_50_2 ?_
      refine w_iload_n dX1_walk_34 rfl rfl ?_
      refine w_iload_n dX1_walk_35 rfl rfl ?_
      refine w_callV (st := []) (As := [.int l2, .int l3]) dX1_walk_36 ml_1_122 okX4_arrivalsFrom kd_45 (by decide) rfl rfl rfl (Nat.le_of_ble_eq_true rfl) (by decide) (Nat.le_of_ble_eq_true rfl) (wc_r H (fun r2 I1 H => ?_))
      obtain ⟨rfl, H⟩ := H
      refine w_astore (ls' := [some (.ref 50), some (.int l1), some (.int l2), some (.int l3), some (.int l4), some (.ref 46)]) dX1_walk_39 (by decide) rfl rfl ?_
      refine w_aload_n dX1_walk_41 rfl rfl ?_
      refine w_iload_n dX1_walk_42 rfl rfl ?_
      refine w_aload dX1_walk_43 rfl ?_
      refine w_callV (st := []) (As := [.int l1, .ref 46]) dX1_walk_45 ml_1_143 okX1_firstInTime kd_50 (by decide) rfl rfl rfl (Nat.le_of_ble_eq_true rfl) (by decide) (Nat.le_of_ble_eq_true rfl) (wc_i H (fun r4 I3 H => ?_))
      refine w_istore_n (ls' := [some (.ref 50), some (.int l1), some (.int r4), some (.int l3), some (.int l4), some (.ref 46)]) dX1_walk_48 rfl (by decide) rfl rfl ?_
      refine w_aload dX1_walk_49 rfl ?_
      refine w_iload_n dX1_walk_51 rfl rfl ?_
      refine w_iald dX1_walk_52 kd_46 (by decide) H.1 ?_
      replace H := H.2
      refine w_aload_n dX1_walk_53 rfl rfl ?_
      refine w_getR dX1_walk_54 fl_1_18 okC1 kd_50 (by decide) (by decide) rfl rf_50_4 ?_
      refine w_iload_n dX1_walk_57 rfl rfl ?_
      refine w_iald dX1_walk_58 kd_53 (by decide) H.1 ?_
      replace H := H.2
      refine w_iadd dX1_walk_59 ?_
      refine w_istore_n (ls' := [some (.ref 50), some (.int l1), some (.int r4), some (.int ((I3 46 r4.toNatClampNeg) + (I3 53 r4.toNatClampNeg))), some (.int l4), some (.ref 46)]) dX1_walk_60 rfl (by decide) rfl rfl ?_
      refine w_iload_n dX1_walk_61 rfl rfl ?_
      refine w_iconst (v := 1) dX1_walk_62 (by decide) ?_
      refine w_iload_n dX1_walk_63 rfl rfl ?_
      refine w_ishl dX1_walk_64 ?_
      refine w_ior dX1_walk_65 ?_
      refine w_istore_n (ls' := [some (.ref 50), some (.int (l1 ||| ((1 : Int32) <<< (r4 &&& 31)))), some (.int r4), some (.int ((I3 46 r4.toNatClampNeg) + (I3 53 r4.toNatClampNeg))), some (.int l4), some (.ref 46)]) dX1_walk_66 rfl (by decide) rfl rfl ?_
      refine w_aload_n dX1_walk_67 rfl rfl ?_
      refine w_getR dX1_walk_68 fl_1_12 okC1 kd_50 (by decide) (by decide) rfl rf_50_3 ?_
      refine w_iload_n dX1_walk_71 rfl rfl ?_
      refine w_callV (st := []) (As := [.int r4]) dX1_walk_72 ml_1_147 okX7_add kd_51 (by decide) rfl rfl rfl (Nat.le_of_ble_eq_true rfl) (by decide) (Nat.le_of_ble_eq_true rfl) (wc_v H (fun I5 H => ?_))
      refine w_iinc (v := l4 + 1) (ls' := [some (.ref 50), some (.int (l1 ||| ((1 : Int32) <<< (r4 &&& 31)))), some (.int r4), some (.int ((I3 46 r4.toNatClampNeg) + (I3 53 r4.toNatClampNeg))), some (.int (l4 + 1)), some (.ref 46)]) dX1_walk_75 rfl rfl (by decide) rfl rfl ?_
      refine w_goto (t := 15) dX1_walk_78 (by decide) ?_
      refine w_less (ls' := [some (.ref 50), some (.int (l1 ||| ((1 : Int32) <<< (r4 &&& 31)))), some (.int r4), some (.int ((I3 46 r4.toNatClampNeg) + (I3 53 r4.toNatClampNeg))), some (.int (l4 + 1)), none]) (by simp [lsub]) ?_
      exact H
set_option maxRecDepth 20000 in
theorem rX1_walk {I : MI} {Q : MI → Prop} (H : (LX1_walk_15 0 0 (I 24 4) 0 I Q)) : Wv mX1_walk [.ref 50] I Q := by
  show WP mX1_walk 286 Rf0 0 [some (.ref 50), none, none, none, none, none] [] I (qv Q)
  refine w_iconst (v := 0) dX1_walk_0 (by decide) ?_
  refine w_istore_n (ls' := [some (.ref 50), some (.int 0), none, none, none, none]) dX1_walk_1 rfl (by decide) rfl rfl ?_
  refine w_iconst (v := 0) dX1_walk_2 (by decide) ?_
  refine w_istore_n (ls' := [some (.ref 50), some (.int 0), some (.int 0), none, none, none]) dX1_walk_3 rfl (by decide) rfl rfl ?_
  refine w_aload_n dX1_walk_4 rfl rfl ?_
  refine w_getR dX1_walk_5 fl_1_33 okC1 kd_50 (by decide) (by decide) rfl rf_50_0 ?_
  refine w_getI dX1_walk_8 fl_1_104 okC6 kd_24 (by decide) (by decide) rfl ?_
  refine w_istore_n (ls' := [some (.ref 50), some (.int 0), some (.int 0), some (.int (I 24 4)), none, none]) dX1_walk_11 rfl (by decide) rfl rfl ?_
  refine w_iconst (v := 0) dX1_walk_12 (by decide) ?_
  refine w_istore (ls' := [some (.ref 50), some (.int 0), some (.int 0), some (.int (I 24 4)), some (.int 0), none]) dX1_walk_13 (by decide) rfl rfl ?_
  skip
  exact H
theorem dX2_clear_0 : decode cX2_clear 0 = .ok (.aload_n 0, 1) := by decide +kernel
theorem dX2_clear_1 : decode cX2_clear 1 = .ok (.iconst 0, 1) := by decide +kernel
theorem dX2_clear_2 : decode cX2_clear 2 = .ok (.putfield 18, 3) := by decide +kernel
theorem dX2_clear_5 : decode cX2_clear 5 = .ok (.return_, 1) := by decide +kernel
set_option maxRecDepth 20000 in
theorem rX2_clear {I : MI} {Q : MI → Prop} (H : (∀ I1 : MI, I1 = up2 I 61 2 0 → Q I1)) : Wv mX2_clear [.ref 61] I Q := by
  show WP mX2_clear 286 Rf0 0 [some (.ref 61)] [] I (qv Q)
  refine w_aload_n dX2_clear_0 rfl rfl ?_
  refine w_iconst (v := 0) dX2_clear_1 (by decide) ?_
  refine w_putI dX2_clear_2 fl_2_18 okC2 kd_61 (by decide) (by decide) rfl rfl rfl (w_up fun I1 hI => ?_)
  replace H := H I1 hI
  exact w_vret dX2_clear_5 rfl ⟨rfl, H⟩
theorem dX4_arrivalsFrom_0 : decode cX4_arrivalsFrom 0 = .ok (.aload_n 0, 1) := by decide +kernel
theorem dX4_arrivalsFrom_1 : decode cX4_arrivalsFrom 1 = .ok (.getfield 9, 3) := by decide +kernel
theorem dX4_arrivalsFrom_4 : decode cX4_arrivalsFrom 4 = .ok (.ldc 26, 2) := by decide +kernel
theorem dX4_arrivalsFrom_6 : decode cX4_arrivalsFrom 6 = .ok (.invokestatic 27, 3) := by decide +kernel
theorem dX4_arrivalsFrom_9 : decode cX4_arrivalsFrom 9 = .ok (.aload_n 0, 1) := by decide +kernel
theorem dX4_arrivalsFrom_10 : decode cX4_arrivalsFrom 10 = .ok (.getfield 9, 3) := by decide +kernel
theorem dX4_arrivalsFrom_13 : decode cX4_arrivalsFrom 13 = .ok (.iload_n 1, 1) := by decide +kernel
theorem dX4_arrivalsFrom_14 : decode cX4_arrivalsFrom 14 = .ok (.iload_n 2, 1) := by decide +kernel
theorem dX4_arrivalsFrom_15 : decode cX4_arrivalsFrom 15 = .ok (.iastore, 1) := by decide +kernel
theorem dX4_arrivalsFrom_16 : decode cX4_arrivalsFrom 16 = .ok (.aload_n 0, 1) := by decide +kernel
theorem dX4_arrivalsFrom_17 : decode cX4_arrivalsFrom 17 = .ok (.iconst 0, 1) := by decide +kernel
theorem dX4_arrivalsFrom_18 : decode cX4_arrivalsFrom 18 = .ok (.invokevirtual 33, 3) := by decide +kernel
theorem dX4_arrivalsFrom_21 : decode cX4_arrivalsFrom 21 = .ok (.aload_n 0, 1) := by decide +kernel
theorem dX4_arrivalsFrom_22 : decode cX4_arrivalsFrom 22 = .ok (.getfield 9, 3) := by decide +kernel
theorem dX4_arrivalsFrom_25 : decode cX4_arrivalsFrom 25 = .ok (.areturn, 1) := by decide +kernel
set_option maxRecDepth 20000 in
theorem rX4_arrivalsFrom {a1 a2 : Int32} {I : MI} {Q : Nat → MI → Prop} (H : (Wv mJ7_fill_53178 [.ref 46, .int 2147483647] I (fun I1 => (vp_in a1 10 ∧ ∀ I2 : MI, I2 = up2 I1 46 a1.toNatClampNeg a2 → Wv mX4_sweepStreets [.ref 45, .int 0] I2 (fun I3 => (Q 46 I3)))))) : Wr mX4_arrivalsFrom [.ref 45, .int a1, .int a2] I Q := by
  show WP mX4_arrivalsFrom 286 Rf0 0 [some (.ref 45), some (.int a1), some (.int a2)] [] I (qr Q)
  refine w_aload_n dX4_arrivalsFrom_0 rfl rfl ?_
  refine w_getR dX4_arrivalsFrom_1 fl_4_9 okC4 kd_45 (by decide) (by decide) rfl rf_45_2 ?_
  refine w_ldc (v := 2147483647) dX4_arrivalsFrom_4 kl_4_26 ?_
  refine w_callS (st := []) (As := [.ref 46, .int 2147483647]) dX4_arrivalsFrom_6 ml_4_27 okJ7_fill_53178 rfl (Nat.le_of_ble_eq_true rfl) (by decide) (Nat.le_of_ble_eq_true rfl) (wc_v H (fun I1 H => ?_))
  refine w_aload_n dX4_arrivalsFrom_9 rfl rfl ?_
  refine w_getR dX4_arrivalsFrom_10 fl_4_9 okC4 kd_45 (by decide) (by decide) rfl rf_45_2 ?_
  refine w_iload_n dX4_arrivalsFrom_13 rfl rfl ?_
  refine w_iload_n dX4_arrivalsFrom_14 rfl rfl ?_
  refine w_iast dX4_arrivalsFrom_15 kd_46 (by decide) H.1 (w_up fun I2 hI => ?_)
  replace H := H.2 I2 hI
  refine w_aload_n dX4_arrivalsFrom_16 rfl rfl ?_
  refine w_iconst (v := 0) dX4_arrivalsFrom_17 (by decide) ?_
  refine w_callV (st := []) (As := [.int 0]) dX4_arrivalsFrom_18 ml_4_33 okX4_sweepStreets kd_45 (by decide) rfl rfl rfl (Nat.le_of_ble_eq_true rfl) (by decide) (Nat.le_of_ble_eq_true rfl) (wc_v H (fun I3 H => ?_))
  refine w_aload_n dX4_arrivalsFrom_21 rfl rfl ?_
  refine w_getR dX4_arrivalsFrom_22 fl_4_9 okC4 kd_45 (by decide) (by decide) rfl rf_45_2 ?_
  exact w_aret dX4_arrivalsFrom_25 rfl (Or.inr ⟨_, rfl⟩) ⟨_, rfl, H⟩
theorem dX4_sweepStreets_0 : decode cX4_sweepStreets 0 = .ok (.iconst 1, 1) := by decide +kernel
theorem dX4_sweepStreets_1 : decode cX4_sweepStreets 1 = .ok (.istore_n 2, 1) := by decide +kernel
theorem dX4_sweepStreets_2 : decode cX4_sweepStreets 2 = .ok (.iconst 0, 1) := by decide +kernel
theorem dX4_sweepStreets_3 : decode cX4_sweepStreets 3 = .ok (.istore_n 3, 1) := by decide +kernel
theorem dX4_sweepStreets_4 : decode cX4_sweepStreets 4 = .ok (.iload_n 3, 1) := by decide +kernel
theorem dX4_sweepStreets_5 : decode cX4_sweepStreets 5 = .ok (.bipush 10, 2) := by decide +kernel
theorem dX4_sweepStreets_7 : decode cX4_sweepStreets 7 = .ok (.if_icmp .ge 138, 3) := by decide +kernel
theorem dX4_sweepStreets_10 : decode cX4_sweepStreets 10 = .ok (.iload_n 2, 1) := by decide +kernel
theorem dX4_sweepStreets_11 : decode cX4_sweepStreets 11 = .ok (.ifCond .eq 134, 3) := by decide +kernel
theorem dX4_sweepStreets_14 : decode cX4_sweepStreets 14 = .ok (.iconst 0, 1) := by decide +kernel
theorem dX4_sweepStreets_15 : decode cX4_sweepStreets 15 = .ok (.istore_n 2, 1) := by decide +kernel
theorem dX4_sweepStreets_16 : decode cX4_sweepStreets 16 = .ok (.iconst 0, 1) := by decide +kernel
theorem dX4_sweepStreets_17 : decode cX4_sweepStreets 17 = .ok (.istore 4, 2) := by decide +kernel
theorem dX4_sweepStreets_19 : decode cX4_sweepStreets 19 = .ok (.iload 4, 2) := by decide +kernel
theorem dX4_sweepStreets_21 : decode cX4_sweepStreets 21 = .ok (.aload_n 0, 1) := by decide +kernel
theorem dX4_sweepStreets_22 : decode cX4_sweepStreets 22 = .ok (.getfield 18, 3) := by decide +kernel
theorem dX4_sweepStreets_25 : decode cX4_sweepStreets 25 = .ok (.getfield 37, 3) := by decide +kernel
theorem dX4_sweepStreets_28 : decode cX4_sweepStreets 28 = .ok (.if_icmp .ge 111, 3) := by decide +kernel
theorem dX4_sweepStreets_31 : decode cX4_sweepStreets 31 = .ok (.aload_n 0, 1) := by decide +kernel
theorem dX4_sweepStreets_32 : decode cX4_sweepStreets 32 = .ok (.getfield 18, 3) := by decide +kernel
theorem dX4_sweepStreets_35 : decode cX4_sweepStreets 35 = .ok (.getfield 43, 3) := by decide +kernel
theorem dX4_sweepStreets_38 : decode cX4_sweepStreets 38 = .ok (.iload 4, 2) := by decide +kernel
theorem dX4_sweepStreets_40 : decode cX4_sweepStreets 40 = .ok (.iaload, 1) := by decide +kernel
theorem dX4_sweepStreets_41 : decode cX4_sweepStreets 41 = .ok (.istore 5, 2) := by decide +kernel
theorem dX4_sweepStreets_43 : decode cX4_sweepStreets 43 = .ok (.aload_n 0, 1) := by decide +kernel
theorem dX4_sweepStreets_44 : decode cX4_sweepStreets 44 = .ok (.getfield 18, 3) := by decide +kernel
theorem dX4_sweepStreets_47 : decode cX4_sweepStreets 47 = .ok (.getfield 46, 3) := by decide +kernel
theorem dX4_sweepStreets_50 : decode cX4_sweepStreets 50 = .ok (.iload 4, 2) := by decide +kernel
theorem dX4_sweepStreets_52 : decode cX4_sweepStreets 52 = .ok (.iaload, 1) := by decide +kernel
theorem dX4_sweepStreets_53 : decode cX4_sweepStreets 53 = .ok (.istore 6, 2) := by decide +kernel
theorem dX4_sweepStreets_55 : decode cX4_sweepStreets 55 = .ok (.iload_n 1, 1) := by decide +kernel
theorem dX4_sweepStreets_56 : decode cX4_sweepStreets 56 = .ok (.ifCond .eq 16, 3) := by decide +kernel
theorem dX4_sweepStreets_59 : decode cX4_sweepStreets 59 = .ok (.aload_n 0, 1) := by decide +kernel
theorem dX4_sweepStreets_60 : decode cX4_sweepStreets 60 = .ok (.iload 4, 2) := by decide +kernel
theorem dX4_sweepStreets_62 : decode cX4_sweepStreets 62 = .ok (.iload 5, 2) := by decide +kernel
theorem dX4_sweepStreets_64 : decode cX4_sweepStreets 64 = .ok (.iload 6, 2) := by decide +kernel
theorem dX4_sweepStreets_66 : decode cX4_sweepStreets 66 = .ok (.invokevirtual 49, 3) := by decide +kernel
theorem dX4_sweepStreets_69 : decode cX4_sweepStreets 69 = .ok (.goto 13, 3) := by decide +kernel
theorem dX4_sweepStreets_72 : decode cX4_sweepStreets 72 = .ok (.aload_n 0, 1) := by decide +kernel
theorem dX4_sweepStreets_73 : decode cX4_sweepStreets 73 = .ok (.iload 4, 2) := by decide +kernel
theorem dX4_sweepStreets_75 : decode cX4_sweepStreets 75 = .ok (.iload 5, 2) := by decide +kernel
theorem dX4_sweepStreets_77 : decode cX4_sweepStreets 77 = .ok (.iload 6, 2) := by decide +kernel
theorem dX4_sweepStreets_79 : decode cX4_sweepStreets 79 = .ok (.invokevirtual 53, 3) := by decide +kernel
theorem dX4_sweepStreets_82 : decode cX4_sweepStreets 82 = .ok (.istore 7, 2) := by decide +kernel
theorem dX4_sweepStreets_84 : decode cX4_sweepStreets 84 = .ok (.iload_n 1, 1) := by decide +kernel
theorem dX4_sweepStreets_85 : decode cX4_sweepStreets 85 = .ok (.ifCond .eq 16, 3) := by decide +kernel
theorem dX4_sweepStreets_88 : decode cX4_sweepStreets 88 = .ok (.aload_n 0, 1) := by decide +kernel
theorem dX4_sweepStreets_89 : decode cX4_sweepStreets 89 = .ok (.iload 4, 2) := by decide +kernel
theorem dX4_sweepStreets_91 : decode cX4_sweepStreets 91 = .ok (.iload 6, 2) := by decide +kernel
theorem dX4_sweepStreets_93 : decode cX4_sweepStreets 93 = .ok (.iload 5, 2) := by decide +kernel
theorem dX4_sweepStreets_95 : decode cX4_sweepStreets 95 = .ok (.invokevirtual 49, 3) := by decide +kernel
theorem dX4_sweepStreets_98 : decode cX4_sweepStreets 98 = .ok (.goto 13, 3) := by decide +kernel
theorem dX4_sweepStreets_101 : decode cX4_sweepStreets 101 = .ok (.aload_n 0, 1) := by decide +kernel
theorem dX4_sweepStreets_102 : decode cX4_sweepStreets 102 = .ok (.iload 4, 2) := by decide +kernel
theorem dX4_sweepStreets_104 : decode cX4_sweepStreets 104 = .ok (.iload 6, 2) := by decide +kernel
theorem dX4_sweepStreets_106 : decode cX4_sweepStreets 106 = .ok (.iload 5, 2) := by decide +kernel
theorem dX4_sweepStreets_108 : decode cX4_sweepStreets 108 = .ok (.invokevirtual 53, 3) := by decide +kernel
theorem dX4_sweepStreets_111 : decode cX4_sweepStreets 111 = .ok (.istore 8, 2) := by decide +kernel
theorem dX4_sweepStreets_113 : decode cX4_sweepStreets 113 = .ok (.iload_n 2, 1) := by decide +kernel
theorem dX4_sweepStreets_114 : decode cX4_sweepStreets 114 = .ok (.ifCond .ne 13, 3) := by decide +kernel
theorem dX4_sweepStreets_117 : decode cX4_sweepStreets 117 = .ok (.iload 7, 2) := by decide +kernel
theorem dX4_sweepStreets_119 : decode cX4_sweepStreets 119 = .ok (.ifCond .ne 8, 3) := by decide +kernel
theorem dX4_sweepStreets_122 : decode cX4_sweepStreets 122 = .ok (.iload 8, 2) := by decide +kernel
theorem dX4_sweepStreets_124 : decode cX4_sweepStreets 124 = .ok (.ifCond .eq 7, 3) := by decide +kernel
theorem dX4_sweepStreets_127 : decode cX4_sweepStreets 127 = .ok (.iconst 1, 1) := by decide +kernel
theorem dX4_sweepStreets_128 : decode cX4_sweepStreets 128 = .ok (.goto 4, 3) := by decide +kernel
theorem dX4_sweepStreets_131 : decode cX4_sweepStreets 131 = .ok (.iconst 0, 1) := by decide +kernel
theorem dX4_sweepStreets_132 : decode cX4_sweepStreets 132 = .ok (.istore_n 2, 1) := by decide +kernel
theorem dX4_sweepStreets_133 : decode cX4_sweepStreets 133 = .ok (.iinc 4 1, 3) := by decide +kernel
theorem dX4_sweepStreets_136 : decode cX4_sweepStreets 136 = .ok (.goto (-117), 3) := by decide +kernel
theorem dX4_sweepStreets_139 : decode cX4_sweepStreets 139 = .ok (.iinc 3 1, 3) := by decide +kernel
theorem dX4_sweepStreets_142 : decode cX4_sweepStreets 142 = .ok (.goto (-138), 3) := by decide +kernel
theorem dX4_sweepStreets_145 : decode cX4_sweepStreets 145 = .ok (.return_, 1) := by decide +kernel
abbrev LX4_sweepStreets_4 (l1 l2 l3 : Int32) (I : MI) (Q : MI → Prop) : Prop := WP mX4_sweepStreets 286 Rf0 4 [some (.ref 45), some (.int l1), some (.int l2), some (.int l3), none, none, none, none, none] [] I (qv Q)
abbrev LX4_sweepStreets_19 (l1 l2 l3 l4 : Int32) (I : MI) (Q : MI → Prop) : Prop := WP mX4_sweepStreets 286 Rf0 19 [some (.ref 45), some (.int l1), some (.int l2), some (.int l3), some (.int l4), none, none, none, none] [] I (qv Q)
abbrev LX4_sweepStreets_82 (l1 l2 l3 l4 l5 l6 t0 : Int32) (I : MI) (Q : MI → Prop) : Prop := WP mX4_sweepStreets 286 Rf0 82 [some (.ref 45), some (.int l1), some (.int l2), some (.int l3), some (.int l4), some (.int l5), some (.int l6), none, none] [.int t0] I (qv Q)
abbrev LX4_sweepStreets_111 (l1 l2 l3 l4 l5 l6 l7 t0 : Int32) (I : MI) (Q : MI → Prop) : Prop := WP mX4_sweepStreets 286 Rf0 111 [some (.ref 45), some (.int l1), some (.int l2), some (.int l3), some (.int l4), some (.int l5), some (.int l6), some (.int l7), none] [.int t0] I (qv Q)
abbrev LX4_sweepStreets_127 (l1 l2 l3 l4 l5 l6 l7 l8 : Int32) (I : MI) (Q : MI → Prop) : Prop := WP mX4_sweepStreets 286 Rf0 127 [some (.ref 45), some (.int l1), some (.int l2), some (.int l3), some (.int l4), some (.int l5), some (.int l6), some (.int l7), some (.int l8)] [] I (qv Q)
abbrev LX4_sweepStreets_132 (l1 l2 l3 l4 l5 l6 l7 l8 t0 : Int32) (I : MI) (Q : MI → Prop) : Prop := WP mX4_sweepStreets 286 Rf0 132 [some (.ref 45), some (.int l1), some (.int l2), some (.int l3), some (.int l4), some (.int l5), some (.int l6), some (.int l7), some (.int l8)] [.int t0] I (qv Q)
set_option maxRecDepth 20000 in
theorem rX4_sweepStreets_4 {l1 l2 l3 : Int32} {I : MI} {Q : MI → Prop} (H : ((10 ≤ l3 → (Q I)) ∧ (¬ 10 ≤ l3 → ((l2 = 0 → (Q I)) ∧ (¬ l2 = 0 → (LX4_sweepStreets_19 l1 0 l3 0 I Q)))))) : LX4_sweepStreets_4 l1 l2 l3 I Q := by
  show WP mX4_sweepStreets 286 Rf0 4 [some (.ref 45), some (.int l1), some (.int l2), some (.int l3), none, none, none, none, none] [] I (qv Q)
  refine w_iload_n dX4_sweepStreets_4 rfl rfl ?_
  refine w_bipush (v := 10) dX4_sweepStreets_5 (by decide) ?_
  refine w_icmp_ge (t := 145) dX4_sweepStreets_7 (by decide) (fun h => ?_) (fun h => ?_)
  · replace H := H.1 h
    exact w_vret dX4_sweepStreets_145 rfl ⟨rfl, H⟩
  · replace H := H.2 h
    refine w_iload_n dX4_sweepStreets_10 rfl rfl ?_
    refine w_if_eq (t := 145) dX4_sweepStreets_11 (by decide) (fun h => ?_) (fun h => ?_)
    · replace H := H.1 h
      exact w_vret dX4_sweepStreets_145 rfl ⟨rfl, H⟩
    · replace H := H.2 h
      refine w_iconst (v := 0) dX4_sweepStreets_14 (by decide) ?_
      refine w_istore_n (ls' := [some (.ref 45), some (.int l1), some (.int 0), some (.int l3), none, none, none, none, none]) dX4_sweepStreets_15 rfl (by decide) rfl rfl ?_
      refine w_iconst (v := 0) dX4_sweepStreets_16 (by decide) ?_
      refine w_istore (ls' := [some (.ref 45), some (.int l1), some (.int 0), some (.int l3), some (.int 0), none, none, none, none]) dX4_sweepStreets_17 (by decide) rfl rfl ?_
      skip
      exact H
set_option maxRecDepth 20000 in
theorem rX4_sweepStreets_19 {l1 l2 l3 l4 : Int32} {I : MI} {Q : MI → Prop} (H : (((I 24 1) ≤ l4 → (LX4_sweepStreets_4 l1 l2 (l3 + 1) I Q)) ∧ (¬ (I 24 1) ≤ l4 → (vp_in l4 18 ∧ vp_in l4 18 ∧ (l1 = 0 → (Wi mX4_improveArrival [.ref 45, .int l4, .int (I 25 l4.toNatClampNeg), .int (I 26 l4.toNatClampNeg)] I (fun r2 I1 => (LX4_sweepStreets_82 l1 l2 l3 l4 (I 25 l4.toNatClampNeg) (I 26 l4.toNatClampNeg) r2 I1 Q)))) ∧ (¬ l1 = 0 → (Wi mX4_improveDeparture [.ref 45, .int l4, .int (I 25 l4.toNatClampNeg), .int (I 26 l4.toNatClampNeg)] I (fun r2 I1 => (LX4_sweepStreets_82 l1 l2 l3 l4 (I 25 l4.toNatClampNeg) (I 26 l4.toNatClampNeg) r2 I1 Q)))))))) : LX4_sweepStreets_19 l1 l2 l3 l4 I Q := by
  show WP mX4_sweepStreets 286 Rf0 19 [some (.ref 45), some (.int l1), some (.int l2), some (.int l3), some (.int l4), none, none, none, none] [] I (qv Q)
  refine w_iload dX4_sweepStreets_19 rfl ?_
  refine w_aload_n dX4_sweepStreets_21 rfl rfl ?_
  refine w_getR dX4_sweepStreets_22 fl_4_18 okC4 kd_45 (by decide) (by decide) rfl rf_45_0 ?_
  refine w_getI dX4_sweepStreets_25 fl_4_37 okC6 kd_24 (by decide) (by decide) rfl ?_
  refine w_icmp_ge (t := 139) dX4_sweepStreets_28 (by decide) (fun h => ?_) (fun h => ?_)
  · replace H := H.1 h
    refine w_iinc (v := l3 + 1) (ls' := [some (.ref 45), some (.int l1), some (.int l2), some (.int (l3 + 1)), some (.int l4), none, none, none, none]) dX4_sweepStreets_139 rfl rfl (by decide) rfl rfl ?_
    refine w_goto (t := 4) dX4_sweepStreets_142 (by decide) ?_
    refine w_less (ls' := [some (.ref 45), some (.int l1), some (.int l2), some (.int (l3 + 1)), none, none, none, none, none]) (by simp [lsub]) ?_
    exact H
  · replace H := H.2 h
    refine w_aload_n dX4_sweepStreets_31 rfl rfl ?_
    refine w_getR dX4_sweepStreets_32 fl_4_18 okC4 kd_45 (by decide) (by decide) rfl rf_45_0 ?_
    refine w_getR dX4_sweepStreets_35 fl_4_43 okC6 kd_24 (by decide) (by decide) rfl rf_24_7 ?_
    refine w_iload dX4_sweepStreets_38 rfl ?_
    refine w_iald dX4_sweepStreets_40 kd_25 (by decide) H.1 ?_
    replace H := H.2
    refine w_istore (ls' := [some (.ref 45), some (.int l1), some (.int l2), some (.int l3), some (.int l4), some (.int (I 25 l4.toNatClampNeg)), none, none, none]) dX4_sweepStreets_41 (by decide) rfl rfl ?_
    refine w_aload_n dX4_sweepStreets_43 rfl rfl ?_
    refine w_getR dX4_sweepStreets_44 fl_4_18 okC4 kd_45 (by decide) (by decide) rfl rf_45_0 ?_
    refine w_getR dX4_sweepStreets_47 fl_4_46 okC6 kd_24 (by decide) (by decide) rfl rf_24_8 ?_
    refine w_iload dX4_sweepStreets_50 rfl ?_
    refine w_iald dX4_sweepStreets_52 kd_26 (by decide) H.1 ?_
    replace H := H.2
    refine w_istore (ls' := [some (.ref 45), some (.int l1), some (.int l2), some (.int l3), some (.int l4), some (.int (I 25 l4.toNatClampNeg)), some (.int (I 26 l4.toNatClampNeg)), none, none]) dX4_sweepStreets_53 (by decide) rfl rfl ?_
    refine w_iload_n dX4_sweepStreets_55 rfl rfl ?_
    refine w_if_eq (t := 72) dX4_sweepStreets_56 (by decide) (fun h => ?_) (fun h => ?_)
    · replace H := H.1 h
      refine w_aload_n dX4_sweepStreets_72 rfl rfl ?_
      refine w_iload dX4_sweepStreets_73 rfl ?_
      refine w_iload dX4_sweepStreets_75 rfl ?_
      refine w_iload dX4_sweepStreets_77 rfl ?_
      refine w_callV (st := []) (As := [.int l4, .int (I 25 l4.toNatClampNeg), .int (I 26 l4.toNatClampNeg)]) dX4_sweepStreets_79 ml_4_53 okX4_improveArrival kd_45 (by decide) rfl rfl rfl (Nat.le_of_ble_eq_true rfl) (by decide) (Nat.le_of_ble_eq_true rfl) (wc_i H (fun r2 I1 H => ?_))
      skip
      exact H
    · replace H := H.2 h
      refine w_aload_n dX4_sweepStreets_59 rfl rfl ?_
      refine w_iload dX4_sweepStreets_60 rfl ?_
      refine w_iload dX4_sweepStreets_62 rfl ?_
      refine w_iload dX4_sweepStreets_64 rfl ?_
      refine w_callV (st := []) (As := [.int l4, .int (I 25 l4.toNatClampNeg), .int (I 26 l4.toNatClampNeg)]) dX4_sweepStreets_66 ml_4_49 okX4_improveDeparture kd_45 (by decide) rfl rfl rfl (Nat.le_of_ble_eq_true rfl) (by decide) (Nat.le_of_ble_eq_true rfl) (wc_i H (fun r2 I1 H => ?_))
      refine w_goto (t := 82) dX4_sweepStreets_69 (by decide) ?_
      skip
      exact H
set_option maxRecDepth 20000 in
theorem rX4_sweepStreets_82 {l1 l2 l3 l4 l5 l6 t0 : Int32} {I : MI} {Q : MI → Prop} (H : ((l1 = 0 → (Wi mX4_improveArrival [.ref 45, .int l4, .int l6, .int l5] I (fun r2 I1 => (LX4_sweepStreets_111 l1 l2 l3 l4 l5 l6 t0 r2 I1 Q)))) ∧ (¬ l1 = 0 → (Wi mX4_improveDeparture [.ref 45, .int l4, .int l6, .int l5] I (fun r2 I1 => (LX4_sweepStreets_111 l1 l2 l3 l4 l5 l6 t0 r2 I1 Q)))))) : LX4_sweepStreets_82 l1 l2 l3 l4 l5 l6 t0 I Q := by
  show WP mX4_sweepStreets 286 Rf0 82 [some (.ref 45), some (.int l1), some (.int l2), some (.int l3), some (.int l4), some (.int l5), some (.int l6), none, none] [.int t0] I (qv Q)
  refine w_istore (ls' := [some (.ref 45), some (.int l1), some (.int l2), some (.int l3), some (.int l4), some (.int l5), some (.int l6), some (.int t0), none]) dX4_sweepStreets_82 (by decide) rfl rfl ?_
  refine w_iload_n dX4_sweepStreets_84 rfl rfl ?_
  refine w_if_eq (t := 101) dX4_sweepStreets_85 (by decide) (fun h => ?_) (fun h => ?_)
  · replace H := H.1 h
    refine w_aload_n dX4_sweepStreets_101 rfl rfl ?_
    refine w_iload dX4_sweepStreets_102 rfl ?_
    refine w_iload dX4_sweepStreets_104 rfl ?_
    refine w_iload dX4_sweepStreets_106 rfl ?_
    refine w_callV (st := []) (As := [.int l4, .int l6, .int l5]) dX4_sweepStreets_108 ml_4_53 okX4_improveArrival kd_45 (by decide) rfl rfl rfl (Nat.le_of_ble_eq_true rfl) (by decide) (Nat.le_of_ble_eq_true rfl) (wc_i H (fun r2 I1 H => ?_))
    skip
    exact H
  · replace H := H.2 h
    refine w_aload_n dX4_sweepStreets_88 rfl rfl ?_
    refine w_iload dX4_sweepStreets_89 rfl ?_
    refine w_iload dX4_sweepStreets_91 rfl ?_
    refine w_iload dX4_sweepStreets_93 rfl ?_
    refine w_callV (st := []) (As := [.int l4, .int l6, .int l5]) dX4_sweepStreets_95 ml_4_49 okX4_improveDeparture kd_45 (by decide) rfl rfl rfl (Nat.le_of_ble_eq_true rfl) (by decide) (Nat.le_of_ble_eq_true rfl) (wc_i H (fun r2 I1 H => ?_))
    refine w_goto (t := 111) dX4_sweepStreets_98 (by decide) ?_
    skip
    exact H
set_option maxRecDepth 20000 in
theorem rX4_sweepStreets_111 {l1 l2 l3 l4 l5 l6 l7 t0 : Int32} {I : MI} {Q : MI → Prop} (H : ((¬ l2 = 0 → (LX4_sweepStreets_127 l1 l2 l3 l4 l5 l6 l7 t0 I Q)) ∧ (l2 = 0 → ((¬ l7 = 0 → (LX4_sweepStreets_127 l1 l2 l3 l4 l5 l6 l7 t0 I Q)) ∧ (l7 = 0 → ((t0 = 0 → (LX4_sweepStreets_132 l1 l2 l3 l4 l5 l6 l7 t0 0 I Q)) ∧ (¬ t0 = 0 → (LX4_sweepStreets_127 l1 l2 l3 l4 l5 l6 l7 t0 I Q)))))))) : LX4_sweepStreets_111 l1 l2 l3 l4 l5 l6 l7 t0 I Q := by
  show WP mX4_sweepStreets 286 Rf0 111 [some (.ref 45), some (.int l1), some (.int l2), some (.int l3), some (.int l4), some (.int l5), some (.int l6), some (.int l7), none] [.int t0] I (qv Q)
  refine w_istore (ls' := [some (.ref 45), some (.int l1), some (.int l2), some (.int l3), some (.int l4), some (.int l5), some (.int l6), some (.int l7), some (.int t0)]) dX4_sweepStreets_111 (by decide) rfl rfl ?_
  refine w_iload_n dX4_sweepStreets_113 rfl rfl ?_
  refine w_if_ne (t := 127) dX4_sweepStreets_114 (by decide) (fun h => ?_) (fun h => ?_)
  · replace H := H.1 h
    skip
    exact H
  · replace H := H.2 h
    refine w_iload dX4_sweepStreets_117 rfl ?_
    refine w_if_ne (t := 127) dX4_sweepStreets_119 (by decide) (fun h => ?_) (fun h => ?_)
    · replace H := H.1 h
      skip
      exact H
    · replace H := H.2 h
      refine w_iload dX4_sweepStreets_122 rfl ?_
      refine w_if_eq (t := 131) dX4_sweepStreets_124 (by decide) (fun h => ?_) (fun h => ?_)
      · replace H := H.1 h
        refine w_iconst (v := 0) dX4_sweepStreets_131 (by decide) ?_
        skip
        exact H
      · replace H := H.2 h
        skip
        exact H
set_option maxRecDepth 20000 in
theorem rX4_sweepStreets_127 {l1 l2 l3 l4 l5 l6 l7 l8 : Int32} {I : MI} {Q : MI → Prop} (H : (LX4_sweepStreets_132 l1 l2 l3 l4 l5 l6 l7 l8 1 I Q)) : LX4_sweepStreets_127 l1 l2 l3 l4 l5 l6 l7 l8 I Q := by
  show WP mX4_sweepStreets 286 Rf0 127 [some (.ref 45), some (.int l1), some (.int l2), some (.int l3), some (.int l4), some (.int l5), some (.int l6), some (.int l7), some (.int l8)] [] I (qv Q)
  refine w_iconst (v := 1) dX4_sweepStreets_127 (by decide) ?_
  refine w_goto (t := 132) dX4_sweepStreets_128 (by decide) ?_
  skip
  exact H
set_option maxRecDepth 20000 in
theorem rX4_sweepStreets_132 {l1 l2 l3 l4 l5 l6 l7 l8 t0 : Int32} {I : MI} {Q : MI → Prop} (H : (LX4_sweepStreets_19 l1 t0 l3 (l4 + 1) I Q)) : LX4_sweepStreets_132 l1 l2 l3 l4 l5 l6 l7 l8 t0 I Q := by
  show WP mX4_sweepStreets 286 Rf0 132 [some (.ref 45), some (.int l1), some (.int l2), some (.int l3), some (.int l4), some (.int l5), some (.int l6), some (.int l7), some (.int l8)] [.int t0] I (qv Q)
  refine w_istore_n (ls' := [some (.ref 45), some (.int l1), some (.int t0), some (.int l3), some (.int l4), some (.int l5), some (.int l6), some (.int l7), some (.int l8)]) dX4_sweepStreets_132 rfl (by decide) rfl rfl ?_
  refine w_iinc (v := l4 + 1) (ls' := [some (.ref 45), some (.int l1), some (.int t0), some (.int l3), some (.int (l4 + 1)), some (.int l5), some (.int l6), some (.int l7), some (.int l8)]) dX4_sweepStreets_133 rfl rfl (by decide) rfl rfl ?_
  refine w_goto (t := 19) dX4_sweepStreets_136 (by decide) ?_
  refine w_less (ls' := [some (.ref 45), some (.int l1), some (.int t0), some (.int l3), some (.int (l4 + 1)), none, none, none, none]) (by simp [lsub]) ?_
  exact H
set_option maxRecDepth 20000 in
theorem rX4_sweepStreets {a1 : Int32} {I : MI} {Q : MI → Prop} (H : (LX4_sweepStreets_4 a1 1 0 I Q)) : Wv mX4_sweepStreets [.ref 45, .int a1] I Q := by
  show WP mX4_sweepStreets 286 Rf0 0 [some (.ref 45), some (.int a1), none, none, none, none, none, none, none] [] I (qv Q)
  refine w_iconst (v := 1) dX4_sweepStreets_0 (by decide) ?_
  refine w_istore_n (ls' := [some (.ref 45), some (.int a1), some (.int 1), none, none, none, none, none, none]) dX4_sweepStreets_1 rfl (by decide) rfl rfl ?_
  refine w_iconst (v := 0) dX4_sweepStreets_2 (by decide) ?_
  refine w_istore_n (ls' := [some (.ref 45), some (.int a1), some (.int 1), some (.int 0), none, none, none, none, none]) dX4_sweepStreets_3 rfl (by decide) rfl rfl ?_
  skip
  exact H
theorem dX4_improveArrival_0 : decode cX4_improveArrival 0 = .ok (.aload_n 0, 1) := by decide +kernel
theorem dX4_improveArrival_1 : decode cX4_improveArrival 1 = .ok (.getfield 9, 3) := by decide +kernel
theorem dX4_improveArrival_4 : decode cX4_improveArrival 4 = .ok (.iload_n 2, 1) := by decide +kernel
theorem dX4_improveArrival_5 : decode cX4_improveArrival 5 = .ok (.iaload, 1) := by decide +kernel
theorem dX4_improveArrival_6 : decode cX4_improveArrival 6 = .ok (.istore 4, 2) := by decide +kernel
theorem dX4_improveArrival_8 : decode cX4_improveArrival 8 = .ok (.aload_n 0, 1) := by decide +kernel
theorem dX4_improveArrival_9 : decode cX4_improveArrival 9 = .ok (.getfield 22, 3) := by decide +kernel
theorem dX4_improveArrival_12 : decode cX4_improveArrival 12 = .ok (.getfield 56, 3) := by decide +kernel
theorem dX4_improveArrival_15 : decode cX4_improveArrival 15 = .ok (.iload_n 1, 1) := by decide +kernel
theorem dX4_improveArrival_16 : decode cX4_improveArrival 16 = .ok (.iaload, 1) := by decide +kernel
theorem dX4_improveArrival_17 : decode cX4_improveArrival 17 = .ok (.istore 5, 2) := by decide +kernel
theorem dX4_improveArrival_19 : decode cX4_improveArrival 19 = .ok (.iload 4, 2) := by decide +kernel
theorem dX4_improveArrival_21 : decode cX4_improveArrival 21 = .ok (.ldc 26, 2) := by decide +kernel
theorem dX4_improveArrival_23 : decode cX4_improveArrival 23 = .ok (.if_icmp .eq 15, 3) := by decide +kernel
theorem dX4_improveArrival_26 : decode cX4_improveArrival 26 = .ok (.iload 5, 2) := by decide +kernel
theorem dX4_improveArrival_28 : decode cX4_improveArrival 28 = .ok (.ifCond .eq 12, 3) := by decide +kernel
theorem dX4_improveArrival_31 : decode cX4_improveArrival 31 = .ok (.iload 4, 2) := by decide +kernel
theorem dX4_improveArrival_33 : decode cX4_improveArrival 33 = .ok (.iload 5, 2) := by decide +kernel
theorem dX4_improveArrival_35 : decode cX4_improveArrival 35 = .ok (.if_icmp .lt 5, 3) := by decide +kernel
theorem dX4_improveArrival_38 : decode cX4_improveArrival 38 = .ok (.iconst 0, 1) := by decide +kernel
theorem dX4_improveArrival_39 : decode cX4_improveArrival 39 = .ok (.ireturn, 1) := by decide +kernel
theorem dX4_improveArrival_40 : decode cX4_improveArrival 40 = .ok (.aload_n 0, 1) := by decide +kernel
theorem dX4_improveArrival_41 : decode cX4_improveArrival 41 = .ok (.getfield 22, 3) := by decide +kernel
theorem dX4_improveArrival_44 : decode cX4_improveArrival 44 = .ok (.getfield 61, 3) := by decide +kernel
theorem dX4_improveArrival_47 : decode cX4_improveArrival 47 = .ok (.iload_n 1, 1) := by decide +kernel
theorem dX4_improveArrival_48 : decode cX4_improveArrival 48 = .ok (.iaload, 1) := by decide +kernel
theorem dX4_improveArrival_49 : decode cX4_improveArrival 49 = .ok (.istore 6, 2) := by decide +kernel
theorem dX4_improveArrival_51 : decode cX4_improveArrival 51 = .ok (.iload 4, 2) := by decide +kernel
theorem dX4_improveArrival_53 : decode cX4_improveArrival 53 = .ok (.iload 6, 2) := by decide +kernel
theorem dX4_improveArrival_55 : decode cX4_improveArrival 55 = .ok (.if_icmp .ge 8, 3) := by decide +kernel
theorem dX4_improveArrival_58 : decode cX4_improveArrival 58 = .ok (.iload 6, 2) := by decide +kernel
theorem dX4_improveArrival_60 : decode cX4_improveArrival 60 = .ok (.goto 5, 3) := by decide +kernel
theorem dX4_improveArrival_63 : decode cX4_improveArrival 63 = .ok (.iload 4, 2) := by decide +kernel
theorem dX4_improveArrival_65 : decode cX4_improveArrival 65 = .ok (.aload_n 0, 1) := by decide +kernel
theorem dX4_improveArrival_66 : decode cX4_improveArrival 66 = .ok (.getfield 18, 3) := by decide +kernel
theorem dX4_improveArrival_69 : decode cX4_improveArrival 69 = .ok (.getfield 64, 3) := by decide +kernel
theorem dX4_improveArrival_72 : decode cX4_improveArrival 72 = .ok (.iload_n 1, 1) := by decide +kernel
theorem dX4_improveArrival_73 : decode cX4_improveArrival 73 = .ok (.iaload, 1) := by decide +kernel
theorem dX4_improveArrival_74 : decode cX4_improveArrival 74 = .ok (.iadd, 1) := by decide +kernel
theorem dX4_improveArrival_75 : decode cX4_improveArrival 75 = .ok (.istore 7, 2) := by decide +kernel
theorem dX4_improveArrival_77 : decode cX4_improveArrival 77 = .ok (.iload 7, 2) := by decide +kernel
theorem dX4_improveArrival_79 : decode cX4_improveArrival 79 = .ok (.aload_n 0, 1) := by decide +kernel
theorem dX4_improveArrival_80 : decode cX4_improveArrival 80 = .ok (.getfield 9, 3) := by decide +kernel
theorem dX4_improveArrival_83 : decode cX4_improveArrival 83 = .ok (.iload_n 3, 1) := by decide +kernel
theorem dX4_improveArrival_84 : decode cX4_improveArrival 84 = .ok (.iaload, 1) := by decide +kernel
theorem dX4_improveArrival_85 : decode cX4_improveArrival 85 = .ok (.if_icmp .lt 5, 3) := by decide +kernel
theorem dX4_improveArrival_88 : decode cX4_improveArrival 88 = .ok (.iconst 0, 1) := by decide +kernel
theorem dX4_improveArrival_89 : decode cX4_improveArrival 89 = .ok (.ireturn, 1) := by decide +kernel
theorem dX4_improveArrival_90 : decode cX4_improveArrival 90 = .ok (.aload_n 0, 1) := by decide +kernel
theorem dX4_improveArrival_91 : decode cX4_improveArrival 91 = .ok (.getfield 9, 3) := by decide +kernel
theorem dX4_improveArrival_94 : decode cX4_improveArrival 94 = .ok (.iload_n 3, 1) := by decide +kernel
theorem dX4_improveArrival_95 : decode cX4_improveArrival 95 = .ok (.iload 7, 2) := by decide +kernel
theorem dX4_improveArrival_97 : decode cX4_improveArrival 97 = .ok (.iastore, 1) := by decide +kernel
theorem dX4_improveArrival_98 : decode cX4_improveArrival 98 = .ok (.iconst 1, 1) := by decide +kernel
theorem dX4_improveArrival_99 : decode cX4_improveArrival 99 = .ok (.ireturn, 1) := by decide +kernel
abbrev LX4_improveArrival_40 (l1 l2 l3 l4 l5 : Int32) (I : MI) (Q : Int32 → MI → Prop) : Prop := WP mX4_improveArrival 286 Rf0 40 [some (.ref 45), some (.int l1), some (.int l2), some (.int l3), some (.int l4), some (.int l5), none, none] [] I (qi Q)
abbrev LX4_improveArrival_65 (l1 l2 l3 l4 l5 l6 t0 : Int32) (I : MI) (Q : Int32 → MI → Prop) : Prop := WP mX4_improveArrival 286 Rf0 65 [some (.ref 45), some (.int l1), some (.int l2), some (.int l3), some (.int l4), some (.int l5), some (.int l6), none] [.int t0] I (qi Q)
set_option maxRecDepth 20000 in
theorem rX4_improveArrival_40 {l1 l2 l3 l4 l5 : Int32} {I : MI} {Q : Int32 → MI → Prop} (H : (vp_in l1 18 ∧ ((I 33 l1.toNatClampNeg) ≤ l4 → (LX4_improveArrival_65 l1 l2 l3 l4 l5 (I 33 l1.toNatClampNeg) l4 I Q)) ∧ (¬ (I 33 l1.toNatClampNeg) ≤ l4 → (LX4_improveArrival_65 l1 l2 l3 l4 l5 (I 33 l1.toNatClampNeg) (I 33 l1.toNatClampNeg) I Q)))) : LX4_improveArrival_40 l1 l2 l3 l4 l5 I Q := by
  show WP mX4_improveArrival 286 Rf0 40 [some (.ref 45), some (.int l1), some (.int l2), some (.int l3), some (.int l4), some (.int l5), none, none] [] I (qi Q)
  refine w_aload_n dX4_improveArrival_40 rfl rfl ?_
  refine w_getR dX4_improveArrival_41 fl_4_22 okC4 kd_45 (by decide) (by decide) rfl rf_45_1 ?_
  refine w_getR dX4_improveArrival_44 fl_4_61 okC8 kd_30 (by decide) (by decide) rfl rf_30_4 ?_
  refine w_iload_n dX4_improveArrival_47 rfl rfl ?_
  refine w_iald dX4_improveArrival_48 kd_33 (by decide) H.1 ?_
  replace H := H.2
  refine w_istore (ls' := [some (.ref 45), some (.int l1), some (.int l2), some (.int l3), some (.int l4), some (.int l5), some (.int (I 33 l1.toNatClampNeg)), none]) dX4_improveArrival_49 (by decide) rfl rfl ?_
  refine w_iload dX4_improveArrival_51 rfl ?_
  refine w_iload dX4_improveArrival_53 rfl ?_
  refine w_icmp_ge (t := 63) dX4_improveArrival_55 (by decide) (fun h => ?_) (fun h => ?_)
  · replace H := H.1 h
    refine w_iload dX4_improveArrival_63 rfl ?_
    skip
    exact H
  · replace H := H.2 h
    refine w_iload dX4_improveArrival_58 rfl ?_
    refine w_goto (t := 65) dX4_improveArrival_60 (by decide) ?_
    skip
    exact H
set_option maxRecDepth 20000 in
theorem rX4_improveArrival_65 {l1 l2 l3 l4 l5 l6 t0 : Int32} {I : MI} {Q : Int32 → MI → Prop} (H : (vp_in l1 18 ∧ vp_in l3 10 ∧ ((t0 + (I 27 l1.toNatClampNeg)) < (I 46 l3.toNatClampNeg) → (vp_in l3 10 ∧ ∀ I1 : MI, I1 = up2 I 46 l3.toNatClampNeg (t0 + (I 27 l1.toNatClampNeg)) → Q 1 I1)) ∧ (¬ (t0 + (I 27 l1.toNatClampNeg)) < (I 46 l3.toNatClampNeg) → (Q 0 I)))) : LX4_improveArrival_65 l1 l2 l3 l4 l5 l6 t0 I Q := by
  show WP mX4_improveArrival 286 Rf0 65 [some (.ref 45), some (.int l1), some (.int l2), some (.int l3), some (.int l4), some (.int l5), some (.int l6), none] [.int t0] I (qi Q)
  refine w_aload_n dX4_improveArrival_65 rfl rfl ?_
  refine w_getR dX4_improveArrival_66 fl_4_18 okC4 kd_45 (by decide) (by decide) rfl rf_45_0 ?_
  refine w_getR dX4_improveArrival_69 fl_4_64 okC6 kd_24 (by decide) (by decide) rfl rf_24_9 ?_
  refine w_iload_n dX4_improveArrival_72 rfl rfl ?_
  refine w_iald dX4_improveArrival_73 kd_27 (by decide) H.1 ?_
  replace H := H.2
  refine w_iadd dX4_improveArrival_74 ?_
  refine w_istore (ls' := [some (.ref 45), some (.int l1), some (.int l2), some (.int l3), some (.int l4), some (.int l5), some (.int l6), some (.int (t0 + (I 27 l1.toNatClampNeg)))]) dX4_improveArrival_75 (by decide) rfl rfl ?_
  refine w_iload dX4_improveArrival_77 rfl ?_
  refine w_aload_n dX4_improveArrival_79 rfl rfl ?_
  refine w_getR dX4_improveArrival_80 fl_4_9 okC4 kd_45 (by decide) (by decide) rfl rf_45_2 ?_
  refine w_iload_n dX4_improveArrival_83 rfl rfl ?_
  refine w_iald dX4_improveArrival_84 kd_46 (by decide) H.1 ?_
  replace H := H.2
  refine w_icmp_lt (t := 90) dX4_improveArrival_85 (by decide) (fun h => ?_) (fun h => ?_)
  · replace H := H.1 h
    refine w_aload_n dX4_improveArrival_90 rfl rfl ?_
    refine w_getR dX4_improveArrival_91 fl_4_9 okC4 kd_45 (by decide) (by decide) rfl rf_45_2 ?_
    refine w_iload_n dX4_improveArrival_94 rfl rfl ?_
    refine w_iload dX4_improveArrival_95 rfl ?_
    refine w_iast dX4_improveArrival_97 kd_46 (by decide) H.1 (w_up fun I1 hI => ?_)
    replace H := H.2 I1 hI
    refine w_iconst (v := 1) dX4_improveArrival_98 (by decide) ?_
    exact w_zret dX4_improveArrival_99 rfl rfl ⟨_, rfl, H⟩
  · replace H := H.2 h
    refine w_iconst (v := 0) dX4_improveArrival_88 (by decide) ?_
    exact w_zret dX4_improveArrival_89 rfl rfl ⟨_, rfl, H⟩
set_option maxRecDepth 20000 in
theorem rX4_improveArrival {a1 a2 a3 : Int32} {I : MI} {Q : Int32 → MI → Prop} (H : (vp_in a2 10 ∧ vp_in a1 18 ∧ ((I 46 a2.toNatClampNeg) = 2147483647 → (Q 0 I)) ∧ (¬ (I 46 a2.toNatClampNeg) = 2147483647 → (((I 34 a1.toNatClampNeg) = 0 → (LX4_improveArrival_40 a1 a2 a3 (I 46 a2.toNatClampNeg) (I 34 a1.toNatClampNeg) I Q)) ∧ (¬ (I 34 a1.toNatClampNeg) = 0 → (((I 46 a2.toNatClampNeg) < (I 34 a1.toNatClampNeg) → (LX4_improveArrival_40 a1 a2 a3 (I 46 a2.toNatClampNeg) (I 34 a1.toNatClampNeg) I Q)) ∧ (¬ (I 46 a2.toNatClampNeg) < (I 34 a1.toNatClampNeg) → (Q 0 I)))))))) : Wi mX4_improveArrival [.ref 45, .int a1, .int a2, .int a3] I Q := by
  show WP mX4_improveArrival 286 Rf0 0 [some (.ref 45), some (.int a1), some (.int a2), some (.int a3), none, none, none, none] [] I (qi Q)
  refine w_aload_n dX4_improveArrival_0 rfl rfl ?_
  refine w_getR dX4_improveArrival_1 fl_4_9 okC4 kd_45 (by decide) (by decide) rfl rf_45_2 ?_
  refine w_iload_n dX4_improveArrival_4 rfl rfl ?_
  refine w_iald dX4_improveArrival_5 kd_46 (by decide) H.1 ?_
  replace H := H.2
  refine w_istore (ls' := [some (.ref 45), some (.int a1), some (.int a2), some (.int a3), some (.int (I 46 a2.toNatClampNeg)), none, none, none]) dX4_improveArrival_6 (by decide) rfl rfl ?_
  refine w_aload_n dX4_improveArrival_8 rfl rfl ?_
  refine w_getR dX4_improveArrival_9 fl_4_22 okC4 kd_45 (by decide) (by decide) rfl rf_45_1 ?_
  refine w_getR dX4_improveArrival_12 fl_4_56 okC8 kd_30 (by decide) (by decide) rfl rf_30_5 ?_
  refine w_iload_n dX4_improveArrival_15 rfl rfl ?_
  refine w_iald dX4_improveArrival_16 kd_34 (by decide) H.1 ?_
  replace H := H.2
  refine w_istore (ls' := [some (.ref 45), some (.int a1), some (.int a2), some (.int a3), some (.int (I 46 a2.toNatClampNeg)), some (.int (I 34 a1.toNatClampNeg)), none, none]) dX4_improveArrival_17 (by decide) rfl rfl ?_
  refine w_iload dX4_improveArrival_19 rfl ?_
  refine w_ldc (v := 2147483647) dX4_improveArrival_21 kl_4_26 ?_
  refine w_icmp_eq (t := 38) dX4_improveArrival_23 (by decide) (fun h => ?_) (fun h => ?_)
  · replace H := H.1 h
    refine w_iconst (v := 0) dX4_improveArrival_38 (by decide) ?_
    exact w_zret dX4_improveArrival_39 rfl rfl ⟨_, rfl, H⟩
  · replace H := H.2 h
    refine w_iload dX4_improveArrival_26 rfl ?_
    refine w_if_eq (t := 40) dX4_improveArrival_28 (by decide) (fun h => ?_) (fun h => ?_)
    · replace H := H.1 h
      skip
      exact H
    · replace H := H.2 h
      refine w_iload dX4_improveArrival_31 rfl ?_
      refine w_iload dX4_improveArrival_33 rfl ?_
      refine w_icmp_lt (t := 40) dX4_improveArrival_35 (by decide) (fun h => ?_) (fun h => ?_)
      · replace H := H.1 h
        skip
        exact H
      · replace H := H.2 h
        refine w_iconst (v := 0) dX4_improveArrival_38 (by decide) ?_
        exact w_zret dX4_improveArrival_39 rfl rfl ⟨_, rfl, H⟩
theorem dX4_departuresTo_0 : decode cX4_departuresTo 0 = .ok (.aload_n 0, 1) := by decide +kernel
theorem dX4_departuresTo_1 : decode cX4_departuresTo 1 = .ok (.getfield 15, 3) := by decide +kernel
theorem dX4_departuresTo_4 : decode cX4_departuresTo 4 = .ok (.iconst (-1), 1) := by decide +kernel
theorem dX4_departuresTo_5 : decode cX4_departuresTo 5 = .ok (.invokestatic 27, 3) := by decide +kernel
theorem dX4_departuresTo_8 : decode cX4_departuresTo 8 = .ok (.aload_n 0, 1) := by decide +kernel
theorem dX4_departuresTo_9 : decode cX4_departuresTo 9 = .ok (.getfield 15, 3) := by decide +kernel
theorem dX4_departuresTo_12 : decode cX4_departuresTo 12 = .ok (.iload_n 1, 1) := by decide +kernel
theorem dX4_departuresTo_13 : decode cX4_departuresTo 13 = .ok (.iload_n 2, 1) := by decide +kernel
theorem dX4_departuresTo_14 : decode cX4_departuresTo 14 = .ok (.iastore, 1) := by decide +kernel
theorem dX4_departuresTo_15 : decode cX4_departuresTo 15 = .ok (.aload_n 0, 1) := by decide +kernel
theorem dX4_departuresTo_16 : decode cX4_departuresTo 16 = .ok (.iconst 1, 1) := by decide +kernel
theorem dX4_departuresTo_17 : decode cX4_departuresTo 17 = .ok (.invokevirtual 33, 3) := by decide +kernel
theorem dX4_departuresTo_20 : decode cX4_departuresTo 20 = .ok (.aload_n 0, 1) := by decide +kernel
theorem dX4_departuresTo_21 : decode cX4_departuresTo 21 = .ok (.getfield 15, 3) := by decide +kernel
theorem dX4_departuresTo_24 : decode cX4_departuresTo 24 = .ok (.areturn, 1) := by decide +kernel
set_option maxRecDepth 20000 in
theorem rX4_departuresTo {a1 a2 : Int32} {I : MI} {Q : Nat → MI → Prop} (H : (Wv mJ7_fill_53178 [.ref 47, .int (-1)] I (fun I1 => (vp_in a1 10 ∧ ∀ I2 : MI, I2 = up2 I1 47 a1.toNatClampNeg a2 → Wv mX4_sweepStreets [.ref 45, .int 1] I2 (fun I3 => (Q 47 I3)))))) : Wr mX4_departuresTo [.ref 45, .int a1, .int a2] I Q := by
  show WP mX4_departuresTo 286 Rf0 0 [some (.ref 45), some (.int a1), some (.int a2)] [] I (qr Q)
  refine w_aload_n dX4_departuresTo_0 rfl rfl ?_
  refine w_getR dX4_departuresTo_1 fl_4_15 okC4 kd_45 (by decide) (by decide) rfl rf_45_3 ?_
  refine w_iconst (v := (-1)) dX4_departuresTo_4 (by decide) ?_
  refine w_callS (st := []) (As := [.ref 47, .int (-1)]) dX4_departuresTo_5 ml_4_27 okJ7_fill_53178 rfl (Nat.le_of_ble_eq_true rfl) (by decide) (Nat.le_of_ble_eq_true rfl) (wc_v H (fun I1 H => ?_))
  refine w_aload_n dX4_departuresTo_8 rfl rfl ?_
  refine w_getR dX4_departuresTo_9 fl_4_15 okC4 kd_45 (by decide) (by decide) rfl rf_45_3 ?_
  refine w_iload_n dX4_departuresTo_12 rfl rfl ?_
  refine w_iload_n dX4_departuresTo_13 rfl rfl ?_
  refine w_iast dX4_departuresTo_14 kd_47 (by decide) H.1 (w_up fun I2 hI => ?_)
  replace H := H.2 I2 hI
  refine w_aload_n dX4_departuresTo_15 rfl rfl ?_
  refine w_iconst (v := 1) dX4_departuresTo_16 (by decide) ?_
  refine w_callV (st := []) (As := [.int 1]) dX4_departuresTo_17 ml_4_33 okX4_sweepStreets kd_45 (by decide) rfl rfl rfl (Nat.le_of_ble_eq_true rfl) (by decide) (Nat.le_of_ble_eq_true rfl) (wc_v H (fun I3 H => ?_))
  refine w_aload_n dX4_departuresTo_20 rfl rfl ?_
  refine w_getR dX4_departuresTo_21 fl_4_15 okC4 kd_45 (by decide) (by decide) rfl rf_45_3 ?_
  exact w_aret dX4_departuresTo_24 rfl (Or.inr ⟨_, rfl⟩) ⟨_, rfl, H⟩
theorem dX4_improveDeparture_0 : decode cX4_improveDeparture 0 = .ok (.aload_n 0, 1) := by decide +kernel
theorem dX4_improveDeparture_1 : decode cX4_improveDeparture 1 = .ok (.getfield 15, 3) := by decide +kernel
theorem dX4_improveDeparture_4 : decode cX4_improveDeparture 4 = .ok (.iload_n 3, 1) := by decide +kernel
theorem dX4_improveDeparture_5 : decode cX4_improveDeparture 5 = .ok (.iaload, 1) := by decide +kernel
theorem dX4_improveDeparture_6 : decode cX4_improveDeparture 6 = .ok (.aload_n 0, 1) := by decide +kernel
theorem dX4_improveDeparture_7 : decode cX4_improveDeparture 7 = .ok (.getfield 18, 3) := by decide +kernel
theorem dX4_improveDeparture_10 : decode cX4_improveDeparture 10 = .ok (.getfield 64, 3) := by decide +kernel
theorem dX4_improveDeparture_13 : decode cX4_improveDeparture 13 = .ok (.iload_n 1, 1) := by decide +kernel
theorem dX4_improveDeparture_14 : decode cX4_improveDeparture 14 = .ok (.iaload, 1) := by decide +kernel
theorem dX4_improveDeparture_15 : decode cX4_improveDeparture 15 = .ok (.isub, 1) := by decide +kernel
theorem dX4_improveDeparture_16 : decode cX4_improveDeparture 16 = .ok (.istore 4, 2) := by decide +kernel
theorem dX4_improveDeparture_18 : decode cX4_improveDeparture 18 = .ok (.iload 4, 2) := by decide +kernel
theorem dX4_improveDeparture_20 : decode cX4_improveDeparture 20 = .ok (.aload_n 0, 1) := by decide +kernel
theorem dX4_improveDeparture_21 : decode cX4_improveDeparture 21 = .ok (.getfield 22, 3) := by decide +kernel
theorem dX4_improveDeparture_24 : decode cX4_improveDeparture 24 = .ok (.getfield 61, 3) := by decide +kernel
theorem dX4_improveDeparture_27 : decode cX4_improveDeparture 27 = .ok (.iload_n 1, 1) := by decide +kernel
theorem dX4_improveDeparture_28 : decode cX4_improveDeparture 28 = .ok (.iaload, 1) := by decide +kernel
theorem dX4_improveDeparture_29 : decode cX4_improveDeparture 29 = .ok (.if_icmp .ge 5, 3) := by decide +kernel
theorem dX4_improveDeparture_32 : decode cX4_improveDeparture 32 = .ok (.iconst 0, 1) := by decide +kernel
theorem dX4_improveDeparture_33 : decode cX4_improveDeparture 33 = .ok (.ireturn, 1) := by decide +kernel
theorem dX4_improveDeparture_34 : decode cX4_improveDeparture 34 = .ok (.aload_n 0, 1) := by decide +kernel
theorem dX4_improveDeparture_35 : decode cX4_improveDeparture 35 = .ok (.getfield 22, 3) := by decide +kernel
theorem dX4_improveDeparture_38 : decode cX4_improveDeparture 38 = .ok (.getfield 56, 3) := by decide +kernel
theorem dX4_improveDeparture_41 : decode cX4_improveDeparture 41 = .ok (.iload_n 1, 1) := by decide +kernel
theorem dX4_improveDeparture_42 : decode cX4_improveDeparture 42 = .ok (.iaload, 1) := by decide +kernel
theorem dX4_improveDeparture_43 : decode cX4_improveDeparture 43 = .ok (.istore 5, 2) := by decide +kernel
theorem dX4_improveDeparture_45 : decode cX4_improveDeparture 45 = .ok (.iload 5, 2) := by decide +kernel
theorem dX4_improveDeparture_47 : decode cX4_improveDeparture 47 = .ok (.ifCond .eq 16, 3) := by decide +kernel
theorem dX4_improveDeparture_50 : decode cX4_improveDeparture 50 = .ok (.iload 4, 2) := by decide +kernel
theorem dX4_improveDeparture_52 : decode cX4_improveDeparture 52 = .ok (.iload 5, 2) := by decide +kernel
theorem dX4_improveDeparture_54 : decode cX4_improveDeparture 54 = .ok (.if_icmp .lt 9, 3) := by decide +kernel
theorem dX4_improveDeparture_57 : decode cX4_improveDeparture 57 = .ok (.iload 5, 2) := by decide +kernel
theorem dX4_improveDeparture_59 : decode cX4_improveDeparture 59 = .ok (.iconst 1, 1) := by decide +kernel
theorem dX4_improveDeparture_60 : decode cX4_improveDeparture 60 = .ok (.isub, 1) := by decide +kernel
theorem dX4_improveDeparture_61 : decode cX4_improveDeparture 61 = .ok (.istore 4, 2) := by decide +kernel
theorem dX4_improveDeparture_63 : decode cX4_improveDeparture 63 = .ok (.iload 4, 2) := by decide +kernel
theorem dX4_improveDeparture_65 : decode cX4_improveDeparture 65 = .ok (.aload_n 0, 1) := by decide +kernel
theorem dX4_improveDeparture_66 : decode cX4_improveDeparture 66 = .ok (.getfield 15, 3) := by decide +kernel
theorem dX4_improveDeparture_69 : decode cX4_improveDeparture 69 = .ok (.iload_n 2, 1) := by decide +kernel
theorem dX4_improveDeparture_70 : decode cX4_improveDeparture 70 = .ok (.iaload, 1) := by decide +kernel
theorem dX4_improveDeparture_71 : decode cX4_improveDeparture 71 = .ok (.if_icmp .gt 5, 3) := by decide +kernel
theorem dX4_improveDeparture_74 : decode cX4_improveDeparture 74 = .ok (.iconst 0, 1) := by decide +kernel
theorem dX4_improveDeparture_75 : decode cX4_improveDeparture 75 = .ok (.ireturn, 1) := by decide +kernel
theorem dX4_improveDeparture_76 : decode cX4_improveDeparture 76 = .ok (.aload_n 0, 1) := by decide +kernel
theorem dX4_improveDeparture_77 : decode cX4_improveDeparture 77 = .ok (.getfield 15, 3) := by decide +kernel
theorem dX4_improveDeparture_80 : decode cX4_improveDeparture 80 = .ok (.iload_n 2, 1) := by decide +kernel
theorem dX4_improveDeparture_81 : decode cX4_improveDeparture 81 = .ok (.iload 4, 2) := by decide +kernel
theorem dX4_improveDeparture_83 : decode cX4_improveDeparture 83 = .ok (.iastore, 1) := by decide +kernel
theorem dX4_improveDeparture_84 : decode cX4_improveDeparture 84 = .ok (.iconst 1, 1) := by decide +kernel
theorem dX4_improveDeparture_85 : decode cX4_improveDeparture 85 = .ok (.ireturn, 1) := by decide +kernel
abbrev LX4_improveDeparture_63 (l1 l2 l3 l4 l5 : Int32) (I : MI) (Q : Int32 → MI → Prop) : Prop := WP mX4_improveDeparture 286 Rf0 63 [some (.ref 45), some (.int l1), some (.int l2), some (.int l3), some (.int l4), some (.int l5)] [] I (qi Q)
set_option maxRecDepth 20000 in
theorem rX4_improveDeparture_63 {l1 l2 l3 l4 l5 : Int32} {I : MI} {Q : Int32 → MI → Prop} (H : (vp_in l2 10 ∧ ((I 47 l2.toNatClampNeg) < l4 → (vp_in l2 10 ∧ ∀ I1 : MI, I1 = up2 I 47 l2.toNatClampNeg l4 → Q 1 I1)) ∧ (¬ (I 47 l2.toNatClampNeg) < l4 → (Q 0 I)))) : LX4_improveDeparture_63 l1 l2 l3 l4 l5 I Q := by
  show WP mX4_improveDeparture 286 Rf0 63 [some (.ref 45), some (.int l1), some (.int l2), some (.int l3), some (.int l4), some (.int l5)] [] I (qi Q)
  refine w_iload dX4_improveDeparture_63 rfl ?_
  refine w_aload_n dX4_improveDeparture_65 rfl rfl ?_
  refine w_getR dX4_improveDeparture_66 fl_4_15 okC4 kd_45 (by decide) (by decide) rfl rf_45_3 ?_
  refine w_iload_n dX4_improveDeparture_69 rfl rfl ?_
  refine w_iald dX4_improveDeparture_70 kd_47 (by decide) H.1 ?_
  replace H := H.2
  refine w_icmp_gt (t := 76) dX4_improveDeparture_71 (by decide) (fun h => ?_) (fun h => ?_)
  · replace H := H.1 h
    refine w_aload_n dX4_improveDeparture_76 rfl rfl ?_
    refine w_getR dX4_improveDeparture_77 fl_4_15 okC4 kd_45 (by decide) (by decide) rfl rf_45_3 ?_
    refine w_iload_n dX4_improveDeparture_80 rfl rfl ?_
    refine w_iload dX4_improveDeparture_81 rfl ?_
    refine w_iast dX4_improveDeparture_83 kd_47 (by decide) H.1 (w_up fun I1 hI => ?_)
    replace H := H.2 I1 hI
    refine w_iconst (v := 1) dX4_improveDeparture_84 (by decide) ?_
    exact w_zret dX4_improveDeparture_85 rfl rfl ⟨_, rfl, H⟩
  · replace H := H.2 h
    refine w_iconst (v := 0) dX4_improveDeparture_74 (by decide) ?_
    exact w_zret dX4_improveDeparture_75 rfl rfl ⟨_, rfl, H⟩
set_option maxRecDepth 20000 in
theorem rX4_improveDeparture {a1 a2 a3 : Int32} {I : MI} {Q : Int32 → MI → Prop} (H : (vp_in a3 10 ∧ vp_in a1 18 ∧ vp_in a1 18 ∧ ((I 33 a1.toNatClampNeg) ≤ ((I 47 a3.toNatClampNeg) - (I 27 a1.toNatClampNeg)) → (vp_in a1 18 ∧ ((I 34 a1.toNatClampNeg) = 0 → (LX4_improveDeparture_63 a1 a2 a3 ((I 47 a3.toNatClampNeg) - (I 27 a1.toNatClampNeg)) (I 34 a1.toNatClampNeg) I Q)) ∧ (¬ (I 34 a1.toNatClampNeg) = 0 → ((((I 47 a3.toNatClampNeg) - (I 27 a1.toNatClampNeg)) < (I 34 a1.toNatClampNeg) → (LX4_improveDeparture_63 a1 a2 a3 ((I 47 a3.toNatClampNeg) - (I 27 a1.toNatClampNeg)) (I 34 a1.toNatClampNeg) I Q)) ∧ (¬ ((I 47 a3.toNatClampNeg) - (I 27 a1.toNatClampNeg)) < (I 34 a1.toNatClampNeg) → (LX4_improveDeparture_63 a1 a2 a3 ((I 34 a1.toNatClampNeg) - 1) (I 34 a1.toNatClampNeg) I Q)))))) ∧ (¬ (I 33 a1.toNatClampNeg) ≤ ((I 47 a3.toNatClampNeg) - (I 27 a1.toNatClampNeg)) → (Q 0 I)))) : Wi mX4_improveDeparture [.ref 45, .int a1, .int a2, .int a3] I Q := by
  show WP mX4_improveDeparture 286 Rf0 0 [some (.ref 45), some (.int a1), some (.int a2), some (.int a3), none, none] [] I (qi Q)
  refine w_aload_n dX4_improveDeparture_0 rfl rfl ?_
  refine w_getR dX4_improveDeparture_1 fl_4_15 okC4 kd_45 (by decide) (by decide) rfl rf_45_3 ?_
  refine w_iload_n dX4_improveDeparture_4 rfl rfl ?_
  refine w_iald dX4_improveDeparture_5 kd_47 (by decide) H.1 ?_
  replace H := H.2
  refine w_aload_n dX4_improveDeparture_6 rfl rfl ?_
  refine w_getR dX4_improveDeparture_7 fl_4_18 okC4 kd_45 (by decide) (by decide) rfl rf_45_0 ?_
  refine w_getR dX4_improveDeparture_10 fl_4_64 okC6 kd_24 (by decide) (by decide) rfl rf_24_9 ?_
  refine w_iload_n dX4_improveDeparture_13 rfl rfl ?_
  refine w_iald dX4_improveDeparture_14 kd_27 (by decide) H.1 ?_
  replace H := H.2
  refine w_isub dX4_improveDeparture_15 ?_
  refine w_istore (ls' := [some (.ref 45), some (.int a1), some (.int a2), some (.int a3), some (.int ((I 47 a3.toNatClampNeg) - (I 27 a1.toNatClampNeg))), none]) dX4_improveDeparture_16 (by decide) rfl rfl ?_
  refine w_iload dX4_improveDeparture_18 rfl ?_
  refine w_aload_n dX4_improveDeparture_20 rfl rfl ?_
  refine w_getR dX4_improveDeparture_21 fl_4_22 okC4 kd_45 (by decide) (by decide) rfl rf_45_1 ?_
  refine w_getR dX4_improveDeparture_24 fl_4_61 okC8 kd_30 (by decide) (by decide) rfl rf_30_4 ?_
  refine w_iload_n dX4_improveDeparture_27 rfl rfl ?_
  refine w_iald dX4_improveDeparture_28 kd_33 (by decide) H.1 ?_
  replace H := H.2
  refine w_icmp_ge (t := 34) dX4_improveDeparture_29 (by decide) (fun h => ?_) (fun h => ?_)
  · replace H := H.1 h
    refine w_aload_n dX4_improveDeparture_34 rfl rfl ?_
    refine w_getR dX4_improveDeparture_35 fl_4_22 okC4 kd_45 (by decide) (by decide) rfl rf_45_1 ?_
    refine w_getR dX4_improveDeparture_38 fl_4_56 okC8 kd_30 (by decide) (by decide) rfl rf_30_5 ?_
    refine w_iload_n dX4_improveDeparture_41 rfl rfl ?_
    refine w_iald dX4_improveDeparture_42 kd_34 (by decide) H.1 ?_
    replace H := H.2
    refine w_istore (ls' := [some (.ref 45), some (.int a1), some (.int a2), some (.int a3), some (.int ((I 47 a3.toNatClampNeg) - (I 27 a1.toNatClampNeg))), some (.int (I 34 a1.toNatClampNeg))]) dX4_improveDeparture_43 (by decide) rfl rfl ?_
    refine w_iload dX4_improveDeparture_45 rfl ?_
    refine w_if_eq (t := 63) dX4_improveDeparture_47 (by decide) (fun h => ?_) (fun h => ?_)
    · replace H := H.1 h
      skip
      exact H
    · replace H := H.2 h
      refine w_iload dX4_improveDeparture_50 rfl ?_
      refine w_iload dX4_improveDeparture_52 rfl ?_
      refine w_icmp_lt (t := 63) dX4_improveDeparture_54 (by decide) (fun h => ?_) (fun h => ?_)
      · replace H := H.1 h
        skip
        exact H
      · replace H := H.2 h
        refine w_iload dX4_improveDeparture_57 rfl ?_
        refine w_iconst (v := 1) dX4_improveDeparture_59 (by decide) ?_
        refine w_isub dX4_improveDeparture_60 ?_
        refine w_istore (ls' := [some (.ref 45), some (.int a1), some (.int a2), some (.int a3), some (.int ((I 34 a1.toNatClampNeg) - 1)), some (.int (I 34 a1.toNatClampNeg))]) dX4_improveDeparture_61 (by decide) rfl rfl ?_
        skip
        exact H
  · replace H := H.2 h
    refine w_iconst (v := 0) dX4_improveDeparture_32 (by decide) ?_
    exact w_zret dX4_improveDeparture_33 rfl rfl ⟨_, rfl, H⟩
theorem dX5_readRound_0 : decode cX5_readRound 0 = .ok (.aload_n 0, 1) := by decide +kernel
theorem dX5_readRound_1 : decode cX5_readRound 1 = .ok (.getfield 12, 3) := by decide +kernel
theorem dX5_readRound_4 : decode cX5_readRound 4 = .ok (.invokevirtual 29, 3) := by decide +kernel
theorem dX5_readRound_7 : decode cX5_readRound 7 = .ok (.aload_n 0, 1) := by decide +kernel
theorem dX5_readRound_8 : decode cX5_readRound 8 = .ok (.iconst 0, 1) := by decide +kernel
theorem dX5_readRound_9 : decode cX5_readRound 9 = .ok (.putfield 32, 3) := by decide +kernel
theorem dX5_readRound_12 : decode cX5_readRound 12 = .ok (.aload_n 0, 1) := by decide +kernel
theorem dX5_readRound_13 : decode cX5_readRound 13 = .ok (.iconst 0, 1) := by decide +kernel
theorem dX5_readRound_14 : decode cX5_readRound 14 = .ok (.putfield 36, 3) := by decide +kernel
theorem dX5_readRound_17 : decode cX5_readRound 17 = .ok (.aload_n 0, 1) := by decide +kernel
theorem dX5_readRound_18 : decode cX5_readRound 18 = .ok (.getfield 25, 3) := by decide +kernel
theorem dX5_readRound_21 : decode cX5_readRound 21 = .ok (.iload_n 1, 1) := by decide +kernel
theorem dX5_readRound_22 : decode cX5_readRound 22 = .ok (.invokevirtual 39, 3) := by decide +kernel
theorem dX5_readRound_25 : decode cX5_readRound 25 = .ok (.iconst 0, 1) := by decide +kernel
theorem dX5_readRound_26 : decode cX5_readRound 26 = .ok (.istore_n 2, 1) := by decide +kernel
theorem dX5_readRound_27 : decode cX5_readRound 27 = .ok (.iload_n 2, 1) := by decide +kernel
theorem dX5_readRound_28 : decode cX5_readRound 28 = .ok (.sipush 900, 3) := by decide +kernel
theorem dX5_readRound_31 : decode cX5_readRound 31 = .ok (.if_icmp .ge 34, 3) := by decide +kernel
theorem dX5_readRound_34 : decode cX5_readRound 34 = .ok (.aload_n 0, 1) := by decide +kernel
theorem dX5_readRound_35 : decode cX5_readRound 35 = .ok (.getfield 36, 3) := by decide +kernel
theorem dX5_readRound_38 : decode cX5_readRound 38 = .ok (.ifCond .ne 27, 3) := by decide +kernel
theorem dX5_readRound_41 : decode cX5_readRound 41 = .ok (.aload_n 0, 1) := by decide +kernel
theorem dX5_readRound_42 : decode cX5_readRound 42 = .ok (.getfield 25, 3) := by decide +kernel
theorem dX5_readRound_45 : decode cX5_readRound 45 = .ok (.getfield 45, 3) := by decide +kernel
theorem dX5_readRound_48 : decode cX5_readRound 48 = .ok (.ifCond .eq 17, 3) := by decide +kernel
theorem dX5_readRound_51 : decode cX5_readRound 51 = .ok (.aload_n 0, 1) := by decide +kernel
theorem dX5_readRound_52 : decode cX5_readRound 52 = .ok (.invokevirtual 48, 3) := by decide +kernel
theorem dX5_readRound_55 : decode cX5_readRound 55 = .ok (.aload_n 0, 1) := by decide +kernel
theorem dX5_readRound_56 : decode cX5_readRound 56 = .ok (.invokevirtual 51, 3) := by decide +kernel
theorem dX5_readRound_59 : decode cX5_readRound 59 = .ok (.iinc 2 1, 3) := by decide +kernel
theorem dX5_readRound_62 : decode cX5_readRound 62 = .ok (.goto (-35), 3) := by decide +kernel
theorem dX5_readRound_65 : decode cX5_readRound 65 = .ok (.return_, 1) := by decide +kernel
abbrev LX5_readRound_27 (l1 l2 : Int32) (I : MI) (Q : MI → Prop) : Prop := WP mX5_readRound 286 Rf0 27 [some (.ref 3), some (.int l1), some (.int l2)] [] I (qv Q)
set_option maxRecDepth 20000 in
theorem rX5_readRound_27 {l1 l2 : Int32} {I : MI} {Q : MI → Prop} (H : ((900 ≤ l2 → (Q I)) ∧ (¬ 900 ≤ l2 → ((¬ (I 3 4) = 0 → (Q I)) ∧ ((I 3 4) = 0 → (((I 1 5) = 0 → (Q I)) ∧ (¬ (I 1 5) = 0 → (Wv mX5_readStatement [.ref 3] I (fun I1 => (Wv mX5_readSemicolon [.ref 3] I1 (fun I2 => (LX5_readRound_27 l1 (l2 + 1) I2 Q)))))))))))) : LX5_readRound_27 l1 l2 I Q := by
  show WP mX5_readRound 286 Rf0 27 [some (.ref 3), some (.int l1), some (.int l2)] [] I (qv Q)
  refine w_iload_n dX5_readRound_27 rfl rfl ?_
  refine w_sipush (v := 900) dX5_readRound_28 (by decide) ?_
  refine w_icmp_ge (t := 65) dX5_readRound_31 (by decide) (fun h => ?_) (fun h => ?_)
  · replace H := H.1 h
    exact w_vret dX5_readRound_65 rfl ⟨rfl, H⟩
  · replace H := H.2 h
    refine w_aload_n dX5_readRound_34 rfl rfl ?_
    refine w_getI dX5_readRound_35 fl_5_36 okC5 kd_3 (by decide) (by decide) rfl ?_
    refine w_if_ne (t := 65) dX5_readRound_38 (by decide) (fun h => ?_) (fun h => ?_)
    · replace H := H.1 h
      exact w_vret dX5_readRound_65 rfl ⟨rfl, H⟩
    · replace H := H.2 h
      refine w_aload_n dX5_readRound_41 rfl rfl ?_
      refine w_getR dX5_readRound_42 fl_5_25 okC5 kd_3 (by decide) (by decide) rfl rf_3_0 ?_
      refine w_getI dX5_readRound_45 fl_5_45 okC9 kd_1 (by decide) (by decide) rfl ?_
      refine w_if_eq (t := 65) dX5_readRound_48 (by decide) (fun h => ?_) (fun h => ?_)
      · replace H := H.1 h
        exact w_vret dX5_readRound_65 rfl ⟨rfl, H⟩
      · replace H := H.2 h
        refine w_aload_n dX5_readRound_51 rfl rfl ?_
        refine w_callV (st := []) (As := []) dX5_readRound_52 ml_5_48 okX5_readStatement kd_3 (by decide) rfl rfl rfl (Nat.le_of_ble_eq_true rfl) (by decide) (Nat.le_of_ble_eq_true rfl) (wc_v H (fun I1 H => ?_))
        refine w_aload_n dX5_readRound_55 rfl rfl ?_
        refine w_callV (st := []) (As := []) dX5_readRound_56 ml_5_51 okX5_readSemicolon kd_3 (by decide) rfl rfl rfl (Nat.le_of_ble_eq_true rfl) (by decide) (Nat.le_of_ble_eq_true rfl) (wc_v H (fun I2 H => ?_))
        refine w_iinc (v := l2 + 1) (ls' := [some (.ref 3), some (.int l1), some (.int (l2 + 1))]) dX5_readRound_59 rfl rfl (by decide) rfl rfl ?_
        refine w_goto (t := 27) dX5_readRound_62 (by decide) ?_
        skip
        exact H
set_option maxRecDepth 20000 in
theorem rX5_readRound {a1 : Int32} {I : MI} {Q : MI → Prop} (H : (Wv mX6_clear [.ref 4] I (fun I1 => (∀ I2 : MI, I2 = up2 I1 3 3 0 → ∀ I3 : MI, I3 = up2 I2 3 4 0 → Wv mX9_begin [.ref 1, .int a1] I3 (fun I4 => (LX5_readRound_27 a1 0 I4 Q)))))) : Wv mX5_readRound [.ref 3, .int a1] I Q := by
  show WP mX5_readRound 286 Rf0 0 [some (.ref 3), some (.int a1), none] [] I (qv Q)
  refine w_aload_n dX5_readRound_0 rfl rfl ?_
  refine w_getR dX5_readRound_1 fl_5_12 okC5 kd_3 (by decide) (by decide) rfl rf_3_1 ?_
  refine w_callV (st := []) (As := []) dX5_readRound_4 ml_5_29 okX6_clear kd_4 (by decide) rfl rfl rfl (Nat.le_of_ble_eq_true rfl) (by decide) (Nat.le_of_ble_eq_true rfl) (wc_v H (fun I1 H => ?_))
  refine w_aload_n dX5_readRound_7 rfl rfl ?_
  refine w_iconst (v := 0) dX5_readRound_8 (by decide) ?_
  refine w_putI dX5_readRound_9 fl_5_32 okC5 kd_3 (by decide) (by decide) rfl rfl rfl (w_up fun I2 hI => ?_)
  replace H := H I2 hI
  refine w_aload_n dX5_readRound_12 rfl rfl ?_
  refine w_iconst (v := 0) dX5_readRound_13 (by decide) ?_
  refine w_putI dX5_readRound_14 fl_5_36 okC5 kd_3 (by decide) (by decide) rfl rfl rfl (w_up fun I3 hI => ?_)
  replace H := H I3 hI
  refine w_aload_n dX5_readRound_17 rfl rfl ?_
  refine w_getR dX5_readRound_18 fl_5_25 okC5 kd_3 (by decide) (by decide) rfl rf_3_0 ?_
  refine w_iload_n dX5_readRound_21 rfl rfl ?_
  refine w_callV (st := []) (As := [.int a1]) dX5_readRound_22 ml_5_39 okX9_begin kd_1 (by decide) rfl rfl rfl (Nat.le_of_ble_eq_true rfl) (by decide) (Nat.le_of_ble_eq_true rfl) (wc_v H (fun I4 H => ?_))
  refine w_iconst (v := 0) dX5_readRound_25 (by decide) ?_
  refine w_istore_n (ls' := [some (.ref 3), some (.int a1), some (.int 0)]) dX5_readRound_26 rfl (by decide) rfl rfl ?_
  skip
  exact H
theorem dX5_readStatement_0 : decode cX5_readStatement 0 = .ok (.aload_n 0, 1) := by decide +kernel
theorem dX5_readStatement_1 : decode cX5_readStatement 1 = .ok (.getfield 25, 3) := by decide +kernel
theorem dX5_readStatement_4 : decode cX5_readStatement 4 = .ok (.ldc 54, 2) := by decide +kernel
theorem dX5_readStatement_6 : decode cX5_readStatement 6 = .ok (.invokevirtual 56, 3) := by decide +kernel
theorem dX5_readStatement_9 : decode cX5_readStatement 9 = .ok (.ifCond .eq 10, 3) := by decide +kernel
theorem dX5_readStatement_12 : decode cX5_readStatement 12 = .ok (.aload_n 0, 1) := by decide +kernel
theorem dX5_readStatement_13 : decode cX5_readStatement 13 = .ok (.invokevirtual 60, 3) := by decide +kernel
theorem dX5_readStatement_16 : decode cX5_readStatement 16 = .ok (.goto 173, 3) := by decide +kernel
theorem dX5_readStatement_19 : decode cX5_readStatement 19 = .ok (.aload_n 0, 1) := by decide +kernel
theorem dX5_readStatement_20 : decode cX5_readStatement 20 = .ok (.getfield 25, 3) := by decide +kernel
theorem dX5_readStatement_23 : decode cX5_readStatement 23 = .ok (.ldc 63, 2) := by decide +kernel
theorem dX5_readStatement_25 : decode cX5_readStatement 25 = .ok (.invokevirtual 56, 3) := by decide +kernel
theorem dX5_readStatement_28 : decode cX5_readStatement 28 = .ok (.ifCond .eq 27, 3) := by decide +kernel
theorem dX5_readStatement_31 : decode cX5_readStatement 31 = .ok (.aload_n 0, 1) := by decide +kernel
theorem dX5_readStatement_32 : decode cX5_readStatement 32 = .ok (.iconst 2, 1) := by decide +kernel
theorem dX5_readStatement_33 : decode cX5_readStatement 33 = .ok (.invokevirtual 65, 3) := by decide +kernel
theorem dX5_readStatement_36 : decode cX5_readStatement 36 = .ok (.aload_n 0, 1) := by decide +kernel
theorem dX5_readStatement_37 : decode cX5_readStatement 37 = .ok (.getfield 12, 3) := by decide +kernel
theorem dX5_readStatement_40 : decode cX5_readStatement 40 = .ok (.aload_n 0, 1) := by decide +kernel
theorem dX5_readStatement_41 : decode cX5_readStatement 41 = .ok (.bipush 10, 2) := by decide +kernel
theorem dX5_readStatement_43 : decode cX5_readStatement 43 = .ok (.sipush 200, 3) := by decide +kernel
theorem dX5_readStatement_46 : decode cX5_readStatement 46 = .ok (.invokevirtual 68, 3) := by decide +kernel
theorem dX5_readStatement_49 : decode cX5_readStatement 49 = .ok (.putfield 72, 3) := by decide +kernel
theorem dX5_readStatement_52 : decode cX5_readStatement 52 = .ok (.goto 137, 3) := by decide +kernel
theorem dX5_readStatement_55 : decode cX5_readStatement 55 = .ok (.aload_n 0, 1) := by decide +kernel
theorem dX5_readStatement_56 : decode cX5_readStatement 56 = .ok (.getfield 25, 3) := by decide +kernel
theorem dX5_readStatement_59 : decode cX5_readStatement 59 = .ok (.ldc 75, 2) := by decide +kernel
theorem dX5_readStatement_61 : decode cX5_readStatement 61 = .ok (.invokevirtual 56, 3) := by decide +kernel
theorem dX5_readStatement_64 : decode cX5_readStatement 64 = .ok (.ifCond .eq 26, 3) := by decide +kernel
theorem dX5_readStatement_67 : decode cX5_readStatement 67 = .ok (.aload_n 0, 1) := by decide +kernel
theorem dX5_readStatement_68 : decode cX5_readStatement 68 = .ok (.iconst 4, 1) := by decide +kernel
theorem dX5_readStatement_69 : decode cX5_readStatement 69 = .ok (.invokevirtual 65, 3) := by decide +kernel
theorem dX5_readStatement_72 : decode cX5_readStatement 72 = .ok (.aload_n 0, 1) := by decide +kernel
theorem dX5_readStatement_73 : decode cX5_readStatement 73 = .ok (.getfield 12, 3) := by decide +kernel
theorem dX5_readStatement_76 : decode cX5_readStatement 76 = .ok (.aload_n 0, 1) := by decide +kernel
theorem dX5_readStatement_77 : decode cX5_readStatement 77 = .ok (.iconst 0, 1) := by decide +kernel
theorem dX5_readStatement_78 : decode cX5_readStatement 78 = .ok (.sipush 1439, 3) := by decide +kernel
theorem dX5_readStatement_81 : decode cX5_readStatement 81 = .ok (.invokevirtual 68, 3) := by decide +kernel
theorem dX5_readStatement_84 : decode cX5_readStatement 84 = .ok (.putfield 77, 3) := by decide +kernel
theorem dX5_readStatement_87 : decode cX5_readStatement 87 = .ok (.goto 102, 3) := by decide +kernel
theorem dX5_readStatement_90 : decode cX5_readStatement 90 = .ok (.aload_n 0, 1) := by decide +kernel
theorem dX5_readStatement_91 : decode cX5_readStatement 91 = .ok (.getfield 25, 3) := by decide +kernel
theorem dX5_readStatement_94 : decode cX5_readStatement 94 = .ok (.ldc 79, 2) := by decide +kernel
theorem dX5_readStatement_96 : decode cX5_readStatement 96 = .ok (.invokevirtual 56, 3) := by decide +kernel
theorem dX5_readStatement_99 : decode cX5_readStatement 99 = .ok (.ifCond .eq 40, 3) := by decide +kernel
theorem dX5_readStatement_102 : decode cX5_readStatement 102 = .ok (.aload_n 0, 1) := by decide +kernel
theorem dX5_readStatement_103 : decode cX5_readStatement 103 = .ok (.bipush 8, 2) := by decide +kernel
theorem dX5_readStatement_105 : decode cX5_readStatement 105 = .ok (.invokevirtual 65, 3) := by decide +kernel
theorem dX5_readStatement_108 : decode cX5_readStatement 108 = .ok (.aload_n 0, 1) := by decide +kernel
theorem dX5_readStatement_109 : decode cX5_readStatement 109 = .ok (.getfield 12, 3) := by decide +kernel
theorem dX5_readStatement_112 : decode cX5_readStatement 112 = .ok (.aload_n 0, 1) := by decide +kernel
theorem dX5_readStatement_113 : decode cX5_readStatement 113 = .ok (.iconst 0, 1) := by decide +kernel
theorem dX5_readStatement_114 : decode cX5_readStatement 114 = .ok (.bipush 99, 2) := by decide +kernel
theorem dX5_readStatement_116 : decode cX5_readStatement 116 = .ok (.invokevirtual 68, 3) := by decide +kernel
theorem dX5_readStatement_119 : decode cX5_readStatement 119 = .ok (.putfield 81, 3) := by decide +kernel
theorem dX5_readStatement_122 : decode cX5_readStatement 122 = .ok (.aload_n 0, 1) := by decide +kernel
theorem dX5_readStatement_123 : decode cX5_readStatement 123 = .ok (.getfield 12, 3) := by decide +kernel
theorem dX5_readStatement_126 : decode cX5_readStatement 126 = .ok (.aload_n 0, 1) := by decide +kernel
theorem dX5_readStatement_127 : decode cX5_readStatement 127 = .ok (.iconst 0, 1) := by decide +kernel
theorem dX5_readStatement_128 : decode cX5_readStatement 128 = .ok (.bipush 99, 2) := by decide +kernel
theorem dX5_readStatement_130 : decode cX5_readStatement 130 = .ok (.invokevirtual 68, 3) := by decide +kernel
theorem dX5_readStatement_133 : decode cX5_readStatement 133 = .ok (.putfield 83, 3) := by decide +kernel
theorem dX5_readStatement_136 : decode cX5_readStatement 136 = .ok (.goto 53, 3) := by decide +kernel
theorem dX5_readStatement_139 : decode cX5_readStatement 139 = .ok (.aload_n 0, 1) := by decide +kernel
theorem dX5_readStatement_140 : decode cX5_readStatement 140 = .ok (.getfield 25, 3) := by decide +kernel
theorem dX5_readStatement_143 : decode cX5_readStatement 143 = .ok (.ldc 86, 2) := by decide +kernel
theorem dX5_readStatement_145 : decode cX5_readStatement 145 = .ok (.invokevirtual 56, 3) := by decide +kernel
theorem dX5_readStatement_148 : decode cX5_readStatement 148 = .ok (.ifCond .eq 10, 3) := by decide +kernel
theorem dX5_readStatement_151 : decode cX5_readStatement 151 = .ok (.aload_n 0, 1) := by decide +kernel
theorem dX5_readStatement_152 : decode cX5_readStatement 152 = .ok (.invokevirtual 88, 3) := by decide +kernel
theorem dX5_readStatement_155 : decode cX5_readStatement 155 = .ok (.goto 34, 3) := by decide +kernel
theorem dX5_readStatement_158 : decode cX5_readStatement 158 = .ok (.aload_n 0, 1) := by decide +kernel
theorem dX5_readStatement_159 : decode cX5_readStatement 159 = .ok (.getfield 25, 3) := by decide +kernel
theorem dX5_readStatement_162 : decode cX5_readStatement 162 = .ok (.ldc 91, 2) := by decide +kernel
theorem dX5_readStatement_164 : decode cX5_readStatement 164 = .ok (.invokevirtual 56, 3) := by decide +kernel
theorem dX5_readStatement_167 : decode cX5_readStatement 167 = .ok (.ifCond .eq 10, 3) := by decide +kernel
theorem dX5_readStatement_170 : decode cX5_readStatement 170 = .ok (.aload_n 0, 1) := by decide +kernel
theorem dX5_readStatement_171 : decode cX5_readStatement 171 = .ok (.invokevirtual 93, 3) := by decide +kernel
theorem dX5_readStatement_174 : decode cX5_readStatement 174 = .ok (.goto 15, 3) := by decide +kernel
theorem dX5_readStatement_177 : decode cX5_readStatement 177 = .ok (.aload_n 0, 1) := by decide +kernel
theorem dX5_readStatement_178 : decode cX5_readStatement 178 = .ok (.aload_n 0, 1) := by decide +kernel
theorem dX5_readStatement_179 : decode cX5_readStatement 179 = .ok (.getfield 25, 3) := by decide +kernel
theorem dX5_readStatement_182 : decode cX5_readStatement 182 = .ok (.getfield 96, 3) := by decide +kernel
theorem dX5_readStatement_185 : decode cX5_readStatement 185 = .ok (.iconst 1, 1) := by decide +kernel
theorem dX5_readStatement_186 : decode cX5_readStatement 186 = .ok (.invokevirtual 97, 3) := by decide +kernel
theorem dX5_readStatement_189 : decode cX5_readStatement 189 = .ok (.return_, 1) := by decide +kernel
set_option maxRecDepth 20000 in
theorem rX5_readStatement {I : MI} {Q : MI → Prop} (H : (Wi mX9_isWord [.ref 1, .retAddr (2 * 0 + 1)] I (fun r2 I1 => ((r2 = 0 → (Wi mX9_isWord [.ref 1, .retAddr (2 * 1 + 1)] I1 (fun r4 I3 => ((r4 = 0 → (Wi mX9_isWord [.ref 1, .retAddr (2 * 2 + 1)] I3 (fun r6 I5 => ((r6 = 0 → (Wi mX9_isWord [.ref 1, .retAddr (2 * 3 + 1)] I5 (fun r8 I7 => ((r8 = 0 → (Wi mX9_isWord [.ref 1, .retAddr (2 * 4 + 1)] I7 (fun r10 I9 => ((r10 = 0 → (Wi mX9_isWord [.ref 1, .retAddr (2 * 5 + 1)] I9 (fun r12 I11 => ((r12 = 0 → (Wv mX5_fail [.ref 3, .int (I11 1 3), .int 1] I11 (fun I13 => (Q I13)))) ∧ (¬ r12 = 0 → (Wv mX5_readHouse [.ref 3] I11 (fun I13 => (Q I13)))))))) ∧ (¬ r10 = 0 → (Wv mX5_readStreet [.ref 3] I9 (fun I11 => (Q I11)))))))) ∧ (¬ r8 = 0 → (Wv mX5_takeOnce [.ref 3, .int 8] I7 (fun I9 => (Wi mX5_readNumber [.ref 3, .int 0, .int 99] I9 (fun r11 I10 => (∀ I12 : MI, I12 = up2 I10 4 5 r11 → Wi mX5_readNumber [.ref 3, .int 0, .int 99] I12 (fun r14 I13 => (∀ I15 : MI, I15 = up2 I13 4 6 r14 → Q I15)))))))))))) ∧ (¬ r6 = 0 → (Wv mX5_takeOnce [.ref 3, .int 4] I5 (fun I7 => (Wi mX5_readNumber [.ref 3, .int 0, .int 1439] I7 (fun r9 I8 => (∀ I10 : MI, I10 = up2 I8 4 4 r9 → Q I10)))))))))) ∧ (¬ r4 = 0 → (Wv mX5_takeOnce [.ref 3, .int 2] I3 (fun I5 => (Wi mX5_readNumber [.ref 3, .int 10, .int 200] I5 (fun r7 I6 => (∀ I8 : MI, I8 = up2 I6 4 3 r7 → Q I8)))))))))) ∧ (¬ r2 = 0 → (Wv mX5_readNodes [.ref 3] I1 (fun I3 => (Q I3)))))))) : Wv mX5_readStatement [.ref 3] I Q := by
  show WP mX5_readStatement 286 Rf0 0 [some (.ref 3)] [] I (qv Q)
  refine w_aload_n dX5_readStatement_0 rfl rfl ?_
  refine w_getR dX5_readStatement_1 fl_5_25 okC5 kd_3 (by decide) (by decide) rfl rf_3_0 ?_
  refine w_ldcS (j := 0) (tx := "nodes") dX5_readStatement_4 (by decide +kernel) ?_
  refine w_callV (st := []) (As := [.retAddr (2 * 0 + 1)]) dX5_readStatement_6 ml_5_56 okX9_isWord kd_1 (by decide) rfl rfl rfl (Nat.le_of_ble_eq_true rfl) (by decide) (Nat.le_of_ble_eq_true rfl) (wc_i H (fun r2 I1 H => ?_))
  refine w_if_eq (t := 19) dX5_readStatement_9 (by decide) (fun h => ?_) (fun h => ?_)
  · replace H := H.1 h
    refine w_aload_n dX5_readStatement_19 rfl rfl ?_
    refine w_getR dX5_readStatement_20 fl_5_25 okC5 kd_3 (by decide) (by decide) rfl rf_3_0 ?_
    refine w_ldcS (j := 1) (tx := "cart") dX5_readStatement_23 (by decide +kernel) ?_
    refine w_callV (st := []) (As := [.retAddr (2 * 1 + 1)]) dX5_readStatement_25 ml_5_56 okX9_isWord kd_1 (by decide) rfl rfl rfl (Nat.le_of_ble_eq_true rfl) (by decide) (Nat.le_of_ble_eq_true rfl) (wc_i H (fun r4 I3 H => ?_))
    refine w_if_eq (t := 55) dX5_readStatement_28 (by decide) (fun h => ?_) (fun h => ?_)
    · replace H := H.1 h
      refine w_aload_n dX5_readStatement_55 rfl rfl ?_
      refine w_getR dX5_readStatement_56 fl_5_25 okC5 kd_3 (by decide) (by decide) rfl rf_3_0 ?_
      refine w_ldcS (j := 2) (tx := "start") dX5_readStatement_59 (by decide +kernel) ?_
      refine w_callV (st := []) (As := [.retAddr (2 * 2 + 1)]) dX5_readStatement_61 ml_5_56 okX9_isWord kd_1 (by decide) rfl rfl rfl (Nat.le_of_ble_eq_true rfl) (by decide) (Nat.le_of_ble_eq_true rfl) (wc_i H (fun r6 I5 H => ?_))
      refine w_if_eq (t := 90) dX5_readStatement_64 (by decide) (fun h => ?_) (fun h => ?_)
      · replace H := H.1 h
        refine w_aload_n dX5_readStatement_90 rfl rfl ?_
        refine w_getR dX5_readStatement_91 fl_5_25 okC5 kd_3 (by decide) (by decide) rfl rf_3_0 ?_
        refine w_ldcS (j := 3) (tx := "price") dX5_readStatement_94 (by decide +kernel) ?_
        refine w_callV (st := []) (As := [.retAddr (2 * 3 + 1)]) dX5_readStatement_96 ml_5_56 okX9_isWord kd_1 (by decide) rfl rfl rfl (Nat.le_of_ble_eq_true rfl) (by decide) (Nat.le_of_ble_eq_true rfl) (wc_i H (fun r8 I7 H => ?_))
        refine w_if_eq (t := 139) dX5_readStatement_99 (by decide) (fun h => ?_) (fun h => ?_)
        · replace H := H.1 h
          refine w_aload_n dX5_readStatement_139 rfl rfl ?_
          refine w_getR dX5_readStatement_140 fl_5_25 okC5 kd_3 (by decide) (by decide) rfl rf_3_0 ?_
          refine w_ldcS (j := 4) (tx := "street") dX5_readStatement_143 (by decide +kernel) ?_
          refine w_callV (st := []) (As := [.retAddr (2 * 4 + 1)]) dX5_readStatement_145 ml_5_56 okX9_isWord kd_1 (by decide) rfl rfl rfl (Nat.le_of_ble_eq_true rfl) (by decide) (Nat.le_of_ble_eq_true rfl) (wc_i H (fun r10 I9 H => ?_))
          refine w_if_eq (t := 158) dX5_readStatement_148 (by decide) (fun h => ?_) (fun h => ?_)
          · replace H := H.1 h
            refine w_aload_n dX5_readStatement_158 rfl rfl ?_
            refine w_getR dX5_readStatement_159 fl_5_25 okC5 kd_3 (by decide) (by decide) rfl rf_3_0 ?_
            refine w_ldcS (j := 5) (tx := "house") dX5_readStatement_162 (by decide +kernel) ?_
            refine w_callV (st := []) (As := [.retAddr (2 * 5 + 1)]) dX5_readStatement_164 ml_5_56 okX9_isWord kd_1 (by decide) rfl rfl rfl (Nat.le_of_ble_eq_true rfl) (by decide) (Nat.le_of_ble_eq_true rfl) (wc_i H (fun r12 I11 H => ?_))
            refine w_if_eq (t := 177) dX5_readStatement_167 (by decide) (fun h => ?_) (fun h => ?_)
            · replace H := H.1 h
              refine w_aload_n dX5_readStatement_177 rfl rfl ?_
              refine w_aload_n dX5_readStatement_178 rfl rfl ?_
              refine w_getR dX5_readStatement_179 fl_5_25 okC5 kd_3 (by decide) (by decide) rfl rf_3_0 ?_
              refine w_getI dX5_readStatement_182 fl_5_96 okC9 kd_1 (by decide) (by decide) rfl ?_
              refine w_iconst (v := 1) dX5_readStatement_185 (by decide) ?_
              refine w_callV (st := []) (As := [.int (I11 1 3), .int 1]) dX5_readStatement_186 ml_5_97 okX5_fail kd_3 (by decide) rfl rfl rfl (Nat.le_of_ble_eq_true rfl) (by decide) (Nat.le_of_ble_eq_true rfl) (wc_v H (fun I13 H => ?_))
              exact w_vret dX5_readStatement_189 rfl ⟨rfl, H⟩
            · replace H := H.2 h
              refine w_aload_n dX5_readStatement_170 rfl rfl ?_
              refine w_callV (st := []) (As := []) dX5_readStatement_171 ml_5_93 okX5_readHouse kd_3 (by decide) rfl rfl rfl (Nat.le_of_ble_eq_true rfl) (by decide) (Nat.le_of_ble_eq_true rfl) (wc_v H (fun I13 H => ?_))
              refine w_goto (t := 189) dX5_readStatement_174 (by decide) ?_
              exact w_vret dX5_readStatement_189 rfl ⟨rfl, H⟩
          · replace H := H.2 h
            refine w_aload_n dX5_readStatement_151 rfl rfl ?_
            refine w_callV (st := []) (As := []) dX5_readStatement_152 ml_5_88 okX5_readStreet kd_3 (by decide) rfl rfl rfl (Nat.le_of_ble_eq_true rfl) (by decide) (Nat.le_of_ble_eq_true rfl) (wc_v H (fun I11 H => ?_))
            refine w_goto (t := 189) dX5_readStatement_155 (by decide) ?_
            exact w_vret dX5_readStatement_189 rfl ⟨rfl, H⟩
        · replace H := H.2 h
          refine w_aload_n dX5_readStatement_102 rfl rfl ?_
          refine w_bipush (v := 8) dX5_readStatement_103 (by decide) ?_
          refine w_callV (st := []) (As := [.int 8]) dX5_readStatement_105 ml_5_65 okX5_takeOnce kd_3 (by decide) rfl rfl rfl (Nat.le_of_ble_eq_true rfl) (by decide) (Nat.le_of_ble_eq_true rfl) (wc_v H (fun I9 H => ?_))
          refine w_aload_n dX5_readStatement_108 rfl rfl ?_
          refine w_getR dX5_readStatement_109 fl_5_12 okC5 kd_3 (by decide) (by decide) rfl rf_3_1 ?_
          refine w_aload_n dX5_readStatement_112 rfl rfl ?_
          refine w_iconst (v := 0) dX5_readStatement_113 (by decide) ?_
          refine w_bipush (v := 99) dX5_readStatement_114 (by decide) ?_
          refine w_callV (st := [.ref 4]) (As := [.int 0, .int 99]) dX5_readStatement_116 ml_5_68 okX5_readNumber kd_3 (by decide) rfl rfl rfl (Nat.le_of_ble_eq_true rfl) (by decide) (Nat.le_of_ble_eq_true rfl) (wc_i H (fun r11 I10 H => ?_))
          refine w_putI dX5_readStatement_119 fl_5_81 okC6 kd_4 (by decide) (by decide) rfl rfl rfl (w_up fun I12 hI => ?_)
          replace H := H I12 hI
          refine w_aload_n dX5_readStatement_122 rfl rfl ?_
          refine w_getR dX5_readStatement_123 fl_5_12 okC5 kd_3 (by decide) (by decide) rfl rf_3_1 ?_
          refine w_aload_n dX5_readStatement_126 rfl rfl ?_
          refine w_iconst (v := 0) dX5_readStatement_127 (by decide) ?_
          refine w_bipush (v := 99) dX5_readStatement_128 (by decide) ?_
          refine w_callV (st := [.ref 4]) (As := [.int 0, .int 99]) dX5_readStatement_130 ml_5_68 okX5_readNumber kd_3 (by decide) rfl rfl rfl (Nat.le_of_ble_eq_true rfl) (by decide) (Nat.le_of_ble_eq_true rfl) (wc_i H (fun r14 I13 H => ?_))
          refine w_putI dX5_readStatement_133 fl_5_83 okC6 kd_4 (by decide) (by decide) rfl rfl rfl (w_up fun I15 hI => ?_)
          replace H := H I15 hI
          refine w_goto (t := 189) dX5_readStatement_136 (by decide) ?_
          exact w_vret dX5_readStatement_189 rfl ⟨rfl, H⟩
      · replace H := H.2 h
        refine w_aload_n dX5_readStatement_67 rfl rfl ?_
        refine w_iconst (v := 4) dX5_readStatement_68 (by decide) ?_
        refine w_callV (st := []) (As := [.int 4]) dX5_readStatement_69 ml_5_65 okX5_takeOnce kd_3 (by decide) rfl rfl rfl (Nat.le_of_ble_eq_true rfl) (by decide) (Nat.le_of_ble_eq_true rfl) (wc_v H (fun I7 H => ?_))
        refine w_aload_n dX5_readStatement_72 rfl rfl ?_
        refine w_getR dX5_readStatement_73 fl_5_12 okC5 kd_3 (by decide) (by decide) rfl rf_3_1 ?_
        refine w_aload_n dX5_readStatement_76 rfl rfl ?_
        refine w_iconst (v := 0) dX5_readStatement_77 (by decide) ?_
        refine w_sipush (v := 1439) dX5_readStatement_78 (by decide) ?_
        refine w_callV (st := [.ref 4]) (As := [.int 0, .int 1439]) dX5_readStatement_81 ml_5_68 okX5_readNumber kd_3 (by decide) rfl rfl rfl (Nat.le_of_ble_eq_true rfl) (by decide) (Nat.le_of_ble_eq_true rfl) (wc_i H (fun r9 I8 H => ?_))
        refine w_putI dX5_readStatement_84 fl_5_77 okC6 kd_4 (by decide) (by decide) rfl rfl rfl (w_up fun I10 hI => ?_)
        replace H := H I10 hI
        refine w_goto (t := 189) dX5_readStatement_87 (by decide) ?_
        exact w_vret dX5_readStatement_189 rfl ⟨rfl, H⟩
    · replace H := H.2 h
      refine w_aload_n dX5_readStatement_31 rfl rfl ?_
      refine w_iconst (v := 2) dX5_readStatement_32 (by decide) ?_
      refine w_callV (st := []) (As := [.int 2]) dX5_readStatement_33 ml_5_65 okX5_takeOnce kd_3 (by decide) rfl rfl rfl (Nat.le_of_ble_eq_true rfl) (by decide) (Nat.le_of_ble_eq_true rfl) (wc_v H (fun I5 H => ?_))
      refine w_aload_n dX5_readStatement_36 rfl rfl ?_
      refine w_getR dX5_readStatement_37 fl_5_12 okC5 kd_3 (by decide) (by decide) rfl rf_3_1 ?_
      refine w_aload_n dX5_readStatement_40 rfl rfl ?_
      refine w_bipush (v := 10) dX5_readStatement_41 (by decide) ?_
      refine w_sipush (v := 200) dX5_readStatement_43 (by decide) ?_
      refine w_callV (st := [.ref 4]) (As := [.int 10, .int 200]) dX5_readStatement_46 ml_5_68 okX5_readNumber kd_3 (by decide) rfl rfl rfl (Nat.le_of_ble_eq_true rfl) (by decide) (Nat.le_of_ble_eq_true rfl) (wc_i H (fun r7 I6 H => ?_))
      refine w_putI dX5_readStatement_49 fl_5_72 okC6 kd_4 (by decide) (by decide) rfl rfl rfl (w_up fun I8 hI => ?_)
      replace H := H I8 hI
      refine w_goto (t := 189) dX5_readStatement_52 (by decide) ?_
      exact w_vret dX5_readStatement_189 rfl ⟨rfl, H⟩
  · replace H := H.2 h
    refine w_aload_n dX5_readStatement_12 rfl rfl ?_
    refine w_callV (st := []) (As := []) dX5_readStatement_13 ml_5_60 okX5_readNodes kd_3 (by decide) rfl rfl rfl (Nat.le_of_ble_eq_true rfl) (by decide) (Nat.le_of_ble_eq_true rfl) (wc_v H (fun I3 H => ?_))
    refine w_goto (t := 189) dX5_readStatement_16 (by decide) ?_
    exact w_vret dX5_readStatement_189 rfl ⟨rfl, H⟩
theorem dX5_readNodes_0 : decode cX5_readNodes 0 = .ok (.aload_n 0, 1) := by decide +kernel
theorem dX5_readNodes_1 : decode cX5_readNodes 1 = .ok (.getfield 12, 3) := by decide +kernel
theorem dX5_readNodes_4 : decode cX5_readNodes 4 = .ok (.getfield 101, 3) := by decide +kernel
theorem dX5_readNodes_7 : decode cX5_readNodes 7 = .ok (.ifCond .gt 13, 3) := by decide +kernel
theorem dX5_readNodes_10 : decode cX5_readNodes 10 = .ok (.aload_n 0, 1) := by decide +kernel
theorem dX5_readNodes_11 : decode cX5_readNodes 11 = .ok (.getfield 12, 3) := by decide +kernel
theorem dX5_readNodes_14 : decode cX5_readNodes 14 = .ok (.getfield 104, 3) := by decide +kernel
theorem dX5_readNodes_17 : decode cX5_readNodes 17 = .ok (.ifCond .le 15, 3) := by decide +kernel
theorem dX5_readNodes_20 : decode cX5_readNodes 20 = .ok (.aload_n 0, 1) := by decide +kernel
theorem dX5_readNodes_21 : decode cX5_readNodes 21 = .ok (.aload_n 0, 1) := by decide +kernel
theorem dX5_readNodes_22 : decode cX5_readNodes 22 = .ok (.getfield 25, 3) := by decide +kernel
theorem dX5_readNodes_25 : decode cX5_readNodes 25 = .ok (.getfield 96, 3) := by decide +kernel
theorem dX5_readNodes_28 : decode cX5_readNodes 28 = .ok (.iconst 1, 1) := by decide +kernel
theorem dX5_readNodes_29 : decode cX5_readNodes 29 = .ok (.invokevirtual 97, 3) := by decide +kernel
theorem dX5_readNodes_32 : decode cX5_readNodes 32 = .ok (.aload_n 0, 1) := by decide +kernel
theorem dX5_readNodes_33 : decode cX5_readNodes 33 = .ok (.iconst 1, 1) := by decide +kernel
theorem dX5_readNodes_34 : decode cX5_readNodes 34 = .ok (.invokevirtual 65, 3) := by decide +kernel
theorem dX5_readNodes_37 : decode cX5_readNodes 37 = .ok (.aload_n 0, 1) := by decide +kernel
theorem dX5_readNodes_38 : decode cX5_readNodes 38 = .ok (.getfield 12, 3) := by decide +kernel
theorem dX5_readNodes_41 : decode cX5_readNodes 41 = .ok (.aload_n 0, 1) := by decide +kernel
theorem dX5_readNodes_42 : decode cX5_readNodes 42 = .ok (.iconst 2, 1) := by decide +kernel
theorem dX5_readNodes_43 : decode cX5_readNodes 43 = .ok (.bipush 10, 2) := by decide +kernel
theorem dX5_readNodes_45 : decode cX5_readNodes 45 = .ok (.invokevirtual 68, 3) := by decide +kernel
theorem dX5_readNodes_48 : decode cX5_readNodes 48 = .ok (.putfield 107, 3) := by decide +kernel
theorem dX5_readNodes_51 : decode cX5_readNodes 51 = .ok (.return_, 1) := by decide +kernel
abbrev LX5_readNodes_20 (I : MI) (Q : MI → Prop) : Prop := WP mX5_readNodes 286 Rf0 20 [some (.ref 3)] [] I (qv Q)
abbrev LX5_readNodes_32 (I : MI) (Q : MI → Prop) : Prop := WP mX5_readNodes 286 Rf0 32 [some (.ref 3)] [] I (qv Q)
set_option maxRecDepth 20000 in
theorem rX5_readNodes_20 {I : MI} {Q : MI → Prop} (H : (Wv mX5_fail [.ref 3, .int (I 1 3), .int 1] I (fun I1 => (LX5_readNodes_32  I1 Q)))) : LX5_readNodes_20  I Q := by
  show WP mX5_readNodes 286 Rf0 20 [some (.ref 3)] [] I (qv Q)
  refine w_aload_n dX5_readNodes_20 rfl rfl ?_
  refine w_aload_n dX5_readNodes_21 rfl rfl ?_
  refine w_getR dX5_readNodes_22 fl_5_25 okC5 kd_3 (by decide) (by decide) rfl rf_3_0 ?_
  refine w_getI dX5_readNodes_25 fl_5_96 okC9 kd_1 (by decide) (by decide) rfl ?_
  refine w_iconst (v := 1) dX5_readNodes_28 (by decide) ?_
  refine w_callV (st := []) (As := [.int (I 1 3), .int 1]) dX5_readNodes_29 ml_5_97 okX5_fail kd_3 (by decide) rfl rfl rfl (Nat.le_of_ble_eq_true rfl) (by decide) (Nat.le_of_ble_eq_true rfl) (wc_v H (fun I1 H => ?_))
  skip
  exact H
set_option maxRecDepth 20000 in
theorem rX5_readNodes_32 {I : MI} {Q : MI → Prop} (H : (Wv mX5_takeOnce [.ref 3, .int 1] I (fun I1 => (Wi mX5_readNumber [.ref 3, .int 2, .int 10] I1 (fun r3 I2 => (∀ I4 : MI, I4 = up2 I2 4 0 r3 → Q I4)))))) : LX5_readNodes_32  I Q := by
  show WP mX5_readNodes 286 Rf0 32 [some (.ref 3)] [] I (qv Q)
  refine w_aload_n dX5_readNodes_32 rfl rfl ?_
  refine w_iconst (v := 1) dX5_readNodes_33 (by decide) ?_
  refine w_callV (st := []) (As := [.int 1]) dX5_readNodes_34 ml_5_65 okX5_takeOnce kd_3 (by decide) rfl rfl rfl (Nat.le_of_ble_eq_true rfl) (by decide) (Nat.le_of_ble_eq_true rfl) (wc_v H (fun I1 H => ?_))
  refine w_aload_n dX5_readNodes_37 rfl rfl ?_
  refine w_getR dX5_readNodes_38 fl_5_12 okC5 kd_3 (by decide) (by decide) rfl rf_3_1 ?_
  refine w_aload_n dX5_readNodes_41 rfl rfl ?_
  refine w_iconst (v := 2) dX5_readNodes_42 (by decide) ?_
  refine w_bipush (v := 10) dX5_readNodes_43 (by decide) ?_
  refine w_callV (st := [.ref 4]) (As := [.int 2, .int 10]) dX5_readNodes_45 ml_5_68 okX5_readNumber kd_3 (by decide) rfl rfl rfl (Nat.le_of_ble_eq_true rfl) (by decide) (Nat.le_of_ble_eq_true rfl) (wc_i H (fun r3 I2 H => ?_))
  refine w_putI dX5_readNodes_48 fl_5_107 okC6 kd_4 (by decide) (by decide) rfl rfl rfl (w_up fun I4 hI => ?_)
  replace H := H I4 hI
  exact w_vret dX5_readNodes_51 rfl ⟨rfl, H⟩
set_option maxRecDepth 20000 in
theorem rX5_readNodes {I : MI} {Q : MI → Prop} (H : ((0 < (I 4 1) → (LX5_readNodes_20  I Q)) ∧ (¬ 0 < (I 4 1) → (((I 4 2) ≤ 0 → (LX5_readNodes_32  I Q)) ∧ (¬ (I 4 2) ≤ 0 → (LX5_readNodes_20  I Q)))))) : Wv mX5_readNodes [.ref 3] I Q := by
  show WP mX5_readNodes 286 Rf0 0 [some (.ref 3)] [] I (qv Q)
  refine w_aload_n dX5_readNodes_0 rfl rfl ?_
  refine w_getR dX5_readNodes_1 fl_5_12 okC5 kd_3 (by decide) (by decide) rfl rf_3_1 ?_
  refine w_getI dX5_readNodes_4 fl_5_101 okC6 kd_4 (by decide) (by decide) rfl ?_
  refine w_if_gt (t := 20) dX5_readNodes_7 (by decide) (fun h => ?_) (fun h => ?_)
  · replace H := H.1 h
    skip
    exact H
  · replace H := H.2 h
    refine w_aload_n dX5_readNodes_10 rfl rfl ?_
    refine w_getR dX5_readNodes_11 fl_5_12 okC5 kd_3 (by decide) (by decide) rfl rf_3_1 ?_
    refine w_getI dX5_readNodes_14 fl_5_104 okC6 kd_4 (by decide) (by decide) rfl ?_
    refine w_if_le (t := 32) dX5_readNodes_17 (by decide) (fun h => ?_) (fun h => ?_)
    · replace H := H.1 h
      skip
      exact H
    · replace H := H.2 h
      skip
      exact H
theorem dX5_readStreet_0 : decode cX5_readStreet 0 = .ok (.aload_n 0, 1) := by decide +kernel
theorem dX5_readStreet_1 : decode cX5_readStreet 1 = .ok (.getfield 12, 3) := by decide +kernel
theorem dX5_readStreet_4 : decode cX5_readStreet 4 = .ok (.getfield 101, 3) := by decide +kernel
theorem dX5_readStreet_7 : decode cX5_readStreet 7 = .ok (.istore_n 1, 1) := by decide +kernel
theorem dX5_readStreet_8 : decode cX5_readStreet 8 = .ok (.iload_n 1, 1) := by decide +kernel
theorem dX5_readStreet_9 : decode cX5_readStreet 9 = .ok (.bipush 18, 2) := by decide +kernel
theorem dX5_readStreet_11 : decode cX5_readStreet 11 = .ok (.if_icmp .lt 16, 3) := by decide +kernel
theorem dX5_readStreet_14 : decode cX5_readStreet 14 = .ok (.aload_n 0, 1) := by decide +kernel
theorem dX5_readStreet_15 : decode cX5_readStreet 15 = .ok (.aload_n 0, 1) := by decide +kernel
theorem dX5_readStreet_16 : decode cX5_readStreet 16 = .ok (.getfield 25, 3) := by decide +kernel
theorem dX5_readStreet_19 : decode cX5_readStreet 19 = .ok (.getfield 96, 3) := by decide +kernel
theorem dX5_readStreet_22 : decode cX5_readStreet 22 = .ok (.iconst 4, 1) := by decide +kernel
theorem dX5_readStreet_23 : decode cX5_readStreet 23 = .ok (.invokevirtual 97, 3) := by decide +kernel
theorem dX5_readStreet_26 : decode cX5_readStreet 26 = .ok (.return_, 1) := by decide +kernel
theorem dX5_readStreet_27 : decode cX5_readStreet 27 = .ok (.aload_n 0, 1) := by decide +kernel
theorem dX5_readStreet_28 : decode cX5_readStreet 28 = .ok (.getfield 25, 3) := by decide +kernel
theorem dX5_readStreet_31 : decode cX5_readStreet 31 = .ok (.invokevirtual 110, 3) := by decide +kernel
theorem dX5_readStreet_34 : decode cX5_readStreet 34 = .ok (.aload_n 0, 1) := by decide +kernel
theorem dX5_readStreet_35 : decode cX5_readStreet 35 = .ok (.iconst 0, 1) := by decide +kernel
theorem dX5_readStreet_36 : decode cX5_readStreet 36 = .ok (.aload_n 0, 1) := by decide +kernel
theorem dX5_readStreet_37 : decode cX5_readStreet 37 = .ok (.getfield 12, 3) := by decide +kernel
theorem dX5_readStreet_40 : decode cX5_readStreet 40 = .ok (.getfield 107, 3) := by decide +kernel
theorem dX5_readStreet_43 : decode cX5_readStreet 43 = .ok (.iconst 1, 1) := by decide +kernel
theorem dX5_readStreet_44 : decode cX5_readStreet 44 = .ok (.isub, 1) := by decide +kernel
theorem dX5_readStreet_45 : decode cX5_readStreet 45 = .ok (.invokevirtual 68, 3) := by decide +kernel
theorem dX5_readStreet_48 : decode cX5_readStreet 48 = .ok (.istore_n 2, 1) := by decide +kernel
theorem dX5_readStreet_49 : decode cX5_readStreet 49 = .ok (.aload_n 0, 1) := by decide +kernel
theorem dX5_readStreet_50 : decode cX5_readStreet 50 = .ok (.getfield 25, 3) := by decide +kernel
theorem dX5_readStreet_53 : decode cX5_readStreet 53 = .ok (.getfield 96, 3) := by decide +kernel
theorem dX5_readStreet_56 : decode cX5_readStreet 56 = .ok (.istore_n 3, 1) := by decide +kernel
theorem dX5_readStreet_57 : decode cX5_readStreet 57 = .ok (.aload_n 0, 1) := by decide +kernel
theorem dX5_readStreet_58 : decode cX5_readStreet 58 = .ok (.iconst 0, 1) := by decide +kernel
theorem dX5_readStreet_59 : decode cX5_readStreet 59 = .ok (.aload_n 0, 1) := by decide +kernel
theorem dX5_readStreet_60 : decode cX5_readStreet 60 = .ok (.getfield 12, 3) := by decide +kernel
theorem dX5_readStreet_63 : decode cX5_readStreet 63 = .ok (.getfield 107, 3) := by decide +kernel
theorem dX5_readStreet_66 : decode cX5_readStreet 66 = .ok (.iconst 1, 1) := by decide +kernel
theorem dX5_readStreet_67 : decode cX5_readStreet 67 = .ok (.isub, 1) := by decide +kernel
theorem dX5_readStreet_68 : decode cX5_readStreet 68 = .ok (.invokevirtual 68, 3) := by decide +kernel
theorem dX5_readStreet_71 : decode cX5_readStreet 71 = .ok (.istore 4, 2) := by decide +kernel
theorem dX5_readStreet_73 : decode cX5_readStreet 73 = .ok (.iload 4, 2) := by decide +kernel
theorem dX5_readStreet_75 : decode cX5_readStreet 75 = .ok (.iload_n 2, 1) := by decide +kernel
theorem dX5_readStreet_76 : decode cX5_readStreet 76 = .ok (.if_icmp .eq 16, 3) := by decide +kernel
theorem dX5_readStreet_79 : decode cX5_readStreet 79 = .ok (.aload_n 0, 1) := by decide +kernel
theorem dX5_readStreet_80 : decode cX5_readStreet 80 = .ok (.getfield 12, 3) := by decide +kernel
theorem dX5_readStreet_83 : decode cX5_readStreet 83 = .ok (.iload_n 2, 1) := by decide +kernel
theorem dX5_readStreet_84 : decode cX5_readStreet 84 = .ok (.iload 4, 2) := by decide +kernel
theorem dX5_readStreet_86 : decode cX5_readStreet 86 = .ok (.invokevirtual 113, 3) := by decide +kernel
theorem dX5_readStreet_89 : decode cX5_readStreet 89 = .ok (.ifCond .eq 9, 3) := by decide +kernel
theorem dX5_readStreet_92 : decode cX5_readStreet 92 = .ok (.aload_n 0, 1) := by decide +kernel
theorem dX5_readStreet_93 : decode cX5_readStreet 93 = .ok (.iload_n 3, 1) := by decide +kernel
theorem dX5_readStreet_94 : decode cX5_readStreet 94 = .ok (.iconst 3, 1) := by decide +kernel
theorem dX5_readStreet_95 : decode cX5_readStreet 95 = .ok (.invokevirtual 97, 3) := by decide +kernel
theorem dX5_readStreet_98 : decode cX5_readStreet 98 = .ok (.aload_n 0, 1) := by decide +kernel
theorem dX5_readStreet_99 : decode cX5_readStreet 99 = .ok (.getfield 12, 3) := by decide +kernel
theorem dX5_readStreet_102 : decode cX5_readStreet 102 = .ok (.getfield 117, 3) := by decide +kernel
theorem dX5_readStreet_105 : decode cX5_readStreet 105 = .ok (.iload_n 1, 1) := by decide +kernel
theorem dX5_readStreet_106 : decode cX5_readStreet 106 = .ok (.iload_n 2, 1) := by decide +kernel
theorem dX5_readStreet_107 : decode cX5_readStreet 107 = .ok (.iastore, 1) := by decide +kernel
theorem dX5_readStreet_108 : decode cX5_readStreet 108 = .ok (.aload_n 0, 1) := by decide +kernel
theorem dX5_readStreet_109 : decode cX5_readStreet 109 = .ok (.getfield 12, 3) := by decide +kernel
theorem dX5_readStreet_112 : decode cX5_readStreet 112 = .ok (.getfield 121, 3) := by decide +kernel
theorem dX5_readStreet_115 : decode cX5_readStreet 115 = .ok (.iload_n 1, 1) := by decide +kernel
theorem dX5_readStreet_116 : decode cX5_readStreet 116 = .ok (.iload 4, 2) := by decide +kernel
theorem dX5_readStreet_118 : decode cX5_readStreet 118 = .ok (.iastore, 1) := by decide +kernel
theorem dX5_readStreet_119 : decode cX5_readStreet 119 = .ok (.aload_n 0, 1) := by decide +kernel
theorem dX5_readStreet_120 : decode cX5_readStreet 120 = .ok (.getfield 12, 3) := by decide +kernel
theorem dX5_readStreet_123 : decode cX5_readStreet 123 = .ok (.getfield 124, 3) := by decide +kernel
theorem dX5_readStreet_126 : decode cX5_readStreet 126 = .ok (.iload_n 1, 1) := by decide +kernel
theorem dX5_readStreet_127 : decode cX5_readStreet 127 = .ok (.aload_n 0, 1) := by decide +kernel
theorem dX5_readStreet_128 : decode cX5_readStreet 128 = .ok (.iconst 1, 1) := by decide +kernel
theorem dX5_readStreet_129 : decode cX5_readStreet 129 = .ok (.bipush 99, 2) := by decide +kernel
theorem dX5_readStreet_131 : decode cX5_readStreet 131 = .ok (.invokevirtual 68, 3) := by decide +kernel
theorem dX5_readStreet_134 : decode cX5_readStreet 134 = .ok (.iastore, 1) := by decide +kernel
theorem dX5_readStreet_135 : decode cX5_readStreet 135 = .ok (.aload_n 0, 1) := by decide +kernel
theorem dX5_readStreet_136 : decode cX5_readStreet 136 = .ok (.iload_n 1, 1) := by decide +kernel
theorem dX5_readStreet_137 : decode cX5_readStreet 137 = .ok (.invokevirtual 127, 3) := by decide +kernel
theorem dX5_readStreet_140 : decode cX5_readStreet 140 = .ok (.aload_n 0, 1) := by decide +kernel
theorem dX5_readStreet_141 : decode cX5_readStreet 141 = .ok (.getfield 12, 3) := by decide +kernel
theorem dX5_readStreet_144 : decode cX5_readStreet 144 = .ok (.dup, 1) := by decide +kernel
theorem dX5_readStreet_145 : decode cX5_readStreet 145 = .ok (.getfield 101, 3) := by decide +kernel
theorem dX5_readStreet_148 : decode cX5_readStreet 148 = .ok (.iconst 1, 1) := by decide +kernel
theorem dX5_readStreet_149 : decode cX5_readStreet 149 = .ok (.iadd, 1) := by decide +kernel
theorem dX5_readStreet_150 : decode cX5_readStreet 150 = .ok (.putfield 101, 3) := by decide +kernel
theorem dX5_readStreet_153 : decode cX5_readStreet 153 = .ok (.return_, 1) := by decide +kernel
abbrev LX5_readStreet_92 (l1 l2 l3 l4 : Int32) (I : MI) (Q : MI → Prop) : Prop := WP mX5_readStreet 286 Rf0 92 [some (.ref 3), some (.int l1), some (.int l2), some (.int l3), some (.int l4)] [] I (qv Q)
abbrev LX5_readStreet_98 (l1 l2 l3 l4 : Int32) (I : MI) (Q : MI → Prop) : Prop := WP mX5_readStreet 286 Rf0 98 [some (.ref 3), some (.int l1), some (.int l2), some (.int l3), some (.int l4)] [] I (qv Q)
set_option maxRecDepth 20000 in
theorem rX5_readStreet_92 {l1 l2 l3 l4 : Int32} {I : MI} {Q : MI → Prop} (H : (Wv mX5_fail [.ref 3, .int l3, .int 3] I (fun I1 => (LX5_readStreet_98 l1 l2 l3 l4 I1 Q)))) : LX5_readStreet_92 l1 l2 l3 l4 I Q := by
  show WP mX5_readStreet 286 Rf0 92 [some (.ref 3), some (.int l1), some (.int l2), some (.int l3), some (.int l4)] [] I (qv Q)
  refine w_aload_n dX5_readStreet_92 rfl rfl ?_
  refine w_iload_n dX5_readStreet_93 rfl rfl ?_
  refine w_iconst (v := 3) dX5_readStreet_94 (by decide) ?_
  refine w_callV (st := []) (As := [.int l3, .int 3]) dX5_readStreet_95 ml_5_97 okX5_fail kd_3 (by decide) rfl rfl rfl (Nat.le_of_ble_eq_true rfl) (by decide) (Nat.le_of_ble_eq_true rfl) (wc_v H (fun I1 H => ?_))
  skip
  exact H
set_option maxRecDepth 20000 in
theorem rX5_readStreet_98 {l1 l2 l3 l4 : Int32} {I : MI} {Q : MI → Prop} (H : (vp_in l1 18 ∧ ∀ I1 : MI, I1 = up2 I 5 l1.toNatClampNeg l2 → vp_in l1 18 ∧ ∀ I2 : MI, I2 = up2 I1 6 l1.toNatClampNeg l4 → Wi mX5_readNumber [.ref 3, .int 1, .int 99] I2 (fun r4 I3 => (vp_in l1 18 ∧ ∀ I5 : MI, I5 = up2 I3 7 l1.toNatClampNeg r4 → Wv mX5_readGate [.ref 3, .int l1] I5 (fun I6 => (∀ I7 : MI, I7 = up2 I6 4 1 ((I6 4 1) + 1) → Q I7)))))) : LX5_readStreet_98 l1 l2 l3 l4 I Q := by
  show WP mX5_readStreet 286 Rf0 98 [some (.ref 3), some (.int l1), some (.int l2), some (.int l3), some (.int l4)] [] I (qv Q)
  refine w_aload_n dX5_readStreet_98 rfl rfl ?_
  refine w_getR dX5_readStreet_99 fl_5_12 okC5 kd_3 (by decide) (by decide) rfl rf_3_1 ?_
  refine w_getR dX5_readStreet_102 fl_5_117 okC6 kd_4 (by decide) (by decide) rfl rf_4_7 ?_
  refine w_iload_n dX5_readStreet_105 rfl rfl ?_
  refine w_iload_n dX5_readStreet_106 rfl rfl ?_
  refine w_iast dX5_readStreet_107 kd_5 (by decide) H.1 (w_up fun I1 hI => ?_)
  replace H := H.2 I1 hI
  refine w_aload_n dX5_readStreet_108 rfl rfl ?_
  refine w_getR dX5_readStreet_109 fl_5_12 okC5 kd_3 (by decide) (by decide) rfl rf_3_1 ?_
  refine w_getR dX5_readStreet_112 fl_5_121 okC6 kd_4 (by decide) (by decide) rfl rf_4_8 ?_
  refine w_iload_n dX5_readStreet_115 rfl rfl ?_
  refine w_iload dX5_readStreet_116 rfl ?_
  refine w_iast dX5_readStreet_118 kd_6 (by decide) H.1 (w_up fun I2 hI => ?_)
  replace H := H.2 I2 hI
  refine w_aload_n dX5_readStreet_119 rfl rfl ?_
  refine w_getR dX5_readStreet_120 fl_5_12 okC5 kd_3 (by decide) (by decide) rfl rf_3_1 ?_
  refine w_getR dX5_readStreet_123 fl_5_124 okC6 kd_4 (by decide) (by decide) rfl rf_4_9 ?_
  refine w_iload_n dX5_readStreet_126 rfl rfl ?_
  refine w_aload_n dX5_readStreet_127 rfl rfl ?_
  refine w_iconst (v := 1) dX5_readStreet_128 (by decide) ?_
  refine w_bipush (v := 99) dX5_readStreet_129 (by decide) ?_
  refine w_callV (st := [.int l1, .ref 7]) (As := [.int 1, .int 99]) dX5_readStreet_131 ml_5_68 okX5_readNumber kd_3 (by decide) rfl rfl rfl (Nat.le_of_ble_eq_true rfl) (by decide) (Nat.le_of_ble_eq_true rfl) (wc_i H (fun r4 I3 H => ?_))
  refine w_iast dX5_readStreet_134 kd_7 (by decide) H.1 (w_up fun I5 hI => ?_)
  replace H := H.2 I5 hI
  refine w_aload_n dX5_readStreet_135 rfl rfl ?_
  refine w_iload_n dX5_readStreet_136 rfl rfl ?_
  refine w_callV (st := []) (As := [.int l1]) dX5_readStreet_137 ml_5_127 okX5_readGate kd_3 (by decide) rfl rfl rfl (Nat.le_of_ble_eq_true rfl) (by decide) (Nat.le_of_ble_eq_true rfl) (wc_v H (fun I6 H => ?_))
  refine w_aload_n dX5_readStreet_140 rfl rfl ?_
  refine w_getR dX5_readStreet_141 fl_5_12 okC5 kd_3 (by decide) (by decide) rfl rf_3_1 ?_
  refine w_dup dX5_readStreet_144 rfl ?_
  refine w_getI dX5_readStreet_145 fl_5_101 okC6 kd_4 (by decide) (by decide) rfl ?_
  refine w_iconst (v := 1) dX5_readStreet_148 (by decide) ?_
  refine w_iadd dX5_readStreet_149 ?_
  refine w_putI dX5_readStreet_150 fl_5_101 okC6 kd_4 (by decide) (by decide) rfl rfl rfl (w_up fun I7 hI => ?_)
  replace H := H I7 hI
  exact w_vret dX5_readStreet_153 rfl ⟨rfl, H⟩
set_option maxRecDepth 20000 in
theorem rX5_readStreet {I : MI} {Q : MI → Prop} (H : (((I 4 1) < 18 → (Wv mX9_advance [.ref 1] I (fun I1 => (Wi mX5_readNumber [.ref 3, .int 0, .int ((I1 4 0) - 1)] I1 (fun r3 I2 => (Wi mX5_readNumber [.ref 3, .int 0, .int ((I2 4 0) - 1)] I2 (fun r5 I4 => ((r5 = r3 → (LX5_readStreet_92 (I 4 1) r3 (I2 1 3) r5 I4 Q)) ∧ (¬ r5 = r3 → (Wi mX6_joins [.ref 4, .int r3, .int r5] I4 (fun r7 I6 => ((r7 = 0 → (LX5_readStreet_98 (I 4 1) r3 (I2 1 3) r5 I6 Q)) ∧ (¬ r7 = 0 → (LX5_readStreet_92 (I 4 1) r3 (I2 1 3) r5 I6 Q)))))))))))))) ∧ (¬ (I 4 1) < 18 → (Wv mX5_fail [.ref 3, .int (I 1 3), .int 4] I (fun I1 => (Q I1)))))) : Wv mX5_readStreet [.ref 3] I Q := by
  show WP mX5_readStreet 286 Rf0 0 [some (.ref 3), none, none, none, none] [] I (qv Q)
  refine w_aload_n dX5_readStreet_0 rfl rfl ?_
  refine w_getR dX5_readStreet_1 fl_5_12 okC5 kd_3 (by decide) (by decide) rfl rf_3_1 ?_
  refine w_getI dX5_readStreet_4 fl_5_101 okC6 kd_4 (by decide) (by decide) rfl ?_
  refine w_istore_n (ls' := [some (.ref 3), some (.int (I 4 1)), none, none, none]) dX5_readStreet_7 rfl (by decide) rfl rfl ?_
  refine w_iload_n dX5_readStreet_8 rfl rfl ?_
  refine w_bipush (v := 18) dX5_readStreet_9 (by decide) ?_
  refine w_icmp_lt (t := 27) dX5_readStreet_11 (by decide) (fun h => ?_) (fun h => ?_)
  · replace H := H.1 h
    refine w_aload_n dX5_readStreet_27 rfl rfl ?_
    refine w_getR dX5_readStreet_28 fl_5_25 okC5 kd_3 (by decide) (by decide) rfl rf_3_0 ?_
    refine w_callV (st := []) (As := []) dX5_readStreet_31 ml_5_110 okX9_advance kd_1 (by decide) rfl rfl rfl (Nat.le_of_ble_eq_true rfl) (by decide) (Nat.le_of_ble_eq_true rfl) (wc_v H (fun I1 H => ?_))
    refine w_aload_n dX5_readStreet_34 rfl rfl ?_
    refine w_iconst (v := 0) dX5_readStreet_35 (by decide) ?_
    refine w_aload_n dX5_readStreet_36 rfl rfl ?_
    refine w_getR dX5_readStreet_37 fl_5_12 okC5 kd_3 (by decide) (by decide) rfl rf_3_1 ?_
    refine w_getI dX5_readStreet_40 fl_5_107 okC6 kd_4 (by decide) (by decide) rfl ?_
    refine w_iconst (v := 1) dX5_readStreet_43 (by decide) ?_
    refine w_isub dX5_readStreet_44 ?_
    refine w_callV (st := []) (As := [.int 0, .int ((I1 4 0) - 1)]) dX5_readStreet_45 ml_5_68 okX5_readNumber kd_3 (by decide) rfl rfl rfl (Nat.le_of_ble_eq_true rfl) (by decide) (Nat.le_of_ble_eq_true rfl) (wc_i H (fun r3 I2 H => ?_))
    refine w_istore_n (ls' := [some (.ref 3), some (.int (I 4 1)), some (.int r3), none, none]) dX5_readStreet_48 rfl (by decide) rfl rfl ?_
    refine w_aload_n dX5_readStreet_49 rfl rfl ?_
    refine w_getR dX5_readStreet_50 fl_5_25 okC5 kd_3 (by decide) (by decide) rfl rf_3_0 ?_
    refine w_getI dX5_readStreet_53 fl_5_96 okC9 kd_1 (by decide) (by decide) rfl ?_
    refine w_istore_n (ls' := [some (.ref 3), some (.int (I 4 1)), some (.int r3), some (.int (I2 1 3)), none]) dX5_readStreet_56 rfl (by decide) rfl rfl ?_
    refine w_aload_n dX5_readStreet_57 rfl rfl ?_
    refine w_iconst (v := 0) dX5_readStreet_58 (by decide) ?_
    refine w_aload_n dX5_readStreet_59 rfl rfl ?_
    refine w_getR dX5_readStreet_60 fl_5_12 okC5 kd_3 (by decide) (by decide) rfl rf_3_1 ?_
    refine w_getI dX5_readStreet_63 fl_5_107 okC6 kd_4 (by decide) (by decide) rfl ?_
    refine w_iconst (v := 1) dX5_readStreet_66 (by decide) ?_
    refine w_isub dX5_readStreet_67 ?_
    refine w_callV (st := []) (As := [.int 0, .int ((I2 4 0) - 1)]) dX5_readStreet_68 ml_5_68 okX5_readNumber kd_3 (by decide) rfl rfl rfl (Nat.le_of_ble_eq_true rfl) (by decide) (Nat.le_of_ble_eq_true rfl) (wc_i H (fun r5 I4 H => ?_))
    refine w_istore (ls' := [some (.ref 3), some (.int (I 4 1)), some (.int r3), some (.int (I2 1 3)), some (.int r5)]) dX5_readStreet_71 (by decide) rfl rfl ?_
    refine w_iload dX5_readStreet_73 rfl ?_
    refine w_iload_n dX5_readStreet_75 rfl rfl ?_
    refine w_icmp_eq (t := 92) dX5_readStreet_76 (by decide) (fun h => ?_) (fun h => ?_)
    · replace H := H.1 h
      skip
      exact H
    · replace H := H.2 h
      refine w_aload_n dX5_readStreet_79 rfl rfl ?_
      refine w_getR dX5_readStreet_80 fl_5_12 okC5 kd_3 (by decide) (by decide) rfl rf_3_1 ?_
      refine w_iload_n dX5_readStreet_83 rfl rfl ?_
      refine w_iload dX5_readStreet_84 rfl ?_
      refine w_callV (st := []) (As := [.int r3, .int r5]) dX5_readStreet_86 ml_5_113 okX6_joins kd_4 (by decide) rfl rfl rfl (Nat.le_of_ble_eq_true rfl) (by decide) (Nat.le_of_ble_eq_true rfl) (wc_i H (fun r7 I6 H => ?_))
      refine w_if_eq (t := 98) dX5_readStreet_89 (by decide) (fun h => ?_) (fun h => ?_)
      · replace H := H.1 h
        skip
        exact H
      · replace H := H.2 h
        skip
        exact H
  · replace H := H.2 h
    refine w_aload_n dX5_readStreet_14 rfl rfl ?_
    refine w_aload_n dX5_readStreet_15 rfl rfl ?_
    refine w_getR dX5_readStreet_16 fl_5_25 okC5 kd_3 (by decide) (by decide) rfl rf_3_0 ?_
    refine w_getI dX5_readStreet_19 fl_5_96 okC9 kd_1 (by decide) (by decide) rfl ?_
    refine w_iconst (v := 4) dX5_readStreet_22 (by decide) ?_
    refine w_callV (st := []) (As := [.int (I 1 3), .int 4]) dX5_readStreet_23 ml_5_97 okX5_fail kd_3 (by decide) rfl rfl rfl (Nat.le_of_ble_eq_true rfl) (by decide) (Nat.le_of_ble_eq_true rfl) (wc_v H (fun I1 H => ?_))
    exact w_vret dX5_readStreet_26 rfl ⟨rfl, H⟩
theorem dX5_readGate_0 : decode cX5_readGate 0 = .ok (.aload_n 0, 1) := by decide +kernel
theorem dX5_readGate_1 : decode cX5_readGate 1 = .ok (.getfield 21, 3) := by decide +kernel
theorem dX5_readGate_4 : decode cX5_readGate 4 = .ok (.getfield 130, 3) := by decide +kernel
theorem dX5_readGate_7 : decode cX5_readGate 7 = .ok (.iload_n 1, 1) := by decide +kernel
theorem dX5_readGate_8 : decode cX5_readGate 8 = .ok (.iconst 0, 1) := by decide +kernel
theorem dX5_readGate_9 : decode cX5_readGate 9 = .ok (.iastore, 1) := by decide +kernel
theorem dX5_readGate_10 : decode cX5_readGate 10 = .ok (.aload_n 0, 1) := by decide +kernel
theorem dX5_readGate_11 : decode cX5_readGate 11 = .ok (.getfield 21, 3) := by decide +kernel
theorem dX5_readGate_14 : decode cX5_readGate 14 = .ok (.getfield 133, 3) := by decide +kernel
theorem dX5_readGate_17 : decode cX5_readGate 17 = .ok (.iload_n 1, 1) := by decide +kernel
theorem dX5_readGate_18 : decode cX5_readGate 18 = .ok (.iconst 0, 1) := by decide +kernel
theorem dX5_readGate_19 : decode cX5_readGate 19 = .ok (.iastore, 1) := by decide +kernel
theorem dX5_readGate_20 : decode cX5_readGate 20 = .ok (.aload_n 0, 1) := by decide +kernel
theorem dX5_readGate_21 : decode cX5_readGate 21 = .ok (.getfield 25, 3) := by decide +kernel
theorem dX5_readGate_24 : decode cX5_readGate 24 = .ok (.ldc 136, 2) := by decide +kernel
theorem dX5_readGate_26 : decode cX5_readGate 26 = .ok (.invokevirtual 56, 3) := by decide +kernel
theorem dX5_readGate_29 : decode cX5_readGate 29 = .ok (.ifCond .eq 54, 3) := by decide +kernel
theorem dX5_readGate_32 : decode cX5_readGate 32 = .ok (.aload_n 0, 1) := by decide +kernel
theorem dX5_readGate_33 : decode cX5_readGate 33 = .ok (.getfield 25, 3) := by decide +kernel
theorem dX5_readGate_36 : decode cX5_readGate 36 = .ok (.invokevirtual 110, 3) := by decide +kernel
theorem dX5_readGate_39 : decode cX5_readGate 39 = .ok (.aload_n 0, 1) := by decide +kernel
theorem dX5_readGate_40 : decode cX5_readGate 40 = .ok (.getfield 21, 3) := by decide +kernel
theorem dX5_readGate_43 : decode cX5_readGate 43 = .ok (.getfield 130, 3) := by decide +kernel
theorem dX5_readGate_46 : decode cX5_readGate 46 = .ok (.iload_n 1, 1) := by decide +kernel
theorem dX5_readGate_47 : decode cX5_readGate 47 = .ok (.aload_n 0, 1) := by decide +kernel
theorem dX5_readGate_48 : decode cX5_readGate 48 = .ok (.iconst 0, 1) := by decide +kernel
theorem dX5_readGate_49 : decode cX5_readGate 49 = .ok (.sipush 1439, 3) := by decide +kernel
theorem dX5_readGate_52 : decode cX5_readGate 52 = .ok (.invokevirtual 68, 3) := by decide +kernel
theorem dX5_readGate_55 : decode cX5_readGate 55 = .ok (.iastore, 1) := by decide +kernel
theorem dX5_readGate_56 : decode cX5_readGate 56 = .ok (.aload_n 0, 1) := by decide +kernel
theorem dX5_readGate_57 : decode cX5_readGate 57 = .ok (.getfield 21, 3) := by decide +kernel
theorem dX5_readGate_60 : decode cX5_readGate 60 = .ok (.getfield 133, 3) := by decide +kernel
theorem dX5_readGate_63 : decode cX5_readGate 63 = .ok (.iload_n 1, 1) := by decide +kernel
theorem dX5_readGate_64 : decode cX5_readGate 64 = .ok (.aload_n 0, 1) := by decide +kernel
theorem dX5_readGate_65 : decode cX5_readGate 65 = .ok (.aload_n 0, 1) := by decide +kernel
theorem dX5_readGate_66 : decode cX5_readGate 66 = .ok (.getfield 21, 3) := by decide +kernel
theorem dX5_readGate_69 : decode cX5_readGate 69 = .ok (.getfield 130, 3) := by decide +kernel
theorem dX5_readGate_72 : decode cX5_readGate 72 = .ok (.iload_n 1, 1) := by decide +kernel
theorem dX5_readGate_73 : decode cX5_readGate 73 = .ok (.iaload, 1) := by decide +kernel
theorem dX5_readGate_74 : decode cX5_readGate 74 = .ok (.iconst 1, 1) := by decide +kernel
theorem dX5_readGate_75 : decode cX5_readGate 75 = .ok (.iadd, 1) := by decide +kernel
theorem dX5_readGate_76 : decode cX5_readGate 76 = .ok (.sipush 1440, 3) := by decide +kernel
theorem dX5_readGate_79 : decode cX5_readGate 79 = .ok (.invokevirtual 68, 3) := by decide +kernel
theorem dX5_readGate_82 : decode cX5_readGate 82 = .ok (.iastore, 1) := by decide +kernel
theorem dX5_readGate_83 : decode cX5_readGate 83 = .ok (.return_, 1) := by decide +kernel
set_option maxRecDepth 20000 in
theorem rX5_readGate {a1 : Int32} {I : MI} {Q : MI → Prop} (H : (vp_in a1 18 ∧ ∀ I1 : MI, I1 = up2 I 13 a1.toNatClampNeg 0 → vp_in a1 18 ∧ ∀ I2 : MI, I2 = up2 I1 14 a1.toNatClampNeg 0 → Wi mX9_isWord [.ref 1, .retAddr (2 * 6 + 1)] I2 (fun r4 I3 => ((r4 = 0 → (Q I3)) ∧ (¬ r4 = 0 → (Wv mX9_advance [.ref 1] I3 (fun I5 => (Wi mX5_readNumber [.ref 3, .int 0, .int 1439] I5 (fun r7 I6 => (vp_in a1 18 ∧ ∀ I8 : MI, I8 = up2 I6 13 a1.toNatClampNeg r7 → vp_in a1 18 ∧ Wi mX5_readNumber [.ref 3, .int ((I8 13 a1.toNatClampNeg) + 1), .int 1440] I8 (fun r10 I9 => (vp_in a1 18 ∧ ∀ I11 : MI, I11 = up2 I9 14 a1.toNatClampNeg r10 → Q I11)))))))))))) : Wv mX5_readGate [.ref 3, .int a1] I Q := by
  show WP mX5_readGate 286 Rf0 0 [some (.ref 3), some (.int a1)] [] I (qv Q)
  refine w_aload_n dX5_readGate_0 rfl rfl ?_
  refine w_getR dX5_readGate_1 fl_5_21 okC5 kd_3 (by decide) (by decide) rfl rf_3_2 ?_
  refine w_getR dX5_readGate_4 fl_5_130 okC8 kd_10 (by decide) (by decide) rfl rf_10_4 ?_
  refine w_iload_n dX5_readGate_7 rfl rfl ?_
  refine w_iconst (v := 0) dX5_readGate_8 (by decide) ?_
  refine w_iast dX5_readGate_9 kd_13 (by decide) H.1 (w_up fun I1 hI => ?_)
  replace H := H.2 I1 hI
  refine w_aload_n dX5_readGate_10 rfl rfl ?_
  refine w_getR dX5_readGate_11 fl_5_21 okC5 kd_3 (by decide) (by decide) rfl rf_3_2 ?_
  refine w_getR dX5_readGate_14 fl_5_133 okC8 kd_10 (by decide) (by decide) rfl rf_10_5 ?_
  refine w_iload_n dX5_readGate_17 rfl rfl ?_
  refine w_iconst (v := 0) dX5_readGate_18 (by decide) ?_
  refine w_iast dX5_readGate_19 kd_14 (by decide) H.1 (w_up fun I2 hI => ?_)
  replace H := H.2 I2 hI
  refine w_aload_n dX5_readGate_20 rfl rfl ?_
  refine w_getR dX5_readGate_21 fl_5_25 okC5 kd_3 (by decide) (by decide) rfl rf_3_0 ?_
  refine w_ldcS (j := 6) (tx := "gate") dX5_readGate_24 (by decide +kernel) ?_
  refine w_callV (st := []) (As := [.retAddr (2 * 6 + 1)]) dX5_readGate_26 ml_5_56 okX9_isWord kd_1 (by decide) rfl rfl rfl (Nat.le_of_ble_eq_true rfl) (by decide) (Nat.le_of_ble_eq_true rfl) (wc_i H (fun r4 I3 H => ?_))
  refine w_if_eq (t := 83) dX5_readGate_29 (by decide) (fun h => ?_) (fun h => ?_)
  · replace H := H.1 h
    exact w_vret dX5_readGate_83 rfl ⟨rfl, H⟩
  · replace H := H.2 h
    refine w_aload_n dX5_readGate_32 rfl rfl ?_
    refine w_getR dX5_readGate_33 fl_5_25 okC5 kd_3 (by decide) (by decide) rfl rf_3_0 ?_
    refine w_callV (st := []) (As := []) dX5_readGate_36 ml_5_110 okX9_advance kd_1 (by decide) rfl rfl rfl (Nat.le_of_ble_eq_true rfl) (by decide) (Nat.le_of_ble_eq_true rfl) (wc_v H (fun I5 H => ?_))
    refine w_aload_n dX5_readGate_39 rfl rfl ?_
    refine w_getR dX5_readGate_40 fl_5_21 okC5 kd_3 (by decide) (by decide) rfl rf_3_2 ?_
    refine w_getR dX5_readGate_43 fl_5_130 okC8 kd_10 (by decide) (by decide) rfl rf_10_4 ?_
    refine w_iload_n dX5_readGate_46 rfl rfl ?_
    refine w_aload_n dX5_readGate_47 rfl rfl ?_
    refine w_iconst (v := 0) dX5_readGate_48 (by decide) ?_
    refine w_sipush (v := 1439) dX5_readGate_49 (by decide) ?_
    refine w_callV (st := [.int a1, .ref 13]) (As := [.int 0, .int 1439]) dX5_readGate_52 ml_5_68 okX5_readNumber kd_3 (by decide) rfl rfl rfl (Nat.le_of_ble_eq_true rfl) (by decide) (Nat.le_of_ble_eq_true rfl) (wc_i H (fun r7 I6 H => ?_))
    refine w_iast dX5_readGate_55 kd_13 (by decide) H.1 (w_up fun I8 hI => ?_)
    replace H := H.2 I8 hI
    refine w_aload_n dX5_readGate_56 rfl rfl ?_
    refine w_getR dX5_readGate_57 fl_5_21 okC5 kd_3 (by decide) (by decide) rfl rf_3_2 ?_
    refine w_getR dX5_readGate_60 fl_5_133 okC8 kd_10 (by decide) (by decide) rfl rf_10_5 ?_
    refine w_iload_n dX5_readGate_63 rfl rfl ?_
    refine w_aload_n dX5_readGate_64 rfl rfl ?_
    refine w_aload_n dX5_readGate_65 rfl rfl ?_
    refine w_getR dX5_readGate_66 fl_5_21 okC5 kd_3 (by decide) (by decide) rfl rf_3_2 ?_
    refine w_getR dX5_readGate_69 fl_5_130 okC8 kd_10 (by decide) (by decide) rfl rf_10_4 ?_
    refine w_iload_n dX5_readGate_72 rfl rfl ?_
    refine w_iald dX5_readGate_73 kd_13 (by decide) H.1 ?_
    replace H := H.2
    refine w_iconst (v := 1) dX5_readGate_74 (by decide) ?_
    refine w_iadd dX5_readGate_75 ?_
    refine w_sipush (v := 1440) dX5_readGate_76 (by decide) ?_
    refine w_callV (st := [.int a1, .ref 14]) (As := [.int ((I8 13 a1.toNatClampNeg) + 1), .int 1440]) dX5_readGate_79 ml_5_68 okX5_readNumber kd_3 (by decide) rfl rfl rfl (Nat.le_of_ble_eq_true rfl) (by decide) (Nat.le_of_ble_eq_true rfl) (wc_i H (fun r10 I9 H => ?_))
    refine w_iast dX5_readGate_82 kd_14 (by decide) H.1 (w_up fun I11 hI => ?_)
    replace H := H.2 I11 hI
    exact w_vret dX5_readGate_83 rfl ⟨rfl, H⟩
theorem dX5_readHouse_0 : decode cX5_readHouse 0 = .ok (.aload_n 0, 1) := by decide +kernel
theorem dX5_readHouse_1 : decode cX5_readHouse 1 = .ok (.getfield 12, 3) := by decide +kernel
theorem dX5_readHouse_4 : decode cX5_readHouse 4 = .ok (.getfield 104, 3) := by decide +kernel
theorem dX5_readHouse_7 : decode cX5_readHouse 7 = .ok (.istore_n 1, 1) := by decide +kernel
theorem dX5_readHouse_8 : decode cX5_readHouse 8 = .ok (.iload_n 1, 1) := by decide +kernel
theorem dX5_readHouse_9 : decode cX5_readHouse 9 = .ok (.bipush 12, 2) := by decide +kernel
theorem dX5_readHouse_11 : decode cX5_readHouse 11 = .ok (.if_icmp .lt 16, 3) := by decide +kernel
theorem dX5_readHouse_14 : decode cX5_readHouse 14 = .ok (.aload_n 0, 1) := by decide +kernel
theorem dX5_readHouse_15 : decode cX5_readHouse 15 = .ok (.aload_n 0, 1) := by decide +kernel
theorem dX5_readHouse_16 : decode cX5_readHouse 16 = .ok (.getfield 25, 3) := by decide +kernel
theorem dX5_readHouse_19 : decode cX5_readHouse 19 = .ok (.getfield 96, 3) := by decide +kernel
theorem dX5_readHouse_22 : decode cX5_readHouse 22 = .ok (.iconst 4, 1) := by decide +kernel
theorem dX5_readHouse_23 : decode cX5_readHouse 23 = .ok (.invokevirtual 97, 3) := by decide +kernel
theorem dX5_readHouse_26 : decode cX5_readHouse 26 = .ok (.return_, 1) := by decide +kernel
theorem dX5_readHouse_27 : decode cX5_readHouse 27 = .ok (.aload_n 0, 1) := by decide +kernel
theorem dX5_readHouse_28 : decode cX5_readHouse 28 = .ok (.getfield 25, 3) := by decide +kernel
theorem dX5_readHouse_31 : decode cX5_readHouse 31 = .ok (.invokevirtual 110, 3) := by decide +kernel
theorem dX5_readHouse_34 : decode cX5_readHouse 34 = .ok (.aload_n 0, 1) := by decide +kernel
theorem dX5_readHouse_35 : decode cX5_readHouse 35 = .ok (.getfield 12, 3) := by decide +kernel
theorem dX5_readHouse_38 : decode cX5_readHouse 38 = .ok (.getfield 138, 3) := by decide +kernel
theorem dX5_readHouse_41 : decode cX5_readHouse 41 = .ok (.iload_n 1, 1) := by decide +kernel
theorem dX5_readHouse_42 : decode cX5_readHouse 42 = .ok (.aload_n 0, 1) := by decide +kernel
theorem dX5_readHouse_43 : decode cX5_readHouse 43 = .ok (.iconst 1, 1) := by decide +kernel
theorem dX5_readHouse_44 : decode cX5_readHouse 44 = .ok (.aload_n 0, 1) := by decide +kernel
theorem dX5_readHouse_45 : decode cX5_readHouse 45 = .ok (.getfield 12, 3) := by decide +kernel
theorem dX5_readHouse_48 : decode cX5_readHouse 48 = .ok (.getfield 107, 3) := by decide +kernel
theorem dX5_readHouse_51 : decode cX5_readHouse 51 = .ok (.iconst 1, 1) := by decide +kernel
theorem dX5_readHouse_52 : decode cX5_readHouse 52 = .ok (.isub, 1) := by decide +kernel
theorem dX5_readHouse_53 : decode cX5_readHouse 53 = .ok (.invokevirtual 68, 3) := by decide +kernel
theorem dX5_readHouse_56 : decode cX5_readHouse 56 = .ok (.iastore, 1) := by decide +kernel
theorem dX5_readHouse_57 : decode cX5_readHouse 57 = .ok (.aload_n 0, 1) := by decide +kernel
theorem dX5_readHouse_58 : decode cX5_readHouse 58 = .ok (.getfield 12, 3) := by decide +kernel
theorem dX5_readHouse_61 : decode cX5_readHouse 61 = .ok (.getfield 141, 3) := by decide +kernel
theorem dX5_readHouse_64 : decode cX5_readHouse 64 = .ok (.iload_n 1, 1) := by decide +kernel
theorem dX5_readHouse_65 : decode cX5_readHouse 65 = .ok (.aload_n 0, 1) := by decide +kernel
theorem dX5_readHouse_66 : decode cX5_readHouse 66 = .ok (.iconst 0, 1) := by decide +kernel
theorem dX5_readHouse_67 : decode cX5_readHouse 67 = .ok (.bipush 50, 2) := by decide +kernel
theorem dX5_readHouse_69 : decode cX5_readHouse 69 = .ok (.invokevirtual 68, 3) := by decide +kernel
theorem dX5_readHouse_72 : decode cX5_readHouse 72 = .ok (.iastore, 1) := by decide +kernel
theorem dX5_readHouse_73 : decode cX5_readHouse 73 = .ok (.aload_n 0, 1) := by decide +kernel
theorem dX5_readHouse_74 : decode cX5_readHouse 74 = .ok (.getfield 21, 3) := by decide +kernel
theorem dX5_readHouse_77 : decode cX5_readHouse 77 = .ok (.getfield 144, 3) := by decide +kernel
theorem dX5_readHouse_80 : decode cX5_readHouse 80 = .ok (.iload_n 1, 1) := by decide +kernel
theorem dX5_readHouse_81 : decode cX5_readHouse 81 = .ok (.aload_n 0, 1) := by decide +kernel
theorem dX5_readHouse_82 : decode cX5_readHouse 82 = .ok (.iconst 0, 1) := by decide +kernel
theorem dX5_readHouse_83 : decode cX5_readHouse 83 = .ok (.bipush 9, 2) := by decide +kernel
theorem dX5_readHouse_85 : decode cX5_readHouse 85 = .ok (.invokevirtual 68, 3) := by decide +kernel
theorem dX5_readHouse_88 : decode cX5_readHouse 88 = .ok (.iastore, 1) := by decide +kernel
theorem dX5_readHouse_89 : decode cX5_readHouse 89 = .ok (.iconst 0, 1) := by decide +kernel
theorem dX5_readHouse_90 : decode cX5_readHouse 90 = .ok (.istore_n 2, 1) := by decide +kernel
theorem dX5_readHouse_91 : decode cX5_readHouse 91 = .ok (.iload_n 2, 1) := by decide +kernel
theorem dX5_readHouse_92 : decode cX5_readHouse 92 = .ok (.bipush 7, 2) := by decide +kernel
theorem dX5_readHouse_94 : decode cX5_readHouse 94 = .ok (.if_icmp .ge 30, 3) := by decide +kernel
theorem dX5_readHouse_97 : decode cX5_readHouse 97 = .ok (.aload_n 0, 1) := by decide +kernel
theorem dX5_readHouse_98 : decode cX5_readHouse 98 = .ok (.getfield 21, 3) := by decide +kernel
theorem dX5_readHouse_101 : decode cX5_readHouse 101 = .ok (.getfield 147, 3) := by decide +kernel
theorem dX5_readHouse_104 : decode cX5_readHouse 104 = .ok (.iload_n 1, 1) := by decide +kernel
theorem dX5_readHouse_105 : decode cX5_readHouse 105 = .ok (.bipush 7, 2) := by decide +kernel
theorem dX5_readHouse_107 : decode cX5_readHouse 107 = .ok (.imul, 1) := by decide +kernel
theorem dX5_readHouse_108 : decode cX5_readHouse 108 = .ok (.iload_n 2, 1) := by decide +kernel
theorem dX5_readHouse_109 : decode cX5_readHouse 109 = .ok (.iadd, 1) := by decide +kernel
theorem dX5_readHouse_110 : decode cX5_readHouse 110 = .ok (.aload_n 0, 1) := by decide +kernel
theorem dX5_readHouse_111 : decode cX5_readHouse 111 = .ok (.iconst 0, 1) := by decide +kernel
theorem dX5_readHouse_112 : decode cX5_readHouse 112 = .ok (.bipush 9, 2) := by decide +kernel
theorem dX5_readHouse_114 : decode cX5_readHouse 114 = .ok (.invokevirtual 68, 3) := by decide +kernel
theorem dX5_readHouse_117 : decode cX5_readHouse 117 = .ok (.iastore, 1) := by decide +kernel
theorem dX5_readHouse_118 : decode cX5_readHouse 118 = .ok (.iinc 2 1, 3) := by decide +kernel
theorem dX5_readHouse_121 : decode cX5_readHouse 121 = .ok (.goto (-30), 3) := by decide +kernel
theorem dX5_readHouse_124 : decode cX5_readHouse 124 = .ok (.aload_n 0, 1) := by decide +kernel
theorem dX5_readHouse_125 : decode cX5_readHouse 125 = .ok (.getfield 12, 3) := by decide +kernel
theorem dX5_readHouse_128 : decode cX5_readHouse 128 = .ok (.dup, 1) := by decide +kernel
theorem dX5_readHouse_129 : decode cX5_readHouse 129 = .ok (.getfield 104, 3) := by decide +kernel
theorem dX5_readHouse_132 : decode cX5_readHouse 132 = .ok (.iconst 1, 1) := by decide +kernel
theorem dX5_readHouse_133 : decode cX5_readHouse 133 = .ok (.iadd, 1) := by decide +kernel
theorem dX5_readHouse_134 : decode cX5_readHouse 134 = .ok (.putfield 104, 3) := by decide +kernel
theorem dX5_readHouse_137 : decode cX5_readHouse 137 = .ok (.return_, 1) := by decide +kernel
abbrev LX5_readHouse_91 (l1 l2 : Int32) (I : MI) (Q : MI → Prop) : Prop := WP mX5_readHouse 286 Rf0 91 [some (.ref 3), some (.int l1), some (.int l2)] [] I (qv Q)
set_option maxRecDepth 20000 in
theorem rX5_readHouse_91 {l1 l2 : Int32} {I : MI} {Q : MI → Prop} (H : ((7 ≤ l2 → (∀ I1 : MI, I1 = up2 I 4 2 ((I 4 2) + 1) → Q I1)) ∧ (¬ 7 ≤ l2 → (Wi mX5_readNumber [.ref 3, .int 0, .int 9] I (fun r2 I1 => (vp_in ((l1 * 7) + l2) 84 ∧ ∀ I3 : MI, I3 = up2 I1 11 ((l1 * 7) + l2).toNatClampNeg r2 → LX5_readHouse_91 l1 (l2 + 1) I3 Q)))))) : LX5_readHouse_91 l1 l2 I Q := by
  show WP mX5_readHouse 286 Rf0 91 [some (.ref 3), some (.int l1), some (.int l2)] [] I (qv Q)
  refine w_iload_n dX5_readHouse_91 rfl rfl ?_
  refine w_bipush (v := 7) dX5_readHouse_92 (by decide) ?_
  refine w_icmp_ge (t := 124) dX5_readHouse_94 (by decide) (fun h => ?_) (fun h => ?_)
  · replace H := H.1 h
    refine w_aload_n dX5_readHouse_124 rfl rfl ?_
    refine w_getR dX5_readHouse_125 fl_5_12 okC5 kd_3 (by decide) (by decide) rfl rf_3_1 ?_
    refine w_dup dX5_readHouse_128 rfl ?_
    refine w_getI dX5_readHouse_129 fl_5_104 okC6 kd_4 (by decide) (by decide) rfl ?_
    refine w_iconst (v := 1) dX5_readHouse_132 (by decide) ?_
    refine w_iadd dX5_readHouse_133 ?_
    refine w_putI dX5_readHouse_134 fl_5_104 okC6 kd_4 (by decide) (by decide) rfl rfl rfl (w_up fun I1 hI => ?_)
    replace H := H I1 hI
    exact w_vret dX5_readHouse_137 rfl ⟨rfl, H⟩
  · replace H := H.2 h
    refine w_aload_n dX5_readHouse_97 rfl rfl ?_
    refine w_getR dX5_readHouse_98 fl_5_21 okC5 kd_3 (by decide) (by decide) rfl rf_3_2 ?_
    refine w_getR dX5_readHouse_101 fl_5_147 okC8 kd_10 (by decide) (by decide) rfl rf_10_2 ?_
    refine w_iload_n dX5_readHouse_104 rfl rfl ?_
    refine w_bipush (v := 7) dX5_readHouse_105 (by decide) ?_
    refine w_imul dX5_readHouse_107 ?_
    refine w_iload_n dX5_readHouse_108 rfl rfl ?_
    refine w_iadd dX5_readHouse_109 ?_
    refine w_aload_n dX5_readHouse_110 rfl rfl ?_
    refine w_iconst (v := 0) dX5_readHouse_111 (by decide) ?_
    refine w_bipush (v := 9) dX5_readHouse_112 (by decide) ?_
    refine w_callV (st := [.int ((l1 * 7) + l2), .ref 11]) (As := [.int 0, .int 9]) dX5_readHouse_114 ml_5_68 okX5_readNumber kd_3 (by decide) rfl rfl rfl (Nat.le_of_ble_eq_true rfl) (by decide) (Nat.le_of_ble_eq_true rfl) (wc_i H (fun r2 I1 H => ?_))
    refine w_iast dX5_readHouse_117 kd_11 (by decide) H.1 (w_up fun I3 hI => ?_)
    replace H := H.2 I3 hI
    refine w_iinc (v := l2 + 1) (ls' := [some (.ref 3), some (.int l1), some (.int (l2 + 1))]) dX5_readHouse_118 rfl rfl (by decide) rfl rfl ?_
    refine w_goto (t := 91) dX5_readHouse_121 (by decide) ?_
    skip
    exact H
set_option maxRecDepth 20000 in
theorem rX5_readHouse {I : MI} {Q : MI → Prop} (H : (((I 4 2) < 12 → (Wv mX9_advance [.ref 1] I (fun I1 => (Wi mX5_readNumber [.ref 3, .int 1, .int ((I1 4 0) - 1)] I1 (fun r3 I2 => (vp_in (I 4 2) 12 ∧ ∀ I4 : MI, I4 = up2 I2 8 (I 4 2).toNatClampNeg r3 → Wi mX5_readNumber [.ref 3, .int 0, .int 50] I4 (fun r6 I5 => (vp_in (I 4 2) 12 ∧ ∀ I7 : MI, I7 = up2 I5 9 (I 4 2).toNatClampNeg r6 → Wi mX5_readNumber [.ref 3, .int 0, .int 9] I7 (fun r9 I8 => (vp_in (I 4 2) 12 ∧ ∀ I10 : MI, I10 = up2 I8 12 (I 4 2).toNatClampNeg r9 → LX5_readHouse_91 (I 4 2) 0 I10 Q)))))))))) ∧ (¬ (I 4 2) < 12 → (Wv mX5_fail [.ref 3, .int (I 1 3), .int 4] I (fun I1 => (Q I1)))))) : Wv mX5_readHouse [.ref 3] I Q := by
  show WP mX5_readHouse 286 Rf0 0 [some (.ref 3), none, none] [] I (qv Q)
  refine w_aload_n dX5_readHouse_0 rfl rfl ?_
  refine w_getR dX5_readHouse_1 fl_5_12 okC5 kd_3 (by decide) (by decide) rfl rf_3_1 ?_
  refine w_getI dX5_readHouse_4 fl_5_104 okC6 kd_4 (by decide) (by decide) rfl ?_
  refine w_istore_n (ls' := [some (.ref 3), some (.int (I 4 2)), none]) dX5_readHouse_7 rfl (by decide) rfl rfl ?_
  refine w_iload_n dX5_readHouse_8 rfl rfl ?_
  refine w_bipush (v := 12) dX5_readHouse_9 (by decide) ?_
  refine w_icmp_lt (t := 27) dX5_readHouse_11 (by decide) (fun h => ?_) (fun h => ?_)
  · replace H := H.1 h
    refine w_aload_n dX5_readHouse_27 rfl rfl ?_
    refine w_getR dX5_readHouse_28 fl_5_25 okC5 kd_3 (by decide) (by decide) rfl rf_3_0 ?_
    refine w_callV (st := []) (As := []) dX5_readHouse_31 ml_5_110 okX9_advance kd_1 (by decide) rfl rfl rfl (Nat.le_of_ble_eq_true rfl) (by decide) (Nat.le_of_ble_eq_true rfl) (wc_v H (fun I1 H => ?_))
    refine w_aload_n dX5_readHouse_34 rfl rfl ?_
    refine w_getR dX5_readHouse_35 fl_5_12 okC5 kd_3 (by decide) (by decide) rfl rf_3_1 ?_
    refine w_getR dX5_readHouse_38 fl_5_138 okC6 kd_4 (by decide) (by decide) rfl rf_4_10 ?_
    refine w_iload_n dX5_readHouse_41 rfl rfl ?_
    refine w_aload_n dX5_readHouse_42 rfl rfl ?_
    refine w_iconst (v := 1) dX5_readHouse_43 (by decide) ?_
    refine w_aload_n dX5_readHouse_44 rfl rfl ?_
    refine w_getR dX5_readHouse_45 fl_5_12 okC5 kd_3 (by decide) (by decide) rfl rf_3_1 ?_
    refine w_getI dX5_readHouse_48 fl_5_107 okC6 kd_4 (by decide) (by decide) rfl ?_
    refine w_iconst (v := 1) dX5_readHouse_51 (by decide) ?_
    refine w_isub dX5_readHouse_52 ?_
    refine w_callV (st := [.int (I 4 2), .ref 8]) (As := [.int 1, .int ((I1 4 0) - 1)]) dX5_readHouse_53 ml_5_68 okX5_readNumber kd_3 (by decide) rfl rfl rfl (Nat.le_of_ble_eq_true rfl) (by decide) (Nat.le_of_ble_eq_true rfl) (wc_i H (fun r3 I2 H => ?_))
    refine w_iast dX5_readHouse_56 kd_8 (by decide) H.1 (w_up fun I4 hI => ?_)
    replace H := H.2 I4 hI
    refine w_aload_n dX5_readHouse_57 rfl rfl ?_
    refine w_getR dX5_readHouse_58 fl_5_12 okC5 kd_3 (by decide) (by decide) rfl rf_3_1 ?_
    refine w_getR dX5_readHouse_61 fl_5_141 okC6 kd_4 (by decide) (by decide) rfl rf_4_11 ?_
    refine w_iload_n dX5_readHouse_64 rfl rfl ?_
    refine w_aload_n dX5_readHouse_65 rfl rfl ?_
    refine w_iconst (v := 0) dX5_readHouse_66 (by decide) ?_
    refine w_bipush (v := 50) dX5_readHouse_67 (by decide) ?_
    refine w_callV (st := [.int (I 4 2), .ref 9]) (As := [.int 0, .int 50]) dX5_readHouse_69 ml_5_68 okX5_readNumber kd_3 (by decide) rfl rfl rfl (Nat.le_of_ble_eq_true rfl) (by decide) (Nat.le_of_ble_eq_true rfl) (wc_i H (fun r6 I5 H => ?_))
    refine w_iast dX5_readHouse_72 kd_9 (by decide) H.1 (w_up fun I7 hI => ?_)
    replace H := H.2 I7 hI
    refine w_aload_n dX5_readHouse_73 rfl rfl ?_
    refine w_getR dX5_readHouse_74 fl_5_21 okC5 kd_3 (by decide) (by decide) rfl rf_3_2 ?_
    refine w_getR dX5_readHouse_77 fl_5_144 okC8 kd_10 (by decide) (by decide) rfl rf_10_3 ?_
    refine w_iload_n dX5_readHouse_80 rfl rfl ?_
    refine w_aload_n dX5_readHouse_81 rfl rfl ?_
    refine w_iconst (v := 0) dX5_readHouse_82 (by decide) ?_
    refine w_bipush (v := 9) dX5_readHouse_83 (by decide) ?_
    refine w_callV (st := [.int (I 4 2), .ref 12]) (As := [.int 0, .int 9]) dX5_readHouse_85 ml_5_68 okX5_readNumber kd_3 (by decide) rfl rfl rfl (Nat.le_of_ble_eq_true rfl) (by decide) (Nat.le_of_ble_eq_true rfl) (wc_i H (fun r9 I8 H => ?_))
    refine w_iast dX5_readHouse_88 kd_12 (by decide) H.1 (w_up fun I10 hI => ?_)
    replace H := H.2 I10 hI
    refine w_iconst (v := 0) dX5_readHouse_89 (by decide) ?_
    refine w_istore_n (ls' := [some (.ref 3), some (.int (I 4 2)), some (.int 0)]) dX5_readHouse_90 rfl (by decide) rfl rfl ?_
    skip
    exact H
  · replace H := H.2 h
    refine w_aload_n dX5_readHouse_14 rfl rfl ?_
    refine w_aload_n dX5_readHouse_15 rfl rfl ?_
    refine w_getR dX5_readHouse_16 fl_5_25 okC5 kd_3 (by decide) (by decide) rfl rf_3_0 ?_
    refine w_getI dX5_readHouse_19 fl_5_96 okC9 kd_1 (by decide) (by decide) rfl ?_
    refine w_iconst (v := 4) dX5_readHouse_22 (by decide) ?_
    refine w_callV (st := []) (As := [.int (I 1 3), .int 4]) dX5_readHouse_23 ml_5_97 okX5_fail kd_3 (by decide) rfl rfl rfl (Nat.le_of_ble_eq_true rfl) (by decide) (Nat.le_of_ble_eq_true rfl) (wc_v H (fun I1 H => ?_))
    exact w_vret dX5_readHouse_26 rfl ⟨rfl, H⟩
theorem dX5_takeOnce_0 : decode cX5_takeOnce 0 = .ok (.aload_n 0, 1) := by decide +kernel
theorem dX5_takeOnce_1 : decode cX5_takeOnce 1 = .ok (.getfield 32, 3) := by decide +kernel
theorem dX5_takeOnce_4 : decode cX5_takeOnce 4 = .ok (.iload_n 1, 1) := by decide +kernel
theorem dX5_takeOnce_5 : decode cX5_takeOnce 5 = .ok (.iand, 1) := by decide +kernel
theorem dX5_takeOnce_6 : decode cX5_takeOnce 6 = .ok (.ifCond .eq 15, 3) := by decide +kernel
theorem dX5_takeOnce_9 : decode cX5_takeOnce 9 = .ok (.aload_n 0, 1) := by decide +kernel
theorem dX5_takeOnce_10 : decode cX5_takeOnce 10 = .ok (.aload_n 0, 1) := by decide +kernel
theorem dX5_takeOnce_11 : decode cX5_takeOnce 11 = .ok (.getfield 25, 3) := by decide +kernel
theorem dX5_takeOnce_14 : decode cX5_takeOnce 14 = .ok (.getfield 96, 3) := by decide +kernel
theorem dX5_takeOnce_17 : decode cX5_takeOnce 17 = .ok (.iconst 3, 1) := by decide +kernel
theorem dX5_takeOnce_18 : decode cX5_takeOnce 18 = .ok (.invokevirtual 97, 3) := by decide +kernel
theorem dX5_takeOnce_21 : decode cX5_takeOnce 21 = .ok (.aload_n 0, 1) := by decide +kernel
theorem dX5_takeOnce_22 : decode cX5_takeOnce 22 = .ok (.dup, 1) := by decide +kernel
theorem dX5_takeOnce_23 : decode cX5_takeOnce 23 = .ok (.getfield 32, 3) := by decide +kernel
theorem dX5_takeOnce_26 : decode cX5_takeOnce 26 = .ok (.iload_n 1, 1) := by decide +kernel
theorem dX5_takeOnce_27 : decode cX5_takeOnce 27 = .ok (.ior, 1) := by decide +kernel
theorem dX5_takeOnce_28 : decode cX5_takeOnce 28 = .ok (.putfield 32, 3) := by decide +kernel
theorem dX5_takeOnce_31 : decode cX5_takeOnce 31 = .ok (.aload_n 0, 1) := by decide +kernel
theorem dX5_takeOnce_32 : decode cX5_takeOnce 32 = .ok (.getfield 25, 3) := by decide +kernel
theorem dX5_takeOnce_35 : decode cX5_takeOnce 35 = .ok (.invokevirtual 110, 3) := by decide +kernel
theorem dX5_takeOnce_38 : decode cX5_takeOnce 38 = .ok (.return_, 1) := by decide +kernel
abbrev LX5_takeOnce_21 (l1 : Int32) (I : MI) (Q : MI → Prop) : Prop := WP mX5_takeOnce 286 Rf0 21 [some (.ref 3), some (.int l1)] [] I (qv Q)
set_option maxRecDepth 20000 in
theorem rX5_takeOnce_21 {l1 : Int32} {I : MI} {Q : MI → Prop} (H : (∀ I1 : MI, I1 = up2 I 3 3 ((I 3 3) ||| l1) → Wv mX9_advance [.ref 1] I1 (fun I2 => (Q I2)))) : LX5_takeOnce_21 l1 I Q := by
  show WP mX5_takeOnce 286 Rf0 21 [some (.ref 3), some (.int l1)] [] I (qv Q)
  refine w_aload_n dX5_takeOnce_21 rfl rfl ?_
  refine w_dup dX5_takeOnce_22 rfl ?_
  refine w_getI dX5_takeOnce_23 fl_5_32 okC5 kd_3 (by decide) (by decide) rfl ?_
  refine w_iload_n dX5_takeOnce_26 rfl rfl ?_
  refine w_ior dX5_takeOnce_27 ?_
  refine w_putI dX5_takeOnce_28 fl_5_32 okC5 kd_3 (by decide) (by decide) rfl rfl rfl (w_up fun I1 hI => ?_)
  replace H := H I1 hI
  refine w_aload_n dX5_takeOnce_31 rfl rfl ?_
  refine w_getR dX5_takeOnce_32 fl_5_25 okC5 kd_3 (by decide) (by decide) rfl rf_3_0 ?_
  refine w_callV (st := []) (As := []) dX5_takeOnce_35 ml_5_110 okX9_advance kd_1 (by decide) rfl rfl rfl (Nat.le_of_ble_eq_true rfl) (by decide) (Nat.le_of_ble_eq_true rfl) (wc_v H (fun I2 H => ?_))
  exact w_vret dX5_takeOnce_38 rfl ⟨rfl, H⟩
set_option maxRecDepth 20000 in
theorem rX5_takeOnce {a1 : Int32} {I : MI} {Q : MI → Prop} (H : ((((I 3 3) &&& a1) = 0 → (LX5_takeOnce_21 a1 I Q)) ∧ (¬ ((I 3 3) &&& a1) = 0 → (Wv mX5_fail [.ref 3, .int (I 1 3), .int 3] I (fun I1 => (LX5_takeOnce_21 a1 I1 Q)))))) : Wv mX5_takeOnce [.ref 3, .int a1] I Q := by
  show WP mX5_takeOnce 286 Rf0 0 [some (.ref 3), some (.int a1)] [] I (qv Q)
  refine w_aload_n dX5_takeOnce_0 rfl rfl ?_
  refine w_getI dX5_takeOnce_1 fl_5_32 okC5 kd_3 (by decide) (by decide) rfl ?_
  refine w_iload_n dX5_takeOnce_4 rfl rfl ?_
  refine w_iand dX5_takeOnce_5 ?_
  refine w_if_eq (t := 21) dX5_takeOnce_6 (by decide) (fun h => ?_) (fun h => ?_)
  · replace H := H.1 h
    skip
    exact H
  · replace H := H.2 h
    refine w_aload_n dX5_takeOnce_9 rfl rfl ?_
    refine w_aload_n dX5_takeOnce_10 rfl rfl ?_
    refine w_getR dX5_takeOnce_11 fl_5_25 okC5 kd_3 (by decide) (by decide) rfl rf_3_0 ?_
    refine w_getI dX5_takeOnce_14 fl_5_96 okC9 kd_1 (by decide) (by decide) rfl ?_
    refine w_iconst (v := 3) dX5_takeOnce_17 (by decide) ?_
    refine w_callV (st := []) (As := [.int (I 1 3), .int 3]) dX5_takeOnce_18 ml_5_97 okX5_fail kd_3 (by decide) rfl rfl rfl (Nat.le_of_ble_eq_true rfl) (by decide) (Nat.le_of_ble_eq_true rfl) (wc_v H (fun I1 H => ?_))
    skip
    exact H
theorem dX5_readNumber_0 : decode cX5_readNumber 0 = .ok (.aload_n 0, 1) := by decide +kernel
theorem dX5_readNumber_1 : decode cX5_readNumber 1 = .ok (.getfield 25, 3) := by decide +kernel
theorem dX5_readNumber_4 : decode cX5_readNumber 4 = .ok (.getfield 45, 3) := by decide +kernel
theorem dX5_readNumber_7 : decode cX5_readNumber 7 = .ok (.iconst 2, 1) := by decide +kernel
theorem dX5_readNumber_8 : decode cX5_readNumber 8 = .ok (.if_icmp .eq 17, 3) := by decide +kernel
theorem dX5_readNumber_11 : decode cX5_readNumber 11 = .ok (.aload_n 0, 1) := by decide +kernel
theorem dX5_readNumber_12 : decode cX5_readNumber 12 = .ok (.aload_n 0, 1) := by decide +kernel
theorem dX5_readNumber_13 : decode cX5_readNumber 13 = .ok (.getfield 25, 3) := by decide +kernel
theorem dX5_readNumber_16 : decode cX5_readNumber 16 = .ok (.getfield 96, 3) := by decide +kernel
theorem dX5_readNumber_19 : decode cX5_readNumber 19 = .ok (.iconst 1, 1) := by decide +kernel
theorem dX5_readNumber_20 : decode cX5_readNumber 20 = .ok (.invokevirtual 97, 3) := by decide +kernel
theorem dX5_readNumber_23 : decode cX5_readNumber 23 = .ok (.iload_n 1, 1) := by decide +kernel
theorem dX5_readNumber_24 : decode cX5_readNumber 24 = .ok (.ireturn, 1) := by decide +kernel
theorem dX5_readNumber_25 : decode cX5_readNumber 25 = .ok (.aload_n 0, 1) := by decide +kernel
theorem dX5_readNumber_26 : decode cX5_readNumber 26 = .ok (.getfield 25, 3) := by decide +kernel
theorem dX5_readNumber_29 : decode cX5_readNumber 29 = .ok (.invokevirtual 150, 3) := by decide +kernel
theorem dX5_readNumber_32 : decode cX5_readNumber 32 = .ok (.istore_n 3, 1) := by decide +kernel
theorem dX5_readNumber_33 : decode cX5_readNumber 33 = .ok (.iload_n 3, 1) := by decide +kernel
theorem dX5_readNumber_34 : decode cX5_readNumber 34 = .ok (.iload_n 1, 1) := by decide +kernel
theorem dX5_readNumber_35 : decode cX5_readNumber 35 = .ok (.if_icmp .lt 8, 3) := by decide +kernel
theorem dX5_readNumber_38 : decode cX5_readNumber 38 = .ok (.iload_n 3, 1) := by decide +kernel
theorem dX5_readNumber_39 : decode cX5_readNumber 39 = .ok (.iload_n 2, 1) := by decide +kernel
theorem dX5_readNumber_40 : decode cX5_readNumber 40 = .ok (.if_icmp .le 17, 3) := by decide +kernel
theorem dX5_readNumber_43 : decode cX5_readNumber 43 = .ok (.aload_n 0, 1) := by decide +kernel
theorem dX5_readNumber_44 : decode cX5_readNumber 44 = .ok (.aload_n 0, 1) := by decide +kernel
theorem dX5_readNumber_45 : decode cX5_readNumber 45 = .ok (.getfield 25, 3) := by decide +kernel
theorem dX5_readNumber_48 : decode cX5_readNumber 48 = .ok (.getfield 96, 3) := by decide +kernel
theorem dX5_readNumber_51 : decode cX5_readNumber 51 = .ok (.iconst 2, 1) := by decide +kernel
theorem dX5_readNumber_52 : decode cX5_readNumber 52 = .ok (.invokevirtual 97, 3) := by decide +kernel
theorem dX5_readNumber_55 : decode cX5_readNumber 55 = .ok (.iload_n 1, 1) := by decide +kernel
theorem dX5_readNumber_56 : decode cX5_readNumber 56 = .ok (.ireturn, 1) := by decide +kernel
theorem dX5_readNumber_57 : decode cX5_readNumber 57 = .ok (.aload_n 0, 1) := by decide +kernel
theorem dX5_readNumber_58 : decode cX5_readNumber 58 = .ok (.getfield 25, 3) := by decide +kernel
theorem dX5_readNumber_61 : decode cX5_readNumber 61 = .ok (.invokevirtual 110, 3) := by decide +kernel
theorem dX5_readNumber_64 : decode cX5_readNumber 64 = .ok (.iload_n 3, 1) := by decide +kernel
theorem dX5_readNumber_65 : decode cX5_readNumber 65 = .ok (.ireturn, 1) := by decide +kernel
abbrev LX5_readNumber_43 (l1 l2 l3 : Int32) (I : MI) (Q : Int32 → MI → Prop) : Prop := WP mX5_readNumber 286 Rf0 43 [some (.ref 3), some (.int l1), some (.int l2), some (.int l3)] [] I (qi Q)
set_option maxRecDepth 20000 in
theorem rX5_readNumber_43 {l1 l2 l3 : Int32} {I : MI} {Q : Int32 → MI → Prop} (H : (Wv mX5_fail [.ref 3, .int (I 1 3), .int 2] I (fun I1 => (Q l1 I1)))) : LX5_readNumber_43 l1 l2 l3 I Q := by
  show WP mX5_readNumber 286 Rf0 43 [some (.ref 3), some (.int l1), some (.int l2), some (.int l3)] [] I (qi Q)
  refine w_aload_n dX5_readNumber_43 rfl rfl ?_
  refine w_aload_n dX5_readNumber_44 rfl rfl ?_
  refine w_getR dX5_readNumber_45 fl_5_25 okC5 kd_3 (by decide) (by decide) rfl rf_3_0 ?_
  refine w_getI dX5_readNumber_48 fl_5_96 okC9 kd_1 (by decide) (by decide) rfl ?_
  refine w_iconst (v := 2) dX5_readNumber_51 (by decide) ?_
  refine w_callV (st := []) (As := [.int (I 1 3), .int 2]) dX5_readNumber_52 ml_5_97 okX5_fail kd_3 (by decide) rfl rfl rfl (Nat.le_of_ble_eq_true rfl) (by decide) (Nat.le_of_ble_eq_true rfl) (wc_v H (fun I1 H => ?_))
  refine w_iload_n dX5_readNumber_55 rfl rfl ?_
  exact w_iret dX5_readNumber_56 rfl ⟨_, rfl, H⟩
set_option maxRecDepth 20000 in
theorem rX5_readNumber {a1 a2 : Int32} {I : MI} {Q : Int32 → MI → Prop} (H : (((I 1 5) = 2 → (Wi mX9_value [.ref 1] I (fun r2 I1 => ((r2 < a1 → (LX5_readNumber_43 a1 a2 r2 I1 Q)) ∧ (¬ r2 < a1 → ((r2 ≤ a2 → (Wv mX9_advance [.ref 1] I1 (fun I3 => (Q r2 I3)))) ∧ (¬ r2 ≤ a2 → (LX5_readNumber_43 a1 a2 r2 I1 Q)))))))) ∧ (¬ (I 1 5) = 2 → (Wv mX5_fail [.ref 3, .int (I 1 3), .int 1] I (fun I1 => (Q a1 I1)))))) : Wi mX5_readNumber [.ref 3, .int a1, .int a2] I Q := by
  show WP mX5_readNumber 286 Rf0 0 [some (.ref 3), some (.int a1), some (.int a2), none] [] I (qi Q)
  refine w_aload_n dX5_readNumber_0 rfl rfl ?_
  refine w_getR dX5_readNumber_1 fl_5_25 okC5 kd_3 (by decide) (by decide) rfl rf_3_0 ?_
  refine w_getI dX5_readNumber_4 fl_5_45 okC9 kd_1 (by decide) (by decide) rfl ?_
  refine w_iconst (v := 2) dX5_readNumber_7 (by decide) ?_
  refine w_icmp_eq (t := 25) dX5_readNumber_8 (by decide) (fun h => ?_) (fun h => ?_)
  · replace H := H.1 h
    refine w_aload_n dX5_readNumber_25 rfl rfl ?_
    refine w_getR dX5_readNumber_26 fl_5_25 okC5 kd_3 (by decide) (by decide) rfl rf_3_0 ?_
    refine w_callV (st := []) (As := []) dX5_readNumber_29 ml_5_150 okX9_value kd_1 (by decide) rfl rfl rfl (Nat.le_of_ble_eq_true rfl) (by decide) (Nat.le_of_ble_eq_true rfl) (wc_i H (fun r2 I1 H => ?_))
    refine w_istore_n (ls' := [some (.ref 3), some (.int a1), some (.int a2), some (.int r2)]) dX5_readNumber_32 rfl (by decide) rfl rfl ?_
    refine w_iload_n dX5_readNumber_33 rfl rfl ?_
    refine w_iload_n dX5_readNumber_34 rfl rfl ?_
    refine w_icmp_lt (t := 43) dX5_readNumber_35 (by decide) (fun h => ?_) (fun h => ?_)
    · replace H := H.1 h
      skip
      exact H
    · replace H := H.2 h
      refine w_iload_n dX5_readNumber_38 rfl rfl ?_
      refine w_iload_n dX5_readNumber_39 rfl rfl ?_
      refine w_icmp_le (t := 57) dX5_readNumber_40 (by decide) (fun h => ?_) (fun h => ?_)
      · replace H := H.1 h
        refine w_aload_n dX5_readNumber_57 rfl rfl ?_
        refine w_getR dX5_readNumber_58 fl_5_25 okC5 kd_3 (by decide) (by decide) rfl rf_3_0 ?_
        refine w_callV (st := []) (As := []) dX5_readNumber_61 ml_5_110 okX9_advance kd_1 (by decide) rfl rfl rfl (Nat.le_of_ble_eq_true rfl) (by decide) (Nat.le_of_ble_eq_true rfl) (wc_v H (fun I3 H => ?_))
        refine w_iload_n dX5_readNumber_64 rfl rfl ?_
        exact w_iret dX5_readNumber_65 rfl ⟨_, rfl, H⟩
      · replace H := H.2 h
        skip
        exact H
  · replace H := H.2 h
    refine w_aload_n dX5_readNumber_11 rfl rfl ?_
    refine w_aload_n dX5_readNumber_12 rfl rfl ?_
    refine w_getR dX5_readNumber_13 fl_5_25 okC5 kd_3 (by decide) (by decide) rfl rf_3_0 ?_
    refine w_getI dX5_readNumber_16 fl_5_96 okC9 kd_1 (by decide) (by decide) rfl ?_
    refine w_iconst (v := 1) dX5_readNumber_19 (by decide) ?_
    refine w_callV (st := []) (As := [.int (I 1 3), .int 1]) dX5_readNumber_20 ml_5_97 okX5_fail kd_3 (by decide) rfl rfl rfl (Nat.le_of_ble_eq_true rfl) (by decide) (Nat.le_of_ble_eq_true rfl) (wc_v H (fun I1 H => ?_))
    refine w_iload_n dX5_readNumber_23 rfl rfl ?_
    exact w_iret dX5_readNumber_24 rfl ⟨_, rfl, H⟩
theorem dX5_readSemicolon_0 : decode cX5_readSemicolon 0 = .ok (.aload_n 0, 1) := by decide +kernel
theorem dX5_readSemicolon_1 : decode cX5_readSemicolon 1 = .ok (.getfield 25, 3) := by decide +kernel
theorem dX5_readSemicolon_4 : decode cX5_readSemicolon 4 = .ok (.getfield 45, 3) := by decide +kernel
theorem dX5_readSemicolon_7 : decode cX5_readSemicolon 7 = .ok (.iconst 3, 1) := by decide +kernel
theorem dX5_readSemicolon_8 : decode cX5_readSemicolon 8 = .ok (.if_icmp .eq 15, 3) := by decide +kernel
theorem dX5_readSemicolon_11 : decode cX5_readSemicolon 11 = .ok (.aload_n 0, 1) := by decide +kernel
theorem dX5_readSemicolon_12 : decode cX5_readSemicolon 12 = .ok (.aload_n 0, 1) := by decide +kernel
theorem dX5_readSemicolon_13 : decode cX5_readSemicolon 13 = .ok (.getfield 25, 3) := by decide +kernel
theorem dX5_readSemicolon_16 : decode cX5_readSemicolon 16 = .ok (.getfield 96, 3) := by decide +kernel
theorem dX5_readSemicolon_19 : decode cX5_readSemicolon 19 = .ok (.iconst 1, 1) := by decide +kernel
theorem dX5_readSemicolon_20 : decode cX5_readSemicolon 20 = .ok (.invokevirtual 97, 3) := by decide +kernel
theorem dX5_readSemicolon_23 : decode cX5_readSemicolon 23 = .ok (.aload_n 0, 1) := by decide +kernel
theorem dX5_readSemicolon_24 : decode cX5_readSemicolon 24 = .ok (.getfield 25, 3) := by decide +kernel
theorem dX5_readSemicolon_27 : decode cX5_readSemicolon 27 = .ok (.invokevirtual 110, 3) := by decide +kernel
theorem dX5_readSemicolon_30 : decode cX5_readSemicolon 30 = .ok (.return_, 1) := by decide +kernel
abbrev LX5_readSemicolon_23 (I : MI) (Q : MI → Prop) : Prop := WP mX5_readSemicolon 286 Rf0 23 [some (.ref 3)] [] I (qv Q)
set_option maxRecDepth 20000 in
theorem rX5_readSemicolon_23 {I : MI} {Q : MI → Prop} (H : (Wv mX9_advance [.ref 1] I (fun I1 => (Q I1)))) : LX5_readSemicolon_23  I Q := by
  show WP mX5_readSemicolon 286 Rf0 23 [some (.ref 3)] [] I (qv Q)
  refine w_aload_n dX5_readSemicolon_23 rfl rfl ?_
  refine w_getR dX5_readSemicolon_24 fl_5_25 okC5 kd_3 (by decide) (by decide) rfl rf_3_0 ?_
  refine w_callV (st := []) (As := []) dX5_readSemicolon_27 ml_5_110 okX9_advance kd_1 (by decide) rfl rfl rfl (Nat.le_of_ble_eq_true rfl) (by decide) (Nat.le_of_ble_eq_true rfl) (wc_v H (fun I1 H => ?_))
  exact w_vret dX5_readSemicolon_30 rfl ⟨rfl, H⟩
set_option maxRecDepth 20000 in
theorem rX5_readSemicolon {I : MI} {Q : MI → Prop} (H : (((I 1 5) = 3 → (LX5_readSemicolon_23  I Q)) ∧ (¬ (I 1 5) = 3 → (Wv mX5_fail [.ref 3, .int (I 1 3), .int 1] I (fun I1 => (LX5_readSemicolon_23  I1 Q)))))) : Wv mX5_readSemicolon [.ref 3] I Q := by
  show WP mX5_readSemicolon 286 Rf0 0 [some (.ref 3)] [] I (qv Q)
  refine w_aload_n dX5_readSemicolon_0 rfl rfl ?_
  refine w_getR dX5_readSemicolon_1 fl_5_25 okC5 kd_3 (by decide) (by decide) rfl rf_3_0 ?_
  refine w_getI dX5_readSemicolon_4 fl_5_45 okC9 kd_1 (by decide) (by decide) rfl ?_
  refine w_iconst (v := 3) dX5_readSemicolon_7 (by decide) ?_
  refine w_icmp_eq (t := 23) dX5_readSemicolon_8 (by decide) (fun h => ?_) (fun h => ?_)
  · replace H := H.1 h
    skip
    exact H
  · replace H := H.2 h
    refine w_aload_n dX5_readSemicolon_11 rfl rfl ?_
    refine w_aload_n dX5_readSemicolon_12 rfl rfl ?_
    refine w_getR dX5_readSemicolon_13 fl_5_25 okC5 kd_3 (by decide) (by decide) rfl rf_3_0 ?_
    refine w_getI dX5_readSemicolon_16 fl_5_96 okC9 kd_1 (by decide) (by decide) rfl ?_
    refine w_iconst (v := 1) dX5_readSemicolon_19 (by decide) ?_
    refine w_callV (st := []) (As := [.int (I 1 3), .int 1]) dX5_readSemicolon_20 ml_5_97 okX5_fail kd_3 (by decide) rfl rfl rfl (Nat.le_of_ble_eq_true rfl) (by decide) (Nat.le_of_ble_eq_true rfl) (wc_v H (fun I1 H => ?_))
    skip
    exact H
theorem dX5_fail_0 : decode cX5_fail 0 = .ok (.aload_n 0, 1) := by decide +kernel
theorem dX5_fail_1 : decode cX5_fail 1 = .ok (.getfield 36, 3) := by decide +kernel
theorem dX5_fail_4 : decode cX5_fail 4 = .ok (.ifCond .ne 13, 3) := by decide +kernel
theorem dX5_fail_7 : decode cX5_fail 7 = .ok (.aload_n 0, 1) := by decide +kernel
theorem dX5_fail_8 : decode cX5_fail 8 = .ok (.bipush 8, 2) := by decide +kernel
theorem dX5_fail_10 : decode cX5_fail 10 = .ok (.iload_n 1, 1) := by decide +kernel
theorem dX5_fail_11 : decode cX5_fail 11 = .ok (.imul, 1) := by decide +kernel
theorem dX5_fail_12 : decode cX5_fail 12 = .ok (.iload_n 2, 1) := by decide +kernel
theorem dX5_fail_13 : decode cX5_fail 13 = .ok (.iadd, 1) := by decide +kernel
theorem dX5_fail_14 : decode cX5_fail 14 = .ok (.putfield 36, 3) := by decide +kernel
theorem dX5_fail_17 : decode cX5_fail 17 = .ok (.return_, 1) := by decide +kernel
set_option maxRecDepth 20000 in
theorem rX5_fail {a1 a2 : Int32} {I : MI} {Q : MI → Prop} (H : ((¬ (I 3 4) = 0 → (Q I)) ∧ ((I 3 4) = 0 → (∀ I1 : MI, I1 = up2 I 3 4 ((8 * a1) + a2) → Q I1)))) : Wv mX5_fail [.ref 3, .int a1, .int a2] I Q := by
  show WP mX5_fail 286 Rf0 0 [some (.ref 3), some (.int a1), some (.int a2)] [] I (qv Q)
  refine w_aload_n dX5_fail_0 rfl rfl ?_
  refine w_getI dX5_fail_1 fl_5_36 okC5 kd_3 (by decide) (by decide) rfl ?_
  refine w_if_ne (t := 17) dX5_fail_4 (by decide) (fun h => ?_) (fun h => ?_)
  · replace H := H.1 h
    exact w_vret dX5_fail_17 rfl ⟨rfl, H⟩
  · replace H := H.2 h
    refine w_aload_n dX5_fail_7 rfl rfl ?_
    refine w_bipush (v := 8) dX5_fail_8 (by decide) ?_
    refine w_iload_n dX5_fail_10 rfl rfl ?_
    refine w_imul dX5_fail_11 ?_
    refine w_iload_n dX5_fail_12 rfl rfl ?_
    refine w_iadd dX5_fail_13 ?_
    refine w_putI dX5_fail_14 fl_5_36 okC5 kd_3 (by decide) (by decide) rfl rfl rfl (w_up fun I1 hI => ?_)
    replace H := H I1 hI
    exact w_vret dX5_fail_17 rfl ⟨rfl, H⟩
theorem dX9_addFour_0 : decode cX9_addFour 0 = .ok (.bipush 24, 2) := by decide +kernel
theorem dX9_addFour_2 : decode cX9_addFour 2 = .ok (.istore_n 2, 1) := by decide +kernel
theorem dX9_addFour_3 : decode cX9_addFour 3 = .ok (.iload_n 2, 1) := by decide +kernel
theorem dX9_addFour_4 : decode cX9_addFour 4 = .ok (.ifCond .lt 42, 3) := by decide +kernel
theorem dX9_addFour_7 : decode cX9_addFour 7 = .ok (.aload_n 0, 1) := by decide +kernel
theorem dX9_addFour_8 : decode cX9_addFour 8 = .ok (.getfield 15, 3) := by decide +kernel
theorem dX9_addFour_11 : decode cX9_addFour 11 = .ok (.sipush 900, 3) := by decide +kernel
theorem dX9_addFour_14 : decode cX9_addFour 14 = .ok (.if_icmp .ge 32, 3) := by decide +kernel
theorem dX9_addFour_17 : decode cX9_addFour 17 = .ok (.aload_n 0, 1) := by decide +kernel
theorem dX9_addFour_18 : decode cX9_addFour 18 = .ok (.getfield 9, 3) := by decide +kernel
theorem dX9_addFour_21 : decode cX9_addFour 21 = .ok (.aload_n 0, 1) := by decide +kernel
theorem dX9_addFour_22 : decode cX9_addFour 22 = .ok (.getfield 15, 3) := by decide +kernel
theorem dX9_addFour_25 : decode cX9_addFour 25 = .ok (.iload_n 1, 1) := by decide +kernel
theorem dX9_addFour_26 : decode cX9_addFour 26 = .ok (.iload_n 2, 1) := by decide +kernel
theorem dX9_addFour_27 : decode cX9_addFour 27 = .ok (.ishr, 1) := by decide +kernel
theorem dX9_addFour_28 : decode cX9_addFour 28 = .ok (.i2b, 1) := by decide +kernel
theorem dX9_addFour_29 : decode cX9_addFour 29 = .ok (.bastore, 1) := by decide +kernel
theorem dX9_addFour_30 : decode cX9_addFour 30 = .ok (.aload_n 0, 1) := by decide +kernel
theorem dX9_addFour_31 : decode cX9_addFour 31 = .ok (.dup, 1) := by decide +kernel
theorem dX9_addFour_32 : decode cX9_addFour 32 = .ok (.getfield 15, 3) := by decide +kernel
theorem dX9_addFour_35 : decode cX9_addFour 35 = .ok (.iconst 1, 1) := by decide +kernel
theorem dX9_addFour_36 : decode cX9_addFour 36 = .ok (.iadd, 1) := by decide +kernel
theorem dX9_addFour_37 : decode cX9_addFour 37 = .ok (.putfield 15, 3) := by decide +kernel
theorem dX9_addFour_40 : decode cX9_addFour 40 = .ok (.iinc 2 (-8), 3) := by decide +kernel
theorem dX9_addFour_43 : decode cX9_addFour 43 = .ok (.goto (-40), 3) := by decide +kernel
theorem dX9_addFour_46 : decode cX9_addFour 46 = .ok (.return_, 1) := by decide +kernel
abbrev LX9_addFour_3 (l1 l2 : Int32) (I : MI) (Q : MI → Prop) : Prop := WP mX9_addFour 286 Rf0 3 [some (.ref 1), some (.int l1), some (.int l2)] [] I (qv Q)
set_option maxRecDepth 20000 in
theorem rX9_addFour_3 {l1 l2 : Int32} {I : MI} {Q : MI → Prop} (H : ((l2 < 0 → (Q I)) ∧ (¬ l2 < 0 → ((900 ≤ (I 1 1) → (Q I)) ∧ (¬ 900 ≤ (I 1 1) → (vp_in (I 1 1) 900 ∧ ∀ I1 : MI, I1 = up2 I 2 (I 1 1).toNatClampNeg (vp_nar .byte ((l1 >>> (l2 &&& 31)).toInt8.toInt32)) → ∀ I2 : MI, I2 = up2 I1 1 1 ((I1 1 1) + 1) → LX9_addFour_3 l1 (l2 + (-8)) I2 Q)))))) : LX9_addFour_3 l1 l2 I Q := by
  show WP mX9_addFour 286 Rf0 3 [some (.ref 1), some (.int l1), some (.int l2)] [] I (qv Q)
  refine w_iload_n dX9_addFour_3 rfl rfl ?_
  refine w_if_lt (t := 46) dX9_addFour_4 (by decide) (fun h => ?_) (fun h => ?_)
  · replace H := H.1 h
    exact w_vret dX9_addFour_46 rfl ⟨rfl, H⟩
  · replace H := H.2 h
    refine w_aload_n dX9_addFour_7 rfl rfl ?_
    refine w_getI dX9_addFour_8 fl_9_15 okC9 kd_1 (by decide) (by decide) rfl ?_
    refine w_sipush (v := 900) dX9_addFour_11 (by decide) ?_
    refine w_icmp_ge (t := 46) dX9_addFour_14 (by decide) (fun h => ?_) (fun h => ?_)
    · replace H := H.1 h
      exact w_vret dX9_addFour_46 rfl ⟨rfl, H⟩
    · replace H := H.2 h
      refine w_aload_n dX9_addFour_17 rfl rfl ?_
      refine w_getR dX9_addFour_18 fl_9_9 okC9 kd_1 (by decide) (by decide) rfl rf_1_0 ?_
      refine w_aload_n dX9_addFour_21 rfl rfl ?_
      refine w_getI dX9_addFour_22 fl_9_15 okC9 kd_1 (by decide) (by decide) rfl ?_
      refine w_iload_n dX9_addFour_25 rfl rfl ?_
      refine w_iload_n dX9_addFour_26 rfl rfl ?_
      refine w_ishr dX9_addFour_27 ?_
      refine w_i2b dX9_addFour_28 ?_
      refine w_bast dX9_addFour_29 kd_2 (by decide) H.1 (w_up fun I1 hI => ?_)
      replace H := H.2 I1 hI
      refine w_aload_n dX9_addFour_30 rfl rfl ?_
      refine w_dup dX9_addFour_31 rfl ?_
      refine w_getI dX9_addFour_32 fl_9_15 okC9 kd_1 (by decide) (by decide) rfl ?_
      refine w_iconst (v := 1) dX9_addFour_35 (by decide) ?_
      refine w_iadd dX9_addFour_36 ?_
      refine w_putI dX9_addFour_37 fl_9_15 okC9 kd_1 (by decide) (by decide) rfl rfl rfl (w_up fun I2 hI => ?_)
      replace H := H I2 hI
      refine w_iinc (v := l2 + (-8)) (ls' := [some (.ref 1), some (.int l1), some (.int (l2 + (-8)))]) dX9_addFour_40 rfl rfl (by decide) rfl rfl ?_
      refine w_goto (t := 3) dX9_addFour_43 (by decide) ?_
      skip
      exact H
set_option maxRecDepth 20000 in
theorem rX9_addFour {a1 : Int32} {I : MI} {Q : MI → Prop} (H : (LX9_addFour_3 a1 24 I Q)) : Wv mX9_addFour [.ref 1, .int a1] I Q := by
  show WP mX9_addFour 286 Rf0 0 [some (.ref 1), some (.int a1), none] [] I (qv Q)
  refine w_bipush (v := 24) dX9_addFour_0 (by decide) ?_
  refine w_istore_n (ls' := [some (.ref 1), some (.int a1), some (.int 24)]) dX9_addFour_2 rfl (by decide) rfl rfl ?_
  skip
  exact H
theorem dX9_begin_0 : decode cX9_begin 0 = .ok (.aload_n 0, 1) := by decide +kernel
theorem dX9_begin_1 : decode cX9_begin 1 = .ok (.iload_n 1, 1) := by decide +kernel
theorem dX9_begin_2 : decode cX9_begin 2 = .ok (.aload_n 0, 1) := by decide +kernel
theorem dX9_begin_3 : decode cX9_begin 3 = .ok (.getfield 15, 3) := by decide +kernel
theorem dX9_begin_6 : decode cX9_begin 6 = .ok (.invokestatic 19, 3) := by decide +kernel
theorem dX9_begin_9 : decode cX9_begin 9 = .ok (.putfield 25, 3) := by decide +kernel
theorem dX9_begin_12 : decode cX9_begin 12 = .ok (.aload_n 0, 1) := by decide +kernel
theorem dX9_begin_13 : decode cX9_begin 13 = .ok (.iconst 0, 1) := by decide +kernel
theorem dX9_begin_14 : decode cX9_begin 14 = .ok (.putfield 28, 3) := by decide +kernel
theorem dX9_begin_17 : decode cX9_begin 17 = .ok (.aload_n 0, 1) := by decide +kernel
theorem dX9_begin_18 : decode cX9_begin 18 = .ok (.invokevirtual 31, 3) := by decide +kernel
theorem dX9_begin_21 : decode cX9_begin 21 = .ok (.return_, 1) := by decide +kernel
set_option maxRecDepth 20000 in
theorem rX9_begin {a1 : Int32} {I : MI} {Q : MI → Prop} (H : (∀ x1 : Int32, x1 = (if (I 1 1) < a1 then (I 1 1) else a1) → ∀ I2 : MI, I2 = up2 I 1 2 x1 → ∀ I3 : MI, I3 = up2 I2 1 4 0 → Wv mX9_advance [.ref 1] I3 (fun I4 => (Q I4)))) : Wv mX9_begin [.ref 1, .int a1] I Q := by
  show WP mX9_begin 286 Rf0 0 [some (.ref 1), some (.int a1)] [] I (qv Q)
  refine w_aload_n dX9_begin_0 rfl rfl ?_
  refine w_iload_n dX9_begin_1 rfl rfl ?_
  refine w_aload_n dX9_begin_2 rfl rfl ?_
  refine w_getI dX9_begin_3 fl_9_15 okC9 kd_1 (by decide) (by decide) rfl ?_
  refine w_min dX9_begin_6 ml_9_19 minS maI minC (by decide) (Nat.le_of_ble_eq_true rfl) ?_
  refine w_top fun x1 hx => ?_
  replace H := H x1 hx
  refine w_putI dX9_begin_9 fl_9_25 okC9 kd_1 (by decide) (by decide) rfl rfl rfl (w_up fun I2 hI => ?_)
  replace H := H I2 hI
  refine w_aload_n dX9_begin_12 rfl rfl ?_
  refine w_iconst (v := 0) dX9_begin_13 (by decide) ?_
  refine w_putI dX9_begin_14 fl_9_28 okC9 kd_1 (by decide) (by decide) rfl rfl rfl (w_up fun I3 hI => ?_)
  replace H := H I3 hI
  refine w_aload_n dX9_begin_17 rfl rfl ?_
  refine w_callV (st := []) (As := []) dX9_begin_18 ml_9_31 okX9_advance kd_1 (by decide) rfl rfl rfl (Nat.le_of_ble_eq_true rfl) (by decide) (Nat.le_of_ble_eq_true rfl) (wc_v H (fun I4 H => ?_))
  exact w_vret dX9_begin_21 rfl ⟨rfl, H⟩
theorem dX9_advance_0 : decode cX9_advance 0 = .ok (.aload_n 0, 1) := by decide +kernel
theorem dX9_advance_1 : decode cX9_advance 1 = .ok (.aload_n 0, 1) := by decide +kernel
theorem dX9_advance_2 : decode cX9_advance 2 = .ok (.getfield 28, 3) := by decide +kernel
theorem dX9_advance_5 : decode cX9_advance 5 = .ok (.putfield 34, 3) := by decide +kernel
theorem dX9_advance_8 : decode cX9_advance 8 = .ok (.aload_n 0, 1) := by decide +kernel
theorem dX9_advance_9 : decode cX9_advance 9 = .ok (.getfield 34, 3) := by decide +kernel
theorem dX9_advance_12 : decode cX9_advance 12 = .ok (.aload_n 0, 1) := by decide +kernel
theorem dX9_advance_13 : decode cX9_advance 13 = .ok (.getfield 25, 3) := by decide +kernel
theorem dX9_advance_16 : decode cX9_advance 16 = .ok (.if_icmp .ge 32, 3) := by decide +kernel
theorem dX9_advance_19 : decode cX9_advance 19 = .ok (.aload_n 0, 1) := by decide +kernel
theorem dX9_advance_20 : decode cX9_advance 20 = .ok (.getfield 9, 3) := by decide +kernel
theorem dX9_advance_23 : decode cX9_advance 23 = .ok (.aload_n 0, 1) := by decide +kernel
theorem dX9_advance_24 : decode cX9_advance 24 = .ok (.getfield 34, 3) := by decide +kernel
theorem dX9_advance_27 : decode cX9_advance 27 = .ok (.baload, 1) := by decide +kernel
theorem dX9_advance_28 : decode cX9_advance 28 = .ok (.invokestatic 37, 3) := by decide +kernel
theorem dX9_advance_31 : decode cX9_advance 31 = .ok (.iconst 5, 1) := by decide +kernel
theorem dX9_advance_32 : decode cX9_advance 32 = .ok (.if_icmp .ne 16, 3) := by decide +kernel
theorem dX9_advance_35 : decode cX9_advance 35 = .ok (.aload_n 0, 1) := by decide +kernel
theorem dX9_advance_36 : decode cX9_advance 36 = .ok (.dup, 1) := by decide +kernel
theorem dX9_advance_37 : decode cX9_advance 37 = .ok (.getfield 34, 3) := by decide +kernel
theorem dX9_advance_40 : decode cX9_advance 40 = .ok (.iconst 1, 1) := by decide +kernel
theorem dX9_advance_41 : decode cX9_advance 41 = .ok (.iadd, 1) := by decide +kernel
theorem dX9_advance_42 : decode cX9_advance 42 = .ok (.putfield 34, 3) := by decide +kernel
theorem dX9_advance_45 : decode cX9_advance 45 = .ok (.goto (-37), 3) := by decide +kernel
theorem dX9_advance_48 : decode cX9_advance 48 = .ok (.aload_n 0, 1) := by decide +kernel
theorem dX9_advance_49 : decode cX9_advance 49 = .ok (.aload_n 0, 1) := by decide +kernel
theorem dX9_advance_50 : decode cX9_advance 50 = .ok (.getfield 34, 3) := by decide +kernel
theorem dX9_advance_53 : decode cX9_advance 53 = .ok (.putfield 28, 3) := by decide +kernel
theorem dX9_advance_56 : decode cX9_advance 56 = .ok (.aload_n 0, 1) := by decide +kernel
theorem dX9_advance_57 : decode cX9_advance 57 = .ok (.getfield 34, 3) := by decide +kernel
theorem dX9_advance_60 : decode cX9_advance 60 = .ok (.aload_n 0, 1) := by decide +kernel
theorem dX9_advance_61 : decode cX9_advance 61 = .ok (.getfield 25, 3) := by decide +kernel
theorem dX9_advance_64 : decode cX9_advance 64 = .ok (.if_icmp .lt 9, 3) := by decide +kernel
theorem dX9_advance_67 : decode cX9_advance 67 = .ok (.aload_n 0, 1) := by decide +kernel
theorem dX9_advance_68 : decode cX9_advance 68 = .ok (.iconst 0, 1) := by decide +kernel
theorem dX9_advance_69 : decode cX9_advance 69 = .ok (.putfield 41, 3) := by decide +kernel
theorem dX9_advance_72 : decode cX9_advance 72 = .ok (.return_, 1) := by decide +kernel
theorem dX9_advance_73 : decode cX9_advance 73 = .ok (.aload_n 0, 1) := by decide +kernel
theorem dX9_advance_74 : decode cX9_advance 74 = .ok (.aload_n 0, 1) := by decide +kernel
theorem dX9_advance_75 : decode cX9_advance 75 = .ok (.getfield 9, 3) := by decide +kernel
theorem dX9_advance_78 : decode cX9_advance 78 = .ok (.aload_n 0, 1) := by decide +kernel
theorem dX9_advance_79 : decode cX9_advance 79 = .ok (.getfield 34, 3) := by decide +kernel
theorem dX9_advance_82 : decode cX9_advance 82 = .ok (.baload, 1) := by decide +kernel
theorem dX9_advance_83 : decode cX9_advance 83 = .ok (.invokestatic 37, 3) := by decide +kernel
theorem dX9_advance_86 : decode cX9_advance 86 = .ok (.putfield 41, 3) := by decide +kernel
theorem dX9_advance_89 : decode cX9_advance 89 = .ok (.aload_n 0, 1) := by decide +kernel
theorem dX9_advance_90 : decode cX9_advance 90 = .ok (.getfield 41, 3) := by decide +kernel
theorem dX9_advance_93 : decode cX9_advance 93 = .ok (.iconst 1, 1) := by decide +kernel
theorem dX9_advance_94 : decode cX9_advance 94 = .ok (.if_icmp .ne 8, 3) := by decide +kernel
theorem dX9_advance_97 : decode cX9_advance 97 = .ok (.bipush 6, 2) := by decide +kernel
theorem dX9_advance_99 : decode cX9_advance 99 = .ok (.goto 16, 3) := by decide +kernel
theorem dX9_advance_102 : decode cX9_advance 102 = .ok (.aload_n 0, 1) := by decide +kernel
theorem dX9_advance_103 : decode cX9_advance 103 = .ok (.getfield 41, 3) := by decide +kernel
theorem dX9_advance_106 : decode cX9_advance 106 = .ok (.iconst 2, 1) := by decide +kernel
theorem dX9_advance_107 : decode cX9_advance 107 = .ok (.if_icmp .ne 7, 3) := by decide +kernel
theorem dX9_advance_110 : decode cX9_advance 110 = .ok (.iconst 4, 1) := by decide +kernel
theorem dX9_advance_111 : decode cX9_advance 111 = .ok (.goto 4, 3) := by decide +kernel
theorem dX9_advance_114 : decode cX9_advance 114 = .ok (.iconst 1, 1) := by decide +kernel
theorem dX9_advance_115 : decode cX9_advance 115 = .ok (.istore_n 1, 1) := by decide +kernel
theorem dX9_advance_116 : decode cX9_advance 116 = .ok (.aload_n 0, 1) := by decide +kernel
theorem dX9_advance_117 : decode cX9_advance 117 = .ok (.dup, 1) := by decide +kernel
theorem dX9_advance_118 : decode cX9_advance 118 = .ok (.getfield 28, 3) := by decide +kernel
theorem dX9_advance_121 : decode cX9_advance 121 = .ok (.iconst 1, 1) := by decide +kernel
theorem dX9_advance_122 : decode cX9_advance 122 = .ok (.iadd, 1) := by decide +kernel
theorem dX9_advance_123 : decode cX9_advance 123 = .ok (.putfield 28, 3) := by decide +kernel
theorem dX9_advance_126 : decode cX9_advance 126 = .ok (.iload_n 1, 1) := by decide +kernel
theorem dX9_advance_127 : decode cX9_advance 127 = .ok (.iconst 1, 1) := by decide +kernel
theorem dX9_advance_128 : decode cX9_advance 128 = .ok (.if_icmp .le 46, 3) := by decide +kernel
theorem dX9_advance_131 : decode cX9_advance 131 = .ok (.aload_n 0, 1) := by decide +kernel
theorem dX9_advance_132 : decode cX9_advance 132 = .ok (.getfield 28, 3) := by decide +kernel
theorem dX9_advance_135 : decode cX9_advance 135 = .ok (.aload_n 0, 1) := by decide +kernel
theorem dX9_advance_136 : decode cX9_advance 136 = .ok (.getfield 25, 3) := by decide +kernel
theorem dX9_advance_139 : decode cX9_advance 139 = .ok (.if_icmp .ge 35, 3) := by decide +kernel
theorem dX9_advance_142 : decode cX9_advance 142 = .ok (.aload_n 0, 1) := by decide +kernel
theorem dX9_advance_143 : decode cX9_advance 143 = .ok (.getfield 9, 3) := by decide +kernel
theorem dX9_advance_146 : decode cX9_advance 146 = .ok (.aload_n 0, 1) := by decide +kernel
theorem dX9_advance_147 : decode cX9_advance 147 = .ok (.getfield 28, 3) := by decide +kernel
theorem dX9_advance_150 : decode cX9_advance 150 = .ok (.baload, 1) := by decide +kernel
theorem dX9_advance_151 : decode cX9_advance 151 = .ok (.invokestatic 37, 3) := by decide +kernel
theorem dX9_advance_154 : decode cX9_advance 154 = .ok (.aload_n 0, 1) := by decide +kernel
theorem dX9_advance_155 : decode cX9_advance 155 = .ok (.getfield 41, 3) := by decide +kernel
theorem dX9_advance_158 : decode cX9_advance 158 = .ok (.if_icmp .ne 16, 3) := by decide +kernel
theorem dX9_advance_161 : decode cX9_advance 161 = .ok (.aload_n 0, 1) := by decide +kernel
theorem dX9_advance_162 : decode cX9_advance 162 = .ok (.dup, 1) := by decide +kernel
theorem dX9_advance_163 : decode cX9_advance 163 = .ok (.getfield 28, 3) := by decide +kernel
theorem dX9_advance_166 : decode cX9_advance 166 = .ok (.iconst 1, 1) := by decide +kernel
theorem dX9_advance_167 : decode cX9_advance 167 = .ok (.iadd, 1) := by decide +kernel
theorem dX9_advance_168 : decode cX9_advance 168 = .ok (.putfield 28, 3) := by decide +kernel
theorem dX9_advance_171 : decode cX9_advance 171 = .ok (.goto (-45), 3) := by decide +kernel
theorem dX9_advance_174 : decode cX9_advance 174 = .ok (.aload_n 0, 1) := by decide +kernel
theorem dX9_advance_175 : decode cX9_advance 175 = .ok (.getfield 28, 3) := by decide +kernel
theorem dX9_advance_178 : decode cX9_advance 178 = .ok (.aload_n 0, 1) := by decide +kernel
theorem dX9_advance_179 : decode cX9_advance 179 = .ok (.getfield 34, 3) := by decide +kernel
theorem dX9_advance_182 : decode cX9_advance 182 = .ok (.isub, 1) := by decide +kernel
theorem dX9_advance_183 : decode cX9_advance 183 = .ok (.iload_n 1, 1) := by decide +kernel
theorem dX9_advance_184 : decode cX9_advance 184 = .ok (.if_icmp .le 8, 3) := by decide +kernel
theorem dX9_advance_187 : decode cX9_advance 187 = .ok (.aload_n 0, 1) := by decide +kernel
theorem dX9_advance_188 : decode cX9_advance 188 = .ok (.iconst 4, 1) := by decide +kernel
theorem dX9_advance_189 : decode cX9_advance 189 = .ok (.putfield 41, 3) := by decide +kernel
theorem dX9_advance_192 : decode cX9_advance 192 = .ok (.return_, 1) := by decide +kernel
abbrev LX9_advance_8 (I : MI) (Q : MI → Prop) : Prop := WP mX9_advance 286 Rf0 8 [some (.ref 1), none] [] I (qv Q)
abbrev LX9_advance_48 (I : MI) (Q : MI → Prop) : Prop := WP mX9_advance 286 Rf0 48 [some (.ref 1), none] [] I (qv Q)
abbrev LX9_advance_115 (t0 : Int32) (I : MI) (Q : MI → Prop) : Prop := WP mX9_advance 286 Rf0 115 [some (.ref 1), none] [.int t0] I (qv Q)
abbrev LX9_advance_126 (l1 : Int32) (I : MI) (Q : MI → Prop) : Prop := WP mX9_advance 286 Rf0 126 [some (.ref 1), some (.int l1)] [] I (qv Q)
abbrev LX9_advance_174 (l1 : Int32) (I : MI) (Q : MI → Prop) : Prop := WP mX9_advance 286 Rf0 174 [some (.ref 1), some (.int l1)] [] I (qv Q)
set_option maxRecDepth 20000 in
theorem rX9_advance_8 {I : MI} {Q : MI → Prop} (H : (((I 1 2) ≤ (I 1 3) → (LX9_advance_48  I Q)) ∧ (¬ (I 1 2) ≤ (I 1 3) → (vp_in (I 1 3) 900 ∧ Wi mX9_kindOf [.int (I 2 (I 1 3).toNatClampNeg)] I (fun r2 I1 => ((¬ r2 = 5 → (LX9_advance_48  I1 Q)) ∧ (r2 = 5 → (∀ I3 : MI, I3 = up2 I1 1 3 ((I1 1 3) + 1) → LX9_advance_8  I3 Q)))))))) : LX9_advance_8  I Q := by
  show WP mX9_advance 286 Rf0 8 [some (.ref 1), none] [] I (qv Q)
  refine w_aload_n dX9_advance_8 rfl rfl ?_
  refine w_getI dX9_advance_9 fl_9_34 okC9 kd_1 (by decide) (by decide) rfl ?_
  refine w_aload_n dX9_advance_12 rfl rfl ?_
  refine w_getI dX9_advance_13 fl_9_25 okC9 kd_1 (by decide) (by decide) rfl ?_
  refine w_icmp_ge (t := 48) dX9_advance_16 (by decide) (fun h => ?_) (fun h => ?_)
  · replace H := H.1 h
    skip
    exact H
  · replace H := H.2 h
    refine w_aload_n dX9_advance_19 rfl rfl ?_
    refine w_getR dX9_advance_20 fl_9_9 okC9 kd_1 (by decide) (by decide) rfl rf_1_0 ?_
    refine w_aload_n dX9_advance_23 rfl rfl ?_
    refine w_getI dX9_advance_24 fl_9_34 okC9 kd_1 (by decide) (by decide) rfl ?_
    refine w_bald dX9_advance_27 kd_2 (by decide) H.1 ?_
    replace H := H.2
    refine w_callS (st := []) (As := [.int (I 2 (I 1 3).toNatClampNeg)]) dX9_advance_28 ml_9_37 okX9_kindOf rfl (Nat.le_of_ble_eq_true rfl) (by decide) (Nat.le_of_ble_eq_true rfl) (wc_i H (fun r2 I1 H => ?_))
    refine w_iconst (v := 5) dX9_advance_31 (by decide) ?_
    refine w_icmp_ne (t := 48) dX9_advance_32 (by decide) (fun h => ?_) (fun h => ?_)
    · replace H := H.1 h
      skip
      exact H
    · replace H := H.2 h
      refine w_aload_n dX9_advance_35 rfl rfl ?_
      refine w_dup dX9_advance_36 rfl ?_
      refine w_getI dX9_advance_37 fl_9_34 okC9 kd_1 (by decide) (by decide) rfl ?_
      refine w_iconst (v := 1) dX9_advance_40 (by decide) ?_
      refine w_iadd dX9_advance_41 ?_
      refine w_putI dX9_advance_42 fl_9_34 okC9 kd_1 (by decide) (by decide) rfl rfl rfl (w_up fun I3 hI => ?_)
      replace H := H I3 hI
      refine w_goto (t := 8) dX9_advance_45 (by decide) ?_
      skip
      exact H
set_option maxRecDepth 20000 in
theorem rX9_advance_48 {I : MI} {Q : MI → Prop} (H : (∀ I1 : MI, I1 = up2 I 1 4 (I 1 3) → ((I1 1 3) < (I1 1 2) → (vp_in (I1 1 3) 900 ∧ Wi mX9_kindOf [.int (I1 2 (I1 1 3).toNatClampNeg)] I1 (fun r3 I2 => (∀ I4 : MI, I4 = up2 I2 1 5 r3 → (¬ (I4 1 5) = 1 → ((¬ (I4 1 5) = 2 → (LX9_advance_115 1 I4 Q)) ∧ ((I4 1 5) = 2 → (LX9_advance_115 4 I4 Q)))) ∧ ((I4 1 5) = 1 → (LX9_advance_115 6 I4 Q)))))) ∧ (¬ (I1 1 3) < (I1 1 2) → (∀ I2 : MI, I2 = up2 I1 1 5 0 → Q I2)))) : LX9_advance_48  I Q := by
  show WP mX9_advance 286 Rf0 48 [some (.ref 1), none] [] I (qv Q)
  refine w_aload_n dX9_advance_48 rfl rfl ?_
  refine w_aload_n dX9_advance_49 rfl rfl ?_
  refine w_getI dX9_advance_50 fl_9_34 okC9 kd_1 (by decide) (by decide) rfl ?_
  refine w_putI dX9_advance_53 fl_9_28 okC9 kd_1 (by decide) (by decide) rfl rfl rfl (w_up fun I1 hI => ?_)
  replace H := H I1 hI
  refine w_aload_n dX9_advance_56 rfl rfl ?_
  refine w_getI dX9_advance_57 fl_9_34 okC9 kd_1 (by decide) (by decide) rfl ?_
  refine w_aload_n dX9_advance_60 rfl rfl ?_
  refine w_getI dX9_advance_61 fl_9_25 okC9 kd_1 (by decide) (by decide) rfl ?_
  refine w_icmp_lt (t := 73) dX9_advance_64 (by decide) (fun h => ?_) (fun h => ?_)
  · replace H := H.1 h
    refine w_aload_n dX9_advance_73 rfl rfl ?_
    refine w_aload_n dX9_advance_74 rfl rfl ?_
    refine w_getR dX9_advance_75 fl_9_9 okC9 kd_1 (by decide) (by decide) rfl rf_1_0 ?_
    refine w_aload_n dX9_advance_78 rfl rfl ?_
    refine w_getI dX9_advance_79 fl_9_34 okC9 kd_1 (by decide) (by decide) rfl ?_
    refine w_bald dX9_advance_82 kd_2 (by decide) H.1 ?_
    replace H := H.2
    refine w_callS (st := [.ref 1]) (As := [.int (I1 2 (I1 1 3).toNatClampNeg)]) dX9_advance_83 ml_9_37 okX9_kindOf rfl (Nat.le_of_ble_eq_true rfl) (by decide) (Nat.le_of_ble_eq_true rfl) (wc_i H (fun r3 I2 H => ?_))
    refine w_putI dX9_advance_86 fl_9_41 okC9 kd_1 (by decide) (by decide) rfl rfl rfl (w_up fun I4 hI => ?_)
    replace H := H I4 hI
    refine w_aload_n dX9_advance_89 rfl rfl ?_
    refine w_getI dX9_advance_90 fl_9_41 okC9 kd_1 (by decide) (by decide) rfl ?_
    refine w_iconst (v := 1) dX9_advance_93 (by decide) ?_
    refine w_icmp_ne (t := 102) dX9_advance_94 (by decide) (fun h => ?_) (fun h => ?_)
    · replace H := H.1 h
      refine w_aload_n dX9_advance_102 rfl rfl ?_
      refine w_getI dX9_advance_103 fl_9_41 okC9 kd_1 (by decide) (by decide) rfl ?_
      refine w_iconst (v := 2) dX9_advance_106 (by decide) ?_
      refine w_icmp_ne (t := 114) dX9_advance_107 (by decide) (fun h => ?_) (fun h => ?_)
      · replace H := H.1 h
        refine w_iconst (v := 1) dX9_advance_114 (by decide) ?_
        skip
        exact H
      · replace H := H.2 h
        refine w_iconst (v := 4) dX9_advance_110 (by decide) ?_
        refine w_goto (t := 115) dX9_advance_111 (by decide) ?_
        skip
        exact H
    · replace H := H.2 h
      refine w_bipush (v := 6) dX9_advance_97 (by decide) ?_
      refine w_goto (t := 115) dX9_advance_99 (by decide) ?_
      skip
      exact H
  · replace H := H.2 h
    refine w_aload_n dX9_advance_67 rfl rfl ?_
    refine w_iconst (v := 0) dX9_advance_68 (by decide) ?_
    refine w_putI dX9_advance_69 fl_9_41 okC9 kd_1 (by decide) (by decide) rfl rfl rfl (w_up fun I2 hI => ?_)
    replace H := H I2 hI
    exact w_vret dX9_advance_72 rfl ⟨rfl, H⟩
set_option maxRecDepth 20000 in
theorem rX9_advance_115 {t0 : Int32} {I : MI} {Q : MI → Prop} (H : (∀ I1 : MI, I1 = up2 I 1 4 ((I 1 4) + 1) → LX9_advance_126 t0 I1 Q)) : LX9_advance_115 t0 I Q := by
  show WP mX9_advance 286 Rf0 115 [some (.ref 1), none] [.int t0] I (qv Q)
  refine w_istore_n (ls' := [some (.ref 1), some (.int t0)]) dX9_advance_115 rfl (by decide) rfl rfl ?_
  refine w_aload_n dX9_advance_116 rfl rfl ?_
  refine w_dup dX9_advance_117 rfl ?_
  refine w_getI dX9_advance_118 fl_9_28 okC9 kd_1 (by decide) (by decide) rfl ?_
  refine w_iconst (v := 1) dX9_advance_121 (by decide) ?_
  refine w_iadd dX9_advance_122 ?_
  refine w_putI dX9_advance_123 fl_9_28 okC9 kd_1 (by decide) (by decide) rfl rfl rfl (w_up fun I1 hI => ?_)
  replace H := H I1 hI
  skip
  exact H
set_option maxRecDepth 20000 in
theorem rX9_advance_126 {l1 : Int32} {I : MI} {Q : MI → Prop} (H : ((l1 ≤ 1 → (LX9_advance_174 l1 I Q)) ∧ (¬ l1 ≤ 1 → (((I 1 2) ≤ (I 1 4) → (LX9_advance_174 l1 I Q)) ∧ (¬ (I 1 2) ≤ (I 1 4) → (vp_in (I 1 4) 900 ∧ Wi mX9_kindOf [.int (I 2 (I 1 4).toNatClampNeg)] I (fun r2 I1 => ((¬ r2 = (I1 1 5) → (LX9_advance_174 l1 I1 Q)) ∧ (r2 = (I1 1 5) → (∀ I3 : MI, I3 = up2 I1 1 4 ((I1 1 4) + 1) → LX9_advance_126 l1 I3 Q)))))))))) : LX9_advance_126 l1 I Q := by
  show WP mX9_advance 286 Rf0 126 [some (.ref 1), some (.int l1)] [] I (qv Q)
  refine w_iload_n dX9_advance_126 rfl rfl ?_
  refine w_iconst (v := 1) dX9_advance_127 (by decide) ?_
  refine w_icmp_le (t := 174) dX9_advance_128 (by decide) (fun h => ?_) (fun h => ?_)
  · replace H := H.1 h
    skip
    exact H
  · replace H := H.2 h
    refine w_aload_n dX9_advance_131 rfl rfl ?_
    refine w_getI dX9_advance_132 fl_9_28 okC9 kd_1 (by decide) (by decide) rfl ?_
    refine w_aload_n dX9_advance_135 rfl rfl ?_
    refine w_getI dX9_advance_136 fl_9_25 okC9 kd_1 (by decide) (by decide) rfl ?_
    refine w_icmp_ge (t := 174) dX9_advance_139 (by decide) (fun h => ?_) (fun h => ?_)
    · replace H := H.1 h
      skip
      exact H
    · replace H := H.2 h
      refine w_aload_n dX9_advance_142 rfl rfl ?_
      refine w_getR dX9_advance_143 fl_9_9 okC9 kd_1 (by decide) (by decide) rfl rf_1_0 ?_
      refine w_aload_n dX9_advance_146 rfl rfl ?_
      refine w_getI dX9_advance_147 fl_9_28 okC9 kd_1 (by decide) (by decide) rfl ?_
      refine w_bald dX9_advance_150 kd_2 (by decide) H.1 ?_
      replace H := H.2
      refine w_callS (st := []) (As := [.int (I 2 (I 1 4).toNatClampNeg)]) dX9_advance_151 ml_9_37 okX9_kindOf rfl (Nat.le_of_ble_eq_true rfl) (by decide) (Nat.le_of_ble_eq_true rfl) (wc_i H (fun r2 I1 H => ?_))
      refine w_aload_n dX9_advance_154 rfl rfl ?_
      refine w_getI dX9_advance_155 fl_9_41 okC9 kd_1 (by decide) (by decide) rfl ?_
      refine w_icmp_ne (t := 174) dX9_advance_158 (by decide) (fun h => ?_) (fun h => ?_)
      · replace H := H.1 h
        skip
        exact H
      · replace H := H.2 h
        refine w_aload_n dX9_advance_161 rfl rfl ?_
        refine w_dup dX9_advance_162 rfl ?_
        refine w_getI dX9_advance_163 fl_9_28 okC9 kd_1 (by decide) (by decide) rfl ?_
        refine w_iconst (v := 1) dX9_advance_166 (by decide) ?_
        refine w_iadd dX9_advance_167 ?_
        refine w_putI dX9_advance_168 fl_9_28 okC9 kd_1 (by decide) (by decide) rfl rfl rfl (w_up fun I3 hI => ?_)
        replace H := H I3 hI
        refine w_goto (t := 126) dX9_advance_171 (by decide) ?_
        skip
        exact H
set_option maxRecDepth 20000 in
theorem rX9_advance_174 {l1 : Int32} {I : MI} {Q : MI → Prop} (H : ((((I 1 4) - (I 1 3)) ≤ l1 → (Q I)) ∧ (¬ ((I 1 4) - (I 1 3)) ≤ l1 → (∀ I1 : MI, I1 = up2 I 1 5 4 → Q I1)))) : LX9_advance_174 l1 I Q := by
  show WP mX9_advance 286 Rf0 174 [some (.ref 1), some (.int l1)] [] I (qv Q)
  refine w_aload_n dX9_advance_174 rfl rfl ?_
  refine w_getI dX9_advance_175 fl_9_28 okC9 kd_1 (by decide) (by decide) rfl ?_
  refine w_aload_n dX9_advance_178 rfl rfl ?_
  refine w_getI dX9_advance_179 fl_9_34 okC9 kd_1 (by decide) (by decide) rfl ?_
  refine w_isub dX9_advance_182 ?_
  refine w_iload_n dX9_advance_183 rfl rfl ?_
  refine w_icmp_le (t := 192) dX9_advance_184 (by decide) (fun h => ?_) (fun h => ?_)
  · replace H := H.1 h
    exact w_vret dX9_advance_192 rfl ⟨rfl, H⟩
  · replace H := H.2 h
    refine w_aload_n dX9_advance_187 rfl rfl ?_
    refine w_iconst (v := 4) dX9_advance_188 (by decide) ?_
    refine w_putI dX9_advance_189 fl_9_41 okC9 kd_1 (by decide) (by decide) rfl rfl rfl (w_up fun I1 hI => ?_)
    replace H := H I1 hI
    exact w_vret dX9_advance_192 rfl ⟨rfl, H⟩
set_option maxRecDepth 20000 in
theorem rX9_advance {I : MI} {Q : MI → Prop} (H : (∀ I1 : MI, I1 = up2 I 1 3 (I 1 4) → LX9_advance_8  I1 Q)) : Wv mX9_advance [.ref 1] I Q := by
  show WP mX9_advance 286 Rf0 0 [some (.ref 1), none] [] I (qv Q)
  refine w_aload_n dX9_advance_0 rfl rfl ?_
  refine w_aload_n dX9_advance_1 rfl rfl ?_
  refine w_getI dX9_advance_2 fl_9_28 okC9 kd_1 (by decide) (by decide) rfl ?_
  refine w_putI dX9_advance_5 fl_9_34 okC9 kd_1 (by decide) (by decide) rfl rfl rfl (w_up fun I1 hI => ?_)
  replace H := H I1 hI
  skip
  exact H
theorem dX9_kindOf_0 : decode cX9_kindOf 0 = .ok (.iload_n 0, 1) := by decide +kernel
theorem dX9_kindOf_1 : decode cX9_kindOf 1 = .ok (.bipush 32, 2) := by decide +kernel
theorem dX9_kindOf_3 : decode cX9_kindOf 3 = .ok (.if_icmp .eq 9, 3) := by decide +kernel
theorem dX9_kindOf_6 : decode cX9_kindOf 6 = .ok (.iload_n 0, 1) := by decide +kernel
theorem dX9_kindOf_7 : decode cX9_kindOf 7 = .ok (.bipush 10, 2) := by decide +kernel
theorem dX9_kindOf_9 : decode cX9_kindOf 9 = .ok (.if_icmp .ne 5, 3) := by decide +kernel
theorem dX9_kindOf_12 : decode cX9_kindOf 12 = .ok (.iconst 5, 1) := by decide +kernel
theorem dX9_kindOf_13 : decode cX9_kindOf 13 = .ok (.ireturn, 1) := by decide +kernel
theorem dX9_kindOf_14 : decode cX9_kindOf 14 = .ok (.iload_n 0, 1) := by decide +kernel
theorem dX9_kindOf_15 : decode cX9_kindOf 15 = .ok (.bipush 97, 2) := by decide +kernel
theorem dX9_kindOf_17 : decode cX9_kindOf 17 = .ok (.if_icmp .lt 11, 3) := by decide +kernel
theorem dX9_kindOf_20 : decode cX9_kindOf 20 = .ok (.iload_n 0, 1) := by decide +kernel
theorem dX9_kindOf_21 : decode cX9_kindOf 21 = .ok (.bipush 122, 2) := by decide +kernel
theorem dX9_kindOf_23 : decode cX9_kindOf 23 = .ok (.if_icmp .gt 5, 3) := by decide +kernel
theorem dX9_kindOf_26 : decode cX9_kindOf 26 = .ok (.iconst 1, 1) := by decide +kernel
theorem dX9_kindOf_27 : decode cX9_kindOf 27 = .ok (.ireturn, 1) := by decide +kernel
theorem dX9_kindOf_28 : decode cX9_kindOf 28 = .ok (.iload_n 0, 1) := by decide +kernel
theorem dX9_kindOf_29 : decode cX9_kindOf 29 = .ok (.bipush 48, 2) := by decide +kernel
theorem dX9_kindOf_31 : decode cX9_kindOf 31 = .ok (.if_icmp .lt 11, 3) := by decide +kernel
theorem dX9_kindOf_34 : decode cX9_kindOf 34 = .ok (.iload_n 0, 1) := by decide +kernel
theorem dX9_kindOf_35 : decode cX9_kindOf 35 = .ok (.bipush 57, 2) := by decide +kernel
theorem dX9_kindOf_37 : decode cX9_kindOf 37 = .ok (.if_icmp .gt 5, 3) := by decide +kernel
theorem dX9_kindOf_40 : decode cX9_kindOf 40 = .ok (.iconst 2, 1) := by decide +kernel
theorem dX9_kindOf_41 : decode cX9_kindOf 41 = .ok (.ireturn, 1) := by decide +kernel
theorem dX9_kindOf_42 : decode cX9_kindOf 42 = .ok (.iload_n 0, 1) := by decide +kernel
theorem dX9_kindOf_43 : decode cX9_kindOf 43 = .ok (.bipush 59, 2) := by decide +kernel
theorem dX9_kindOf_45 : decode cX9_kindOf 45 = .ok (.if_icmp .ne 7, 3) := by decide +kernel
theorem dX9_kindOf_48 : decode cX9_kindOf 48 = .ok (.iconst 3, 1) := by decide +kernel
theorem dX9_kindOf_49 : decode cX9_kindOf 49 = .ok (.goto 4, 3) := by decide +kernel
theorem dX9_kindOf_52 : decode cX9_kindOf 52 = .ok (.iconst 4, 1) := by decide +kernel
theorem dX9_kindOf_53 : decode cX9_kindOf 53 = .ok (.ireturn, 1) := by decide +kernel
abbrev LX9_kindOf_28 (l0 : Int32) (I : MI) (Q : Int32 → MI → Prop) : Prop := WP mX9_kindOf 286 Rf0 28 [some (.int l0)] [] I (qi Q)
abbrev LX9_kindOf_42 (l0 : Int32) (I : MI) (Q : Int32 → MI → Prop) : Prop := WP mX9_kindOf 286 Rf0 42 [some (.int l0)] [] I (qi Q)
set_option maxRecDepth 20000 in
theorem rX9_kindOf_28 {l0 : Int32} {I : MI} {Q : Int32 → MI → Prop} (H : ((l0 < 48 → (LX9_kindOf_42 l0 I Q)) ∧ (¬ l0 < 48 → ((57 < l0 → (LX9_kindOf_42 l0 I Q)) ∧ (¬ 57 < l0 → (Q 2 I)))))) : LX9_kindOf_28 l0 I Q := by
  show WP mX9_kindOf 286 Rf0 28 [some (.int l0)] [] I (qi Q)
  refine w_iload_n dX9_kindOf_28 rfl rfl ?_
  refine w_bipush (v := 48) dX9_kindOf_29 (by decide) ?_
  refine w_icmp_lt (t := 42) dX9_kindOf_31 (by decide) (fun h => ?_) (fun h => ?_)
  · replace H := H.1 h
    skip
    exact H
  · replace H := H.2 h
    refine w_iload_n dX9_kindOf_34 rfl rfl ?_
    refine w_bipush (v := 57) dX9_kindOf_35 (by decide) ?_
    refine w_icmp_gt (t := 42) dX9_kindOf_37 (by decide) (fun h => ?_) (fun h => ?_)
    · replace H := H.1 h
      skip
      exact H
    · replace H := H.2 h
      refine w_iconst (v := 2) dX9_kindOf_40 (by decide) ?_
      exact w_iret dX9_kindOf_41 rfl ⟨_, rfl, H⟩
set_option maxRecDepth 20000 in
theorem rX9_kindOf_42 {l0 : Int32} {I : MI} {Q : Int32 → MI → Prop} (H : ((¬ l0 = 59 → (Q 4 I)) ∧ (l0 = 59 → (Q 3 I)))) : LX9_kindOf_42 l0 I Q := by
  show WP mX9_kindOf 286 Rf0 42 [some (.int l0)] [] I (qi Q)
  refine w_iload_n dX9_kindOf_42 rfl rfl ?_
  refine w_bipush (v := 59) dX9_kindOf_43 (by decide) ?_
  refine w_icmp_ne (t := 52) dX9_kindOf_45 (by decide) (fun h => ?_) (fun h => ?_)
  · replace H := H.1 h
    refine w_iconst (v := 4) dX9_kindOf_52 (by decide) ?_
    exact w_iret dX9_kindOf_53 rfl ⟨_, rfl, H⟩
  · replace H := H.2 h
    refine w_iconst (v := 3) dX9_kindOf_48 (by decide) ?_
    refine w_goto (t := 53) dX9_kindOf_49 (by decide) ?_
    exact w_iret dX9_kindOf_53 rfl ⟨_, rfl, H⟩
set_option maxRecDepth 20000 in
theorem rX9_kindOf {a1 : Int32} {I : MI} {Q : Int32 → MI → Prop} (H : ((a1 = 32 → (Q 5 I)) ∧ (¬ a1 = 32 → ((¬ a1 = 10 → ((a1 < 97 → (LX9_kindOf_28 a1 I Q)) ∧ (¬ a1 < 97 → ((122 < a1 → (LX9_kindOf_28 a1 I Q)) ∧ (¬ 122 < a1 → (Q 1 I)))))) ∧ (a1 = 10 → (Q 5 I)))))) : Wi mX9_kindOf [.int a1] I Q := by
  show WP mX9_kindOf 286 Rf0 0 [some (.int a1)] [] I (qi Q)
  refine w_iload_n dX9_kindOf_0 rfl rfl ?_
  refine w_bipush (v := 32) dX9_kindOf_1 (by decide) ?_
  refine w_icmp_eq (t := 12) dX9_kindOf_3 (by decide) (fun h => ?_) (fun h => ?_)
  · replace H := H.1 h
    refine w_iconst (v := 5) dX9_kindOf_12 (by decide) ?_
    exact w_iret dX9_kindOf_13 rfl ⟨_, rfl, H⟩
  · replace H := H.2 h
    refine w_iload_n dX9_kindOf_6 rfl rfl ?_
    refine w_bipush (v := 10) dX9_kindOf_7 (by decide) ?_
    refine w_icmp_ne (t := 14) dX9_kindOf_9 (by decide) (fun h => ?_) (fun h => ?_)
    · replace H := H.1 h
      refine w_iload_n dX9_kindOf_14 rfl rfl ?_
      refine w_bipush (v := 97) dX9_kindOf_15 (by decide) ?_
      refine w_icmp_lt (t := 28) dX9_kindOf_17 (by decide) (fun h => ?_) (fun h => ?_)
      · replace H := H.1 h
        skip
        exact H
      · replace H := H.2 h
        refine w_iload_n dX9_kindOf_20 rfl rfl ?_
        refine w_bipush (v := 122) dX9_kindOf_21 (by decide) ?_
        refine w_icmp_gt (t := 28) dX9_kindOf_23 (by decide) (fun h => ?_) (fun h => ?_)
        · replace H := H.1 h
          skip
          exact H
        · replace H := H.2 h
          refine w_iconst (v := 1) dX9_kindOf_26 (by decide) ?_
          exact w_iret dX9_kindOf_27 rfl ⟨_, rfl, H⟩
    · replace H := H.2 h
      refine w_iconst (v := 5) dX9_kindOf_12 (by decide) ?_
      exact w_iret dX9_kindOf_13 rfl ⟨_, rfl, H⟩
theorem dX9_value_0 : decode cX9_value 0 = .ok (.iconst 0, 1) := by decide +kernel
theorem dX9_value_1 : decode cX9_value 1 = .ok (.istore_n 1, 1) := by decide +kernel
theorem dX9_value_2 : decode cX9_value 2 = .ok (.aload_n 0, 1) := by decide +kernel
theorem dX9_value_3 : decode cX9_value 3 = .ok (.getfield 34, 3) := by decide +kernel
theorem dX9_value_6 : decode cX9_value 6 = .ok (.istore_n 2, 1) := by decide +kernel
theorem dX9_value_7 : decode cX9_value 7 = .ok (.iload_n 2, 1) := by decide +kernel
theorem dX9_value_8 : decode cX9_value 8 = .ok (.aload_n 0, 1) := by decide +kernel
theorem dX9_value_9 : decode cX9_value 9 = .ok (.getfield 28, 3) := by decide +kernel
theorem dX9_value_12 : decode cX9_value 12 = .ok (.if_icmp .ge 24, 3) := by decide +kernel
theorem dX9_value_15 : decode cX9_value 15 = .ok (.iload_n 1, 1) := by decide +kernel
theorem dX9_value_16 : decode cX9_value 16 = .ok (.bipush 10, 2) := by decide +kernel
theorem dX9_value_18 : decode cX9_value 18 = .ok (.imul, 1) := by decide +kernel
theorem dX9_value_19 : decode cX9_value 19 = .ok (.aload_n 0, 1) := by decide +kernel
theorem dX9_value_20 : decode cX9_value 20 = .ok (.getfield 9, 3) := by decide +kernel
theorem dX9_value_23 : decode cX9_value 23 = .ok (.iload_n 2, 1) := by decide +kernel
theorem dX9_value_24 : decode cX9_value 24 = .ok (.baload, 1) := by decide +kernel
theorem dX9_value_25 : decode cX9_value 25 = .ok (.iadd, 1) := by decide +kernel
theorem dX9_value_26 : decode cX9_value 26 = .ok (.bipush 48, 2) := by decide +kernel
theorem dX9_value_28 : decode cX9_value 28 = .ok (.isub, 1) := by decide +kernel
theorem dX9_value_29 : decode cX9_value 29 = .ok (.istore_n 1, 1) := by decide +kernel
theorem dX9_value_30 : decode cX9_value 30 = .ok (.iinc 2 1, 3) := by decide +kernel
theorem dX9_value_33 : decode cX9_value 33 = .ok (.goto (-26), 3) := by decide +kernel
theorem dX9_value_36 : decode cX9_value 36 = .ok (.iload_n 1, 1) := by decide +kernel
theorem dX9_value_37 : decode cX9_value 37 = .ok (.ireturn, 1) := by decide +kernel
abbrev LX9_value_7 (l1 l2 : Int32) (I : MI) (Q : Int32 → MI → Prop) : Prop := WP mX9_value 286 Rf0 7 [some (.ref 1), some (.int l1), some (.int l2)] [] I (qi Q)
set_option maxRecDepth 20000 in
theorem rX9_value_7 {l1 l2 : Int32} {I : MI} {Q : Int32 → MI → Prop} (H : (((I 1 4) ≤ l2 → (Q l1 I)) ∧ (¬ (I 1 4) ≤ l2 → (vp_in l2 900 ∧ LX9_value_7 (((l1 * 10) + (I 2 l2.toNatClampNeg)) - 48) (l2 + 1) I Q)))) : LX9_value_7 l1 l2 I Q := by
  show WP mX9_value 286 Rf0 7 [some (.ref 1), some (.int l1), some (.int l2)] [] I (qi Q)
  refine w_iload_n dX9_value_7 rfl rfl ?_
  refine w_aload_n dX9_value_8 rfl rfl ?_
  refine w_getI dX9_value_9 fl_9_28 okC9 kd_1 (by decide) (by decide) rfl ?_
  refine w_icmp_ge (t := 36) dX9_value_12 (by decide) (fun h => ?_) (fun h => ?_)
  · replace H := H.1 h
    refine w_iload_n dX9_value_36 rfl rfl ?_
    exact w_iret dX9_value_37 rfl ⟨_, rfl, H⟩
  · replace H := H.2 h
    refine w_iload_n dX9_value_15 rfl rfl ?_
    refine w_bipush (v := 10) dX9_value_16 (by decide) ?_
    refine w_imul dX9_value_18 ?_
    refine w_aload_n dX9_value_19 rfl rfl ?_
    refine w_getR dX9_value_20 fl_9_9 okC9 kd_1 (by decide) (by decide) rfl rf_1_0 ?_
    refine w_iload_n dX9_value_23 rfl rfl ?_
    refine w_bald dX9_value_24 kd_2 (by decide) H.1 ?_
    replace H := H.2
    refine w_iadd dX9_value_25 ?_
    refine w_bipush (v := 48) dX9_value_26 (by decide) ?_
    refine w_isub dX9_value_28 ?_
    refine w_istore_n (ls' := [some (.ref 1), some (.int (((l1 * 10) + (I 2 l2.toNatClampNeg)) - 48)), some (.int l2)]) dX9_value_29 rfl (by decide) rfl rfl ?_
    refine w_iinc (v := l2 + 1) (ls' := [some (.ref 1), some (.int (((l1 * 10) + (I 2 l2.toNatClampNeg)) - 48)), some (.int (l2 + 1))]) dX9_value_30 rfl rfl (by decide) rfl rfl ?_
    refine w_goto (t := 7) dX9_value_33 (by decide) ?_
    skip
    exact H
set_option maxRecDepth 20000 in
theorem rX9_value {I : MI} {Q : Int32 → MI → Prop} (H : (LX9_value_7 0 (I 1 3) I Q)) : Wi mX9_value [.ref 1] I Q := by
  show WP mX9_value 286 Rf0 0 [some (.ref 1), none, none] [] I (qi Q)
  refine w_iconst (v := 0) dX9_value_0 (by decide) ?_
  refine w_istore_n (ls' := [some (.ref 1), some (.int 0), none]) dX9_value_1 rfl (by decide) rfl rfl ?_
  refine w_aload_n dX9_value_2 rfl rfl ?_
  refine w_getI dX9_value_3 fl_9_34 okC9 kd_1 (by decide) (by decide) rfl ?_
  refine w_istore_n (ls' := [some (.ref 1), some (.int 0), some (.int (I 1 3))]) dX9_value_6 rfl (by decide) rfl rfl ?_
  skip
  exact H
theorem dX10_demandOf_0 : decode cX10_demandOf 0 = .ok (.aload_n 0, 1) := by decide +kernel
theorem dX10_demandOf_1 : decode cX10_demandOf 1 = .ok (.getfield 15, 3) := by decide +kernel
theorem dX10_demandOf_4 : decode cX10_demandOf 4 = .ok (.iload_n 1, 1) := by decide +kernel
theorem dX10_demandOf_5 : decode cX10_demandOf 5 = .ok (.invokevirtual 19, 3) := by decide +kernel
theorem dX10_demandOf_8 : decode cX10_demandOf 8 = .ok (.ifCond .eq 5, 3) := by decide +kernel
theorem dX10_demandOf_11 : decode cX10_demandOf 11 = .ok (.iconst 0, 1) := by decide +kernel
theorem dX10_demandOf_12 : decode cX10_demandOf 12 = .ok (.ireturn, 1) := by decide +kernel
theorem dX10_demandOf_13 : decode cX10_demandOf 13 = .ok (.aload_n 0, 1) := by decide +kernel
theorem dX10_demandOf_14 : decode cX10_demandOf 14 = .ok (.getfield 15, 3) := by decide +kernel
theorem dX10_demandOf_17 : decode cX10_demandOf 17 = .ok (.getfield 25, 3) := by decide +kernel
theorem dX10_demandOf_20 : decode cX10_demandOf 20 = .ok (.iload_n 1, 1) := by decide +kernel
theorem dX10_demandOf_21 : decode cX10_demandOf 21 = .ok (.bipush 7, 2) := by decide +kernel
theorem dX10_demandOf_23 : decode cX10_demandOf 23 = .ok (.imul, 1) := by decide +kernel
theorem dX10_demandOf_24 : decode cX10_demandOf 24 = .ok (.aload_n 0, 1) := by decide +kernel
theorem dX10_demandOf_25 : decode cX10_demandOf 25 = .ok (.getfield 15, 3) := by decide +kernel
theorem dX10_demandOf_28 : decode cX10_demandOf 28 = .ok (.getfield 29, 3) := by decide +kernel
theorem dX10_demandOf_31 : decode cX10_demandOf 31 = .ok (.bipush 7, 2) := by decide +kernel
theorem dX10_demandOf_33 : decode cX10_demandOf 33 = .ok (.irem, 1) := by decide +kernel
theorem dX10_demandOf_34 : decode cX10_demandOf 34 = .ok (.iadd, 1) := by decide +kernel
theorem dX10_demandOf_35 : decode cX10_demandOf 35 = .ok (.iaload, 1) := by decide +kernel
theorem dX10_demandOf_36 : decode cX10_demandOf 36 = .ok (.ireturn, 1) := by decide +kernel
set_option maxRecDepth 20000 in
theorem rX10_demandOf {a1 : Int32} {I : MI} {Q : Int32 → MI → Prop} (H : (Wi mX8_isSkipped [.ref 30, .int a1] I (fun r2 I1 => ((r2 = 0 → (vp_in ((a1 * 7) + ((I1 30 0) - (I1 30 0) / 7 * 7)) 84 ∧ Q (I1 31 ((a1 * 7) + ((I1 30 0) - (I1 30 0) / 7 * 7)).toNatClampNeg) I1)) ∧ (¬ r2 = 0 → (Q 0 I1)))))) : Wi mX10_demandOf [.ref 44, .int a1] I Q := by
  show WP mX10_demandOf 286 Rf0 0 [some (.ref 44), some (.int a1)] [] I (qi Q)
  refine w_aload_n dX10_demandOf_0 rfl rfl ?_
  refine w_getR dX10_demandOf_1 fl_10_15 okC10 kd_44 (by decide) (by decide) rfl rf_44_1 ?_
  refine w_iload_n dX10_demandOf_4 rfl rfl ?_
  refine w_callV (st := []) (As := [.int a1]) dX10_demandOf_5 ml_10_19 okX8_isSkipped kd_30 (by decide) rfl rfl rfl (Nat.le_of_ble_eq_true rfl) (by decide) (Nat.le_of_ble_eq_true rfl) (wc_i H (fun r2 I1 H => ?_))
  refine w_if_eq (t := 13) dX10_demandOf_8 (by decide) (fun h => ?_) (fun h => ?_)
  · replace H := H.1 h
    refine w_aload_n dX10_demandOf_13 rfl rfl ?_
    refine w_getR dX10_demandOf_14 fl_10_15 okC10 kd_44 (by decide) (by decide) rfl rf_44_1 ?_
    refine w_getR dX10_demandOf_17 fl_10_25 okC8 kd_30 (by decide) (by decide) rfl rf_30_2 ?_
    refine w_iload_n dX10_demandOf_20 rfl rfl ?_
    refine w_bipush (v := 7) dX10_demandOf_21 (by decide) ?_
    refine w_imul dX10_demandOf_23 ?_
    refine w_aload_n dX10_demandOf_24 rfl rfl ?_
    refine w_getR dX10_demandOf_25 fl_10_15 okC10 kd_44 (by decide) (by decide) rfl rf_44_1 ?_
    refine w_getI dX10_demandOf_28 fl_10_29 okC8 kd_30 (by decide) (by decide) rfl ?_
    refine w_bipush (v := 7) dX10_demandOf_31 (by decide) ?_
    refine w_irem dX10_demandOf_33 (by decide) ?_
    refine w_iadd dX10_demandOf_34 ?_
    refine w_iald dX10_demandOf_35 kd_31 (by decide) H.1 ?_
    replace H := H.2
    exact w_iret dX10_demandOf_36 rfl ⟨_, rfl, H⟩
  · replace H := H.2 h
    refine w_iconst (v := 0) dX10_demandOf_11 (by decide) ?_
    exact w_iret dX10_demandOf_12 rfl ⟨_, rfl, H⟩
theorem dX10_demandAtNode_0 : decode cX10_demandAtNode 0 = .ok (.iconst 0, 1) := by decide +kernel
theorem dX10_demandAtNode_1 : decode cX10_demandAtNode 1 = .ok (.istore_n 2, 1) := by decide +kernel
theorem dX10_demandAtNode_2 : decode cX10_demandAtNode 2 = .ok (.iconst 0, 1) := by decide +kernel
theorem dX10_demandAtNode_3 : decode cX10_demandAtNode 3 = .ok (.istore_n 3, 1) := by decide +kernel
theorem dX10_demandAtNode_4 : decode cX10_demandAtNode 4 = .ok (.iload_n 3, 1) := by decide +kernel
theorem dX10_demandAtNode_5 : decode cX10_demandAtNode 5 = .ok (.aload_n 0, 1) := by decide +kernel
theorem dX10_demandAtNode_6 : decode cX10_demandAtNode 6 = .ok (.getfield 9, 3) := by decide +kernel
theorem dX10_demandAtNode_9 : decode cX10_demandAtNode 9 = .ok (.getfield 33, 3) := by decide +kernel
theorem dX10_demandAtNode_12 : decode cX10_demandAtNode 12 = .ok (.if_icmp .ge 30, 3) := by decide +kernel
theorem dX10_demandAtNode_15 : decode cX10_demandAtNode 15 = .ok (.aload_n 0, 1) := by decide +kernel
theorem dX10_demandAtNode_16 : decode cX10_demandAtNode 16 = .ok (.getfield 9, 3) := by decide +kernel
theorem dX10_demandAtNode_19 : decode cX10_demandAtNode 19 = .ok (.getfield 38, 3) := by decide +kernel
theorem dX10_demandAtNode_22 : decode cX10_demandAtNode 22 = .ok (.iload_n 3, 1) := by decide +kernel
theorem dX10_demandAtNode_23 : decode cX10_demandAtNode 23 = .ok (.iaload, 1) := by decide +kernel
theorem dX10_demandAtNode_24 : decode cX10_demandAtNode 24 = .ok (.iload_n 1, 1) := by decide +kernel
theorem dX10_demandAtNode_25 : decode cX10_demandAtNode 25 = .ok (.if_icmp .ne 11, 3) := by decide +kernel
theorem dX10_demandAtNode_28 : decode cX10_demandAtNode 28 = .ok (.iload_n 2, 1) := by decide +kernel
theorem dX10_demandAtNode_29 : decode cX10_demandAtNode 29 = .ok (.aload_n 0, 1) := by decide +kernel
theorem dX10_demandAtNode_30 : decode cX10_demandAtNode 30 = .ok (.iload_n 3, 1) := by decide +kernel
theorem dX10_demandAtNode_31 : decode cX10_demandAtNode 31 = .ok (.invokevirtual 41, 3) := by decide +kernel
theorem dX10_demandAtNode_34 : decode cX10_demandAtNode 34 = .ok (.iadd, 1) := by decide +kernel
theorem dX10_demandAtNode_35 : decode cX10_demandAtNode 35 = .ok (.istore_n 2, 1) := by decide +kernel
theorem dX10_demandAtNode_36 : decode cX10_demandAtNode 36 = .ok (.iinc 3 1, 3) := by decide +kernel
theorem dX10_demandAtNode_39 : decode cX10_demandAtNode 39 = .ok (.goto (-35), 3) := by decide +kernel
theorem dX10_demandAtNode_42 : decode cX10_demandAtNode 42 = .ok (.iload_n 2, 1) := by decide +kernel
theorem dX10_demandAtNode_43 : decode cX10_demandAtNode 43 = .ok (.ireturn, 1) := by decide +kernel
abbrev LX10_demandAtNode_4 (l1 l2 l3 : Int32) (I : MI) (Q : Int32 → MI → Prop) : Prop := WP mX10_demandAtNode 286 Rf0 4 [some (.ref 44), some (.int l1), some (.int l2), some (.int l3)] [] I (qi Q)
abbrev LX10_demandAtNode_36 (l1 l2 l3 : Int32) (I : MI) (Q : Int32 → MI → Prop) : Prop := WP mX10_demandAtNode 286 Rf0 36 [some (.ref 44), some (.int l1), some (.int l2), some (.int l3)] [] I (qi Q)
set_option maxRecDepth 20000 in
theorem rX10_demandAtNode_4 {l1 l2 l3 : Int32} {I : MI} {Q : Int32 → MI → Prop} (H : (((I 24 2) ≤ l3 → (Q l2 I)) ∧ (¬ (I 24 2) ≤ l3 → (vp_in l3 12 ∧ (¬ (I 28 l3.toNatClampNeg) = l1 → (LX10_demandAtNode_36 l1 l2 l3 I Q)) ∧ ((I 28 l3.toNatClampNeg) = l1 → (Wi mX10_demandOf [.ref 44, .int l3] I (fun r2 I1 => (LX10_demandAtNode_36 l1 (l2 + r2) l3 I1 Q)))))))) : LX10_demandAtNode_4 l1 l2 l3 I Q := by
  show WP mX10_demandAtNode 286 Rf0 4 [some (.ref 44), some (.int l1), some (.int l2), some (.int l3)] [] I (qi Q)
  refine w_iload_n dX10_demandAtNode_4 rfl rfl ?_
  refine w_aload_n dX10_demandAtNode_5 rfl rfl ?_
  refine w_getR dX10_demandAtNode_6 fl_10_9 okC10 kd_44 (by decide) (by decide) rfl rf_44_0 ?_
  refine w_getI dX10_demandAtNode_9 fl_10_33 okC6 kd_24 (by decide) (by decide) rfl ?_
  refine w_icmp_ge (t := 42) dX10_demandAtNode_12 (by decide) (fun h => ?_) (fun h => ?_)
  · replace H := H.1 h
    refine w_iload_n dX10_demandAtNode_42 rfl rfl ?_
    exact w_iret dX10_demandAtNode_43 rfl ⟨_, rfl, H⟩
  · replace H := H.2 h
    refine w_aload_n dX10_demandAtNode_15 rfl rfl ?_
    refine w_getR dX10_demandAtNode_16 fl_10_9 okC10 kd_44 (by decide) (by decide) rfl rf_44_0 ?_
    refine w_getR dX10_demandAtNode_19 fl_10_38 okC6 kd_24 (by decide) (by decide) rfl rf_24_10 ?_
    refine w_iload_n dX10_demandAtNode_22 rfl rfl ?_
    refine w_iald dX10_demandAtNode_23 kd_28 (by decide) H.1 ?_
    replace H := H.2
    refine w_iload_n dX10_demandAtNode_24 rfl rfl ?_
    refine w_icmp_ne (t := 36) dX10_demandAtNode_25 (by decide) (fun h => ?_) (fun h => ?_)
    · replace H := H.1 h
      skip
      exact H
    · replace H := H.2 h
      refine w_iload_n dX10_demandAtNode_28 rfl rfl ?_
      refine w_aload_n dX10_demandAtNode_29 rfl rfl ?_
      refine w_iload_n dX10_demandAtNode_30 rfl rfl ?_
      refine w_callV (st := [.int l2]) (As := [.int l3]) dX10_demandAtNode_31 ml_10_41 okX10_demandOf kd_44 (by decide) rfl rfl rfl (Nat.le_of_ble_eq_true rfl) (by decide) (Nat.le_of_ble_eq_true rfl) (wc_i H (fun r2 I1 H => ?_))
      refine w_iadd dX10_demandAtNode_34 ?_
      refine w_istore_n (ls' := [some (.ref 44), some (.int l1), some (.int (l2 + r2)), some (.int l3)]) dX10_demandAtNode_35 rfl (by decide) rfl rfl ?_
      skip
      exact H
set_option maxRecDepth 20000 in
theorem rX10_demandAtNode_36 {l1 l2 l3 : Int32} {I : MI} {Q : Int32 → MI → Prop} (H : (LX10_demandAtNode_4 l1 l2 (l3 + 1) I Q)) : LX10_demandAtNode_36 l1 l2 l3 I Q := by
  show WP mX10_demandAtNode 286 Rf0 36 [some (.ref 44), some (.int l1), some (.int l2), some (.int l3)] [] I (qi Q)
  refine w_iinc (v := l3 + 1) (ls' := [some (.ref 44), some (.int l1), some (.int l2), some (.int (l3 + 1))]) dX10_demandAtNode_36 rfl rfl (by decide) rfl rfl ?_
  refine w_goto (t := 4) dX10_demandAtNode_39 (by decide) ?_
  skip
  exact H
set_option maxRecDepth 20000 in
theorem rX10_demandAtNode {a1 : Int32} {I : MI} {Q : Int32 → MI → Prop} (H : (LX10_demandAtNode_4 a1 0 0 I Q)) : Wi mX10_demandAtNode [.ref 44, .int a1] I Q := by
  show WP mX10_demandAtNode 286 Rf0 0 [some (.ref 44), some (.int a1), none, none] [] I (qi Q)
  refine w_iconst (v := 0) dX10_demandAtNode_0 (by decide) ?_
  refine w_istore_n (ls' := [some (.ref 44), some (.int a1), some (.int 0), none]) dX10_demandAtNode_1 rfl (by decide) rfl rfl ?_
  refine w_iconst (v := 0) dX10_demandAtNode_2 (by decide) ?_
  refine w_istore_n (ls' := [some (.ref 44), some (.int a1), some (.int 0), some (.int 0)]) dX10_demandAtNode_3 rfl (by decide) rfl rfl ?_
  skip
  exact H
theorem dX10_sumOfDemands_0 : decode cX10_sumOfDemands 0 = .ok (.iconst 0, 1) := by decide +kernel
theorem dX10_sumOfDemands_1 : decode cX10_sumOfDemands 1 = .ok (.istore_n 1, 1) := by decide +kernel
theorem dX10_sumOfDemands_2 : decode cX10_sumOfDemands 2 = .ok (.iconst 0, 1) := by decide +kernel
theorem dX10_sumOfDemands_3 : decode cX10_sumOfDemands 3 = .ok (.istore_n 2, 1) := by decide +kernel
theorem dX10_sumOfDemands_4 : decode cX10_sumOfDemands 4 = .ok (.iload_n 2, 1) := by decide +kernel
theorem dX10_sumOfDemands_5 : decode cX10_sumOfDemands 5 = .ok (.aload_n 0, 1) := by decide +kernel
theorem dX10_sumOfDemands_6 : decode cX10_sumOfDemands 6 = .ok (.getfield 9, 3) := by decide +kernel
theorem dX10_sumOfDemands_9 : decode cX10_sumOfDemands 9 = .ok (.getfield 33, 3) := by decide +kernel
theorem dX10_sumOfDemands_12 : decode cX10_sumOfDemands 12 = .ok (.if_icmp .ge 17, 3) := by decide +kernel
theorem dX10_sumOfDemands_15 : decode cX10_sumOfDemands 15 = .ok (.iload_n 1, 1) := by decide +kernel
theorem dX10_sumOfDemands_16 : decode cX10_sumOfDemands 16 = .ok (.aload_n 0, 1) := by decide +kernel
theorem dX10_sumOfDemands_17 : decode cX10_sumOfDemands 17 = .ok (.iload_n 2, 1) := by decide +kernel
theorem dX10_sumOfDemands_18 : decode cX10_sumOfDemands 18 = .ok (.invokevirtual 41, 3) := by decide +kernel
theorem dX10_sumOfDemands_21 : decode cX10_sumOfDemands 21 = .ok (.iadd, 1) := by decide +kernel
theorem dX10_sumOfDemands_22 : decode cX10_sumOfDemands 22 = .ok (.istore_n 1, 1) := by decide +kernel
theorem dX10_sumOfDemands_23 : decode cX10_sumOfDemands 23 = .ok (.iinc 2 1, 3) := by decide +kernel
theorem dX10_sumOfDemands_26 : decode cX10_sumOfDemands 26 = .ok (.goto (-22), 3) := by decide +kernel
theorem dX10_sumOfDemands_29 : decode cX10_sumOfDemands 29 = .ok (.iload_n 1, 1) := by decide +kernel
theorem dX10_sumOfDemands_30 : decode cX10_sumOfDemands 30 = .ok (.ireturn, 1) := by decide +kernel
abbrev LX10_sumOfDemands_4 (l1 l2 : Int32) (I : MI) (Q : Int32 → MI → Prop) : Prop := WP mX10_sumOfDemands 286 Rf0 4 [some (.ref 44), some (.int l1), some (.int l2)] [] I (qi Q)
set_option maxRecDepth 20000 in
theorem rX10_sumOfDemands_4 {l1 l2 : Int32} {I : MI} {Q : Int32 → MI → Prop} (H : (((I 24 2) ≤ l2 → (Q l1 I)) ∧ (¬ (I 24 2) ≤ l2 → (Wi mX10_demandOf [.ref 44, .int l2] I (fun r2 I1 => (LX10_sumOfDemands_4 (l1 + r2) (l2 + 1) I1 Q)))))) : LX10_sumOfDemands_4 l1 l2 I Q := by
  show WP mX10_sumOfDemands 286 Rf0 4 [some (.ref 44), some (.int l1), some (.int l2)] [] I (qi Q)
  refine w_iload_n dX10_sumOfDemands_4 rfl rfl ?_
  refine w_aload_n dX10_sumOfDemands_5 rfl rfl ?_
  refine w_getR dX10_sumOfDemands_6 fl_10_9 okC10 kd_44 (by decide) (by decide) rfl rf_44_0 ?_
  refine w_getI dX10_sumOfDemands_9 fl_10_33 okC6 kd_24 (by decide) (by decide) rfl ?_
  refine w_icmp_ge (t := 29) dX10_sumOfDemands_12 (by decide) (fun h => ?_) (fun h => ?_)
  · replace H := H.1 h
    refine w_iload_n dX10_sumOfDemands_29 rfl rfl ?_
    exact w_iret dX10_sumOfDemands_30 rfl ⟨_, rfl, H⟩
  · replace H := H.2 h
    refine w_iload_n dX10_sumOfDemands_15 rfl rfl ?_
    refine w_aload_n dX10_sumOfDemands_16 rfl rfl ?_
    refine w_iload_n dX10_sumOfDemands_17 rfl rfl ?_
    refine w_callV (st := [.int l1]) (As := [.int l2]) dX10_sumOfDemands_18 ml_10_41 okX10_demandOf kd_44 (by decide) rfl rfl rfl (Nat.le_of_ble_eq_true rfl) (by decide) (Nat.le_of_ble_eq_true rfl) (wc_i H (fun r2 I1 H => ?_))
    refine w_iadd dX10_sumOfDemands_21 ?_
    refine w_istore_n (ls' := [some (.ref 44), some (.int (l1 + r2)), some (.int l2)]) dX10_sumOfDemands_22 rfl (by decide) rfl rfl ?_
    refine w_iinc (v := l2 + 1) (ls' := [some (.ref 44), some (.int (l1 + r2)), some (.int (l2 + 1))]) dX10_sumOfDemands_23 rfl rfl (by decide) rfl rfl ?_
    refine w_goto (t := 4) dX10_sumOfDemands_26 (by decide) ?_
    skip
    exact H
set_option maxRecDepth 20000 in
theorem rX10_sumOfDemands {I : MI} {Q : Int32 → MI → Prop} (H : (LX10_sumOfDemands_4 0 0 I Q)) : Wi mX10_sumOfDemands [.ref 44] I Q := by
  show WP mX10_sumOfDemands 286 Rf0 0 [some (.ref 44), none, none] [] I (qi Q)
  refine w_iconst (v := 0) dX10_sumOfDemands_0 (by decide) ?_
  refine w_istore_n (ls' := [some (.ref 44), some (.int 0), none]) dX10_sumOfDemands_1 rfl (by decide) rfl rfl ?_
  refine w_iconst (v := 0) dX10_sumOfDemands_2 (by decide) ?_
  refine w_istore_n (ls' := [some (.ref 44), some (.int 0), some (.int 0)]) dX10_sumOfDemands_3 rfl (by decide) rfl rfl ?_
  skip
  exact H
theorem dX10_stopSet_0 : decode cX10_stopSet 0 = .ok (.iconst 0, 1) := by decide +kernel
theorem dX10_stopSet_1 : decode cX10_stopSet 1 = .ok (.istore_n 1, 1) := by decide +kernel
theorem dX10_stopSet_2 : decode cX10_stopSet 2 = .ok (.iconst 0, 1) := by decide +kernel
theorem dX10_stopSet_3 : decode cX10_stopSet 3 = .ok (.istore_n 2, 1) := by decide +kernel
theorem dX10_stopSet_4 : decode cX10_stopSet 4 = .ok (.iload_n 2, 1) := by decide +kernel
theorem dX10_stopSet_5 : decode cX10_stopSet 5 = .ok (.aload_n 0, 1) := by decide +kernel
theorem dX10_stopSet_6 : decode cX10_stopSet 6 = .ok (.getfield 9, 3) := by decide +kernel
theorem dX10_stopSet_9 : decode cX10_stopSet 9 = .ok (.getfield 33, 3) := by decide +kernel
theorem dX10_stopSet_12 : decode cX10_stopSet 12 = .ok (.if_icmp .ge 31, 3) := by decide +kernel
theorem dX10_stopSet_15 : decode cX10_stopSet 15 = .ok (.aload_n 0, 1) := by decide +kernel
theorem dX10_stopSet_16 : decode cX10_stopSet 16 = .ok (.iload_n 2, 1) := by decide +kernel
theorem dX10_stopSet_17 : decode cX10_stopSet 17 = .ok (.invokevirtual 41, 3) := by decide +kernel
theorem dX10_stopSet_20 : decode cX10_stopSet 20 = .ok (.ifCond .le 17, 3) := by decide +kernel
theorem dX10_stopSet_23 : decode cX10_stopSet 23 = .ok (.iload_n 1, 1) := by decide +kernel
theorem dX10_stopSet_24 : decode cX10_stopSet 24 = .ok (.iconst 1, 1) := by decide +kernel
theorem dX10_stopSet_25 : decode cX10_stopSet 25 = .ok (.aload_n 0, 1) := by decide +kernel
theorem dX10_stopSet_26 : decode cX10_stopSet 26 = .ok (.getfield 9, 3) := by decide +kernel
theorem dX10_stopSet_29 : decode cX10_stopSet 29 = .ok (.getfield 38, 3) := by decide +kernel
theorem dX10_stopSet_32 : decode cX10_stopSet 32 = .ok (.iload_n 2, 1) := by decide +kernel
theorem dX10_stopSet_33 : decode cX10_stopSet 33 = .ok (.iaload, 1) := by decide +kernel
theorem dX10_stopSet_34 : decode cX10_stopSet 34 = .ok (.ishl, 1) := by decide +kernel
theorem dX10_stopSet_35 : decode cX10_stopSet 35 = .ok (.ior, 1) := by decide +kernel
theorem dX10_stopSet_36 : decode cX10_stopSet 36 = .ok (.istore_n 1, 1) := by decide +kernel
theorem dX10_stopSet_37 : decode cX10_stopSet 37 = .ok (.iinc 2 1, 3) := by decide +kernel
theorem dX10_stopSet_40 : decode cX10_stopSet 40 = .ok (.goto (-36), 3) := by decide +kernel
theorem dX10_stopSet_43 : decode cX10_stopSet 43 = .ok (.iload_n 1, 1) := by decide +kernel
theorem dX10_stopSet_44 : decode cX10_stopSet 44 = .ok (.ireturn, 1) := by decide +kernel
abbrev LX10_stopSet_4 (l1 l2 : Int32) (I : MI) (Q : Int32 → MI → Prop) : Prop := WP mX10_stopSet 286 Rf0 4 [some (.ref 44), some (.int l1), some (.int l2)] [] I (qi Q)
abbrev LX10_stopSet_37 (l1 l2 : Int32) (I : MI) (Q : Int32 → MI → Prop) : Prop := WP mX10_stopSet 286 Rf0 37 [some (.ref 44), some (.int l1), some (.int l2)] [] I (qi Q)
set_option maxRecDepth 20000 in
theorem rX10_stopSet_4 {l1 l2 : Int32} {I : MI} {Q : Int32 → MI → Prop} (H : (((I 24 2) ≤ l2 → (Q l1 I)) ∧ (¬ (I 24 2) ≤ l2 → (Wi mX10_demandOf [.ref 44, .int l2] I (fun r2 I1 => ((r2 ≤ 0 → (LX10_stopSet_37 l1 l2 I1 Q)) ∧ (¬ r2 ≤ 0 → (vp_in l2 12 ∧ LX10_stopSet_37 (l1 ||| ((1 : Int32) <<< ((I1 28 l2.toNatClampNeg) &&& 31))) l2 I1 Q)))))))) : LX10_stopSet_4 l1 l2 I Q := by
  show WP mX10_stopSet 286 Rf0 4 [some (.ref 44), some (.int l1), some (.int l2)] [] I (qi Q)
  refine w_iload_n dX10_stopSet_4 rfl rfl ?_
  refine w_aload_n dX10_stopSet_5 rfl rfl ?_
  refine w_getR dX10_stopSet_6 fl_10_9 okC10 kd_44 (by decide) (by decide) rfl rf_44_0 ?_
  refine w_getI dX10_stopSet_9 fl_10_33 okC6 kd_24 (by decide) (by decide) rfl ?_
  refine w_icmp_ge (t := 43) dX10_stopSet_12 (by decide) (fun h => ?_) (fun h => ?_)
  · replace H := H.1 h
    refine w_iload_n dX10_stopSet_43 rfl rfl ?_
    exact w_iret dX10_stopSet_44 rfl ⟨_, rfl, H⟩
  · replace H := H.2 h
    refine w_aload_n dX10_stopSet_15 rfl rfl ?_
    refine w_iload_n dX10_stopSet_16 rfl rfl ?_
    refine w_callV (st := []) (As := [.int l2]) dX10_stopSet_17 ml_10_41 okX10_demandOf kd_44 (by decide) rfl rfl rfl (Nat.le_of_ble_eq_true rfl) (by decide) (Nat.le_of_ble_eq_true rfl) (wc_i H (fun r2 I1 H => ?_))
    refine w_if_le (t := 37) dX10_stopSet_20 (by decide) (fun h => ?_) (fun h => ?_)
    · replace H := H.1 h
      skip
      exact H
    · replace H := H.2 h
      refine w_iload_n dX10_stopSet_23 rfl rfl ?_
      refine w_iconst (v := 1) dX10_stopSet_24 (by decide) ?_
      refine w_aload_n dX10_stopSet_25 rfl rfl ?_
      refine w_getR dX10_stopSet_26 fl_10_9 okC10 kd_44 (by decide) (by decide) rfl rf_44_0 ?_
      refine w_getR dX10_stopSet_29 fl_10_38 okC6 kd_24 (by decide) (by decide) rfl rf_24_10 ?_
      refine w_iload_n dX10_stopSet_32 rfl rfl ?_
      refine w_iald dX10_stopSet_33 kd_28 (by decide) H.1 ?_
      replace H := H.2
      refine w_ishl dX10_stopSet_34 ?_
      refine w_ior dX10_stopSet_35 ?_
      refine w_istore_n (ls' := [some (.ref 44), some (.int (l1 ||| ((1 : Int32) <<< ((I1 28 l2.toNatClampNeg) &&& 31)))), some (.int l2)]) dX10_stopSet_36 rfl (by decide) rfl rfl ?_
      skip
      exact H
set_option maxRecDepth 20000 in
theorem rX10_stopSet_37 {l1 l2 : Int32} {I : MI} {Q : Int32 → MI → Prop} (H : (LX10_stopSet_4 l1 (l2 + 1) I Q)) : LX10_stopSet_37 l1 l2 I Q := by
  show WP mX10_stopSet 286 Rf0 37 [some (.ref 44), some (.int l1), some (.int l2)] [] I (qi Q)
  refine w_iinc (v := l2 + 1) (ls' := [some (.ref 44), some (.int l1), some (.int (l2 + 1))]) dX10_stopSet_37 rfl rfl (by decide) rfl rfl ?_
  refine w_goto (t := 4) dX10_stopSet_40 (by decide) ?_
  skip
  exact H
set_option maxRecDepth 20000 in
theorem rX10_stopSet {I : MI} {Q : Int32 → MI → Prop} (H : (LX10_stopSet_4 0 0 I Q)) : Wi mX10_stopSet [.ref 44] I Q := by
  show WP mX10_stopSet 286 Rf0 0 [some (.ref 44), none, none] [] I (qi Q)
  refine w_iconst (v := 0) dX10_stopSet_0 (by decide) ?_
  refine w_istore_n (ls' := [some (.ref 44), some (.int 0), none]) dX10_stopSet_1 rfl (by decide) rfl rfl ?_
  refine w_iconst (v := 0) dX10_stopSet_2 (by decide) ?_
  refine w_istore_n (ls' := [some (.ref 44), some (.int 0), some (.int 0)]) dX10_stopSet_3 rfl (by decide) rfl rfl ?_
  skip
  exact H
theorem dX10_visitMinutes_0 : decode cX10_visitMinutes 0 = .ok (.iconst 2, 1) := by decide +kernel
theorem dX10_visitMinutes_1 : decode cX10_visitMinutes 1 = .ok (.aload_n 0, 1) := by decide +kernel
theorem dX10_visitMinutes_2 : decode cX10_visitMinutes 2 = .ok (.getfield 9, 3) := by decide +kernel
theorem dX10_visitMinutes_5 : decode cX10_visitMinutes 5 = .ok (.getfield 45, 3) := by decide +kernel
theorem dX10_visitMinutes_8 : decode cX10_visitMinutes 8 = .ok (.iload_n 1, 1) := by decide +kernel
theorem dX10_visitMinutes_9 : decode cX10_visitMinutes 9 = .ok (.iaload, 1) := by decide +kernel
theorem dX10_visitMinutes_10 : decode cX10_visitMinutes 10 = .ok (.imul, 1) := by decide +kernel
theorem dX10_visitMinutes_11 : decode cX10_visitMinutes 11 = .ok (.iconst 1, 1) := by decide +kernel
theorem dX10_visitMinutes_12 : decode cX10_visitMinutes 12 = .ok (.iadd, 1) := by decide +kernel
theorem dX10_visitMinutes_13 : decode cX10_visitMinutes 13 = .ok (.ireturn, 1) := by decide +kernel
set_option maxRecDepth 20000 in
theorem rX10_visitMinutes {a1 : Int32} {I : MI} {Q : Int32 → MI → Prop} (H : (vp_in a1 12 ∧ Q ((2 * (I 29 a1.toNatClampNeg)) + 1) I)) : Wi mX10_visitMinutes [.ref 44, .int a1] I Q := by
  show WP mX10_visitMinutes 286 Rf0 0 [some (.ref 44), some (.int a1)] [] I (qi Q)
  refine w_iconst (v := 2) dX10_visitMinutes_0 (by decide) ?_
  refine w_aload_n dX10_visitMinutes_1 rfl rfl ?_
  refine w_getR dX10_visitMinutes_2 fl_10_9 okC10 kd_44 (by decide) (by decide) rfl rf_44_0 ?_
  refine w_getR dX10_visitMinutes_5 fl_10_45 okC6 kd_24 (by decide) (by decide) rfl rf_24_11 ?_
  refine w_iload_n dX10_visitMinutes_8 rfl rfl ?_
  refine w_iald dX10_visitMinutes_9 kd_29 (by decide) H.1 ?_
  replace H := H.2
  refine w_imul dX10_visitMinutes_10 ?_
  refine w_iconst (v := 1) dX10_visitMinutes_11 (by decide) ?_
  refine w_iadd dX10_visitMinutes_12 ?_
  exact w_iret dX10_visitMinutes_13 rfl ⟨_, rfl, H⟩
theorem dX0_travel_0 : decode cX0_travel 0 = .ok (.aload_n 0, 1) := by decide +kernel
theorem dX0_travel_1 : decode cX0_travel 1 = .ok (.getfield 12, 3) := by decide +kernel
theorem dX0_travel_4 : decode cX0_travel 4 = .ok (.invokevirtual 34, 3) := by decide +kernel
theorem dX0_travel_7 : decode cX0_travel 7 = .ok (.aload_n 0, 1) := by decide +kernel
theorem dX0_travel_8 : decode cX0_travel 8 = .ok (.iconst 0, 1) := by decide +kernel
theorem dX0_travel_9 : decode cX0_travel 9 = .ok (.putfield 37, 3) := by decide +kernel
theorem dX0_travel_12 : decode cX0_travel 12 = .ok (.aload_n 0, 1) := by decide +kernel
theorem dX0_travel_13 : decode cX0_travel 13 = .ok (.aload_n 0, 1) := by decide +kernel
theorem dX0_travel_14 : decode cX0_travel 14 = .ok (.getfield 18, 3) := by decide +kernel
theorem dX0_travel_17 : decode cX0_travel 17 = .ok (.getfield 41, 3) := by decide +kernel
theorem dX0_travel_20 : decode cX0_travel 20 = .ok (.putfield 46, 3) := by decide +kernel
theorem dX0_travel_23 : decode cX0_travel 23 = .ok (.aload_n 0, 1) := by decide +kernel
theorem dX0_travel_24 : decode cX0_travel 24 = .ok (.aload_n 0, 1) := by decide +kernel
theorem dX0_travel_25 : decode cX0_travel 25 = .ok (.getfield 26, 3) := by decide +kernel
theorem dX0_travel_28 : decode cX0_travel 28 = .ok (.invokevirtual 49, 3) := by decide +kernel
theorem dX0_travel_31 : decode cX0_travel 31 = .ok (.putfield 55, 3) := by decide +kernel
theorem dX0_travel_34 : decode cX0_travel 34 = .ok (.aload_n 0, 1) := by decide +kernel
theorem dX0_travel_35 : decode cX0_travel 35 = .ok (.aload_n 0, 1) := by decide +kernel
theorem dX0_travel_36 : decode cX0_travel 36 = .ok (.getfield 55, 3) := by decide +kernel
theorem dX0_travel_39 : decode cX0_travel 39 = .ok (.aload_n 0, 1) := by decide +kernel
theorem dX0_travel_40 : decode cX0_travel 40 = .ok (.getfield 18, 3) := by decide +kernel
theorem dX0_travel_43 : decode cX0_travel 43 = .ok (.getfield 58, 3) := by decide +kernel
theorem dX0_travel_46 : decode cX0_travel 46 = .ok (.invokestatic 61, 3) := by decide +kernel
theorem dX0_travel_49 : decode cX0_travel 49 = .ok (.putfield 67, 3) := by decide +kernel
theorem dX0_travel_52 : decode cX0_travel 52 = .ok (.aload_n 0, 1) := by decide +kernel
theorem dX0_travel_53 : decode cX0_travel 53 = .ok (.iconst 0, 1) := by decide +kernel
theorem dX0_travel_54 : decode cX0_travel 54 = .ok (.putfield 70, 3) := by decide +kernel
theorem dX0_travel_57 : decode cX0_travel 57 = .ok (.aload_n 0, 1) := by decide +kernel
theorem dX0_travel_58 : decode cX0_travel 58 = .ok (.iconst 0, 1) := by decide +kernel
theorem dX0_travel_59 : decode cX0_travel 59 = .ok (.putfield 73, 3) := by decide +kernel
theorem dX0_travel_62 : decode cX0_travel 62 = .ok (.iconst 0, 1) := by decide +kernel
theorem dX0_travel_63 : decode cX0_travel 63 = .ok (.istore_n 2, 1) := by decide +kernel
theorem dX0_travel_64 : decode cX0_travel 64 = .ok (.iload_n 2, 1) := by decide +kernel
theorem dX0_travel_65 : decode cX0_travel 65 = .ok (.aload_n 1, 1) := by decide +kernel
theorem dX0_travel_66 : decode cX0_travel 66 = .ok (.getfield 77, 3) := by decide +kernel
theorem dX0_travel_69 : decode cX0_travel 69 = .ok (.if_icmp .ge 56, 3) := by decide +kernel
theorem dX0_travel_72 : decode cX0_travel 72 = .ok (.aload_n 0, 1) := by decide +kernel
theorem dX0_travel_73 : decode cX0_travel 73 = .ok (.getfield 73, 3) := by decide +kernel
theorem dX0_travel_76 : decode cX0_travel 76 = .ok (.ifCond .ne 49, 3) := by decide +kernel
theorem dX0_travel_79 : decode cX0_travel 79 = .ok (.aload_n 1, 1) := by decide +kernel
theorem dX0_travel_80 : decode cX0_travel 80 = .ok (.getfield 82, 3) := by decide +kernel
theorem dX0_travel_83 : decode cX0_travel 83 = .ok (.iload_n 2, 1) := by decide +kernel
theorem dX0_travel_84 : decode cX0_travel 84 = .ok (.iaload, 1) := by decide +kernel
theorem dX0_travel_85 : decode cX0_travel 85 = .ok (.istore_n 3, 1) := by decide +kernel
theorem dX0_travel_86 : decode cX0_travel 86 = .ok (.aload_n 0, 1) := by decide +kernel
theorem dX0_travel_87 : decode cX0_travel 87 = .ok (.iload_n 3, 1) := by decide +kernel
theorem dX0_travel_88 : decode cX0_travel 88 = .ok (.invokevirtual 86, 3) := by decide +kernel
theorem dX0_travel_91 : decode cX0_travel 91 = .ok (.ifCond .eq 11, 3) := by decide +kernel
theorem dX0_travel_94 : decode cX0_travel 94 = .ok (.aload_n 0, 1) := by decide +kernel
theorem dX0_travel_95 : decode cX0_travel 95 = .ok (.iload_n 3, 1) := by decide +kernel
theorem dX0_travel_96 : decode cX0_travel 96 = .ok (.invokevirtual 90, 3) := by decide +kernel
theorem dX0_travel_99 : decode cX0_travel 99 = .ok (.goto 20, 3) := by decide +kernel
theorem dX0_travel_102 : decode cX0_travel 102 = .ok (.aload_n 0, 1) := by decide +kernel
theorem dX0_travel_103 : decode cX0_travel 103 = .ok (.dup, 1) := by decide +kernel
theorem dX0_travel_104 : decode cX0_travel 104 = .ok (.getfield 55, 3) := by decide +kernel
theorem dX0_travel_107 : decode cX0_travel 107 = .ok (.aload_n 0, 1) := by decide +kernel
theorem dX0_travel_108 : decode cX0_travel 108 = .ok (.getfield 26, 3) := by decide +kernel
theorem dX0_travel_111 : decode cX0_travel 111 = .ok (.iload_n 3, 1) := by decide +kernel
theorem dX0_travel_112 : decode cX0_travel 112 = .ok (.invokevirtual 94, 3) := by decide +kernel
theorem dX0_travel_115 : decode cX0_travel 115 = .ok (.isub, 1) := by decide +kernel
theorem dX0_travel_116 : decode cX0_travel 116 = .ok (.putfield 55, 3) := by decide +kernel
theorem dX0_travel_119 : decode cX0_travel 119 = .ok (.iinc 2 1, 3) := by decide +kernel
theorem dX0_travel_122 : decode cX0_travel 122 = .ok (.goto (-58), 3) := by decide +kernel
theorem dX0_travel_125 : decode cX0_travel 125 = .ok (.aload_n 0, 1) := by decide +kernel
theorem dX0_travel_126 : decode cX0_travel 126 = .ok (.getfield 73, 3) := by decide +kernel
theorem dX0_travel_129 : decode cX0_travel 129 = .ok (.ifCond .ne 9, 3) := by decide +kernel
theorem dX0_travel_132 : decode cX0_travel 132 = .ok (.aload_n 0, 1) := by decide +kernel
theorem dX0_travel_133 : decode cX0_travel 133 = .ok (.iconst 0, 1) := by decide +kernel
theorem dX0_travel_134 : decode cX0_travel 134 = .ok (.invokevirtual 86, 3) := by decide +kernel
theorem dX0_travel_137 : decode cX0_travel 137 = .ok (.pop, 1) := by decide +kernel
theorem dX0_travel_138 : decode cX0_travel 138 = .ok (.aload_n 0, 1) := by decide +kernel
theorem dX0_travel_139 : decode cX0_travel 139 = .ok (.getfield 12, 3) := by decide +kernel
theorem dX0_travel_142 : decode cX0_travel 142 = .ok (.aload_n 0, 1) := by decide +kernel
theorem dX0_travel_143 : decode cX0_travel 143 = .ok (.getfield 37, 3) := by decide +kernel
theorem dX0_travel_146 : decode cX0_travel 146 = .ok (.ifCond .ne 10, 3) := by decide +kernel
theorem dX0_travel_149 : decode cX0_travel 149 = .ok (.aload_n 0, 1) := by decide +kernel
theorem dX0_travel_150 : decode cX0_travel 150 = .ok (.getfield 46, 3) := by decide +kernel
theorem dX0_travel_153 : decode cX0_travel 153 = .ok (.goto 5, 3) := by decide +kernel
theorem dX0_travel_156 : decode cX0_travel 156 = .ok (.bipush (-2), 2) := by decide +kernel
theorem dX0_travel_158 : decode cX0_travel 158 = .ok (.putfield 98, 3) := by decide +kernel
theorem dX0_travel_161 : decode cX0_travel 161 = .ok (.return_, 1) := by decide +kernel
abbrev LX0_travel_64 (l2 : Int32) (I : MI) (Q : MI → Prop) : Prop := WP mX0_travel 286 Rf0 64 [some (.ref 56), some (.ref 48), some (.int l2), none] [] I (qv Q)
abbrev LX0_travel_119 (l2 l3 : Int32) (I : MI) (Q : MI → Prop) : Prop := WP mX0_travel 286 Rf0 119 [some (.ref 56), some (.ref 48), some (.int l2), some (.int l3)] [] I (qv Q)
abbrev LX0_travel_125 (l2 : Int32) (I : MI) (Q : MI → Prop) : Prop := WP mX0_travel 286 Rf0 125 [some (.ref 56), some (.ref 48), some (.int l2), none] [] I (qv Q)
abbrev LX0_travel_138 (l2 : Int32) (I : MI) (Q : MI → Prop) : Prop := WP mX0_travel 286 Rf0 138 [some (.ref 56), some (.ref 48), some (.int l2), none] [] I (qv Q)
abbrev LX0_travel_158 (l2 t1 : Int32) (I : MI) (Q : MI → Prop) : Prop := WP mX0_travel 286 Rf0 158 [some (.ref 56), some (.ref 48), some (.int l2), none] [.int t1, .ref 57] I (qv Q)
set_option maxRecDepth 20000 in
theorem rX0_travel_64 {l2 : Int32} {I : MI} {Q : MI → Prop} (H : (((I 48 1) ≤ l2 → (LX0_travel_125 l2 I Q)) ∧ (¬ (I 48 1) ≤ l2 → ((¬ (I 56 10) = 0 → (LX0_travel_125 l2 I Q)) ∧ ((I 56 10) = 0 → (vp_in l2 10 ∧ Wi mX0_driveTo [.ref 56, .int (I 49 l2.toNatClampNeg)] I (fun r2 I1 => ((r2 = 0 → (Wi mX10_demandAtNode [.ref 44, .int (I 49 l2.toNatClampNeg)] I1 (fun r4 I3 => (∀ I5 : MI, I5 = up2 I3 56 9 ((I1 56 9) - r4) → LX0_travel_119 l2 (I 49 l2.toNatClampNeg) I5 Q)))) ∧ (¬ r2 = 0 → (Wv mX0_serveStop [.ref 56, .int (I 49 l2.toNatClampNeg)] I1 (fun I3 => (LX0_travel_119 l2 (I 49 l2.toNatClampNeg) I3 Q)))))))))))) : LX0_travel_64 l2 I Q := by
  show WP mX0_travel 286 Rf0 64 [some (.ref 56), some (.ref 48), some (.int l2), none] [] I (qv Q)
  refine w_iload_n dX0_travel_64 rfl rfl ?_
  refine w_aload_n dX0_travel_65 rfl rfl ?_
  refine w_getI dX0_travel_66 fl_0_77 okC7 kd_48 (by decide) (by decide) rfl ?_
  refine w_icmp_ge (t := 125) dX0_travel_69 (by decide) (fun h => ?_) (fun h => ?_)
  · replace H := H.1 h
    skip
    exact H
  · replace H := H.2 h
    refine w_aload_n dX0_travel_72 rfl rfl ?_
    refine w_getI dX0_travel_73 fl_0_73 okC0 kd_56 (by decide) (by decide) rfl ?_
    refine w_if_ne (t := 125) dX0_travel_76 (by decide) (fun h => ?_) (fun h => ?_)
    · replace H := H.1 h
      skip
      exact H
    · replace H := H.2 h
      refine w_aload_n dX0_travel_79 rfl rfl ?_
      refine w_getR dX0_travel_80 fl_0_82 okC7 kd_48 (by decide) (by decide) rfl rf_48_0 ?_
      refine w_iload_n dX0_travel_83 rfl rfl ?_
      refine w_iald dX0_travel_84 kd_49 (by decide) H.1 ?_
      replace H := H.2
      refine w_istore_n (ls' := [some (.ref 56), some (.ref 48), some (.int l2), some (.int (I 49 l2.toNatClampNeg))]) dX0_travel_85 rfl (by decide) rfl rfl ?_
      refine w_aload_n dX0_travel_86 rfl rfl ?_
      refine w_iload_n dX0_travel_87 rfl rfl ?_
      refine w_callV (st := []) (As := [.int (I 49 l2.toNatClampNeg)]) dX0_travel_88 ml_0_86 okX0_driveTo kd_56 (by decide) rfl rfl rfl (Nat.le_of_ble_eq_true rfl) (by decide) (Nat.le_of_ble_eq_true rfl) (wc_i H (fun r2 I1 H => ?_))
      refine w_if_eq (t := 102) dX0_travel_91 (by decide) (fun h => ?_) (fun h => ?_)
      · replace H := H.1 h
        refine w_aload_n dX0_travel_102 rfl rfl ?_
        refine w_dup dX0_travel_103 rfl ?_
        refine w_getI dX0_travel_104 fl_0_55 okC0 kd_56 (by decide) (by decide) rfl ?_
        refine w_aload_n dX0_travel_107 rfl rfl ?_
        refine w_getR dX0_travel_108 fl_0_26 okC0 kd_56 (by decide) (by decide) rfl rf_56_2 ?_
        refine w_iload_n dX0_travel_111 rfl rfl ?_
        refine w_callV (st := [.int (I1 56 9), .ref 56]) (As := [.int (I 49 l2.toNatClampNeg)]) dX0_travel_112 ml_0_94 okX10_demandAtNode kd_44 (by decide) rfl rfl rfl (Nat.le_of_ble_eq_true rfl) (by decide) (Nat.le_of_ble_eq_true rfl) (wc_i H (fun r4 I3 H => ?_))
        refine w_isub dX0_travel_115 ?_
        refine w_putI dX0_travel_116 fl_0_55 okC0 kd_56 (by decide) (by decide) rfl rfl rfl (w_up fun I5 hI => ?_)
        replace H := H I5 hI
        skip
        exact H
      · replace H := H.2 h
        refine w_aload_n dX0_travel_94 rfl rfl ?_
        refine w_iload_n dX0_travel_95 rfl rfl ?_
        refine w_callV (st := []) (As := [.int (I 49 l2.toNatClampNeg)]) dX0_travel_96 ml_0_90 okX0_serveStop kd_56 (by decide) rfl rfl rfl (Nat.le_of_ble_eq_true rfl) (by decide) (Nat.le_of_ble_eq_true rfl) (wc_v H (fun I3 H => ?_))
        refine w_goto (t := 119) dX0_travel_99 (by decide) ?_
        skip
        exact H
set_option maxRecDepth 20000 in
theorem rX0_travel_119 {l2 l3 : Int32} {I : MI} {Q : MI → Prop} (H : (LX0_travel_64 (l2 + 1) I Q)) : LX0_travel_119 l2 l3 I Q := by
  show WP mX0_travel 286 Rf0 119 [some (.ref 56), some (.ref 48), some (.int l2), some (.int l3)] [] I (qv Q)
  refine w_iinc (v := l2 + 1) (ls' := [some (.ref 56), some (.ref 48), some (.int (l2 + 1)), some (.int l3)]) dX0_travel_119 rfl rfl (by decide) rfl rfl ?_
  refine w_goto (t := 64) dX0_travel_122 (by decide) ?_
  refine w_less (ls' := [some (.ref 56), some (.ref 48), some (.int (l2 + 1)), none]) (by simp [lsub]) ?_
  exact H
set_option maxRecDepth 20000 in
theorem rX0_travel_125 {l2 : Int32} {I : MI} {Q : MI → Prop} (H : ((¬ (I 56 10) = 0 → (LX0_travel_138 l2 I Q)) ∧ ((I 56 10) = 0 → (Wi mX0_driveTo [.ref 56, .int 0] I (fun r2 I1 => (LX0_travel_138 l2 I1 Q)))))) : LX0_travel_125 l2 I Q := by
  show WP mX0_travel 286 Rf0 125 [some (.ref 56), some (.ref 48), some (.int l2), none] [] I (qv Q)
  refine w_aload_n dX0_travel_125 rfl rfl ?_
  refine w_getI dX0_travel_126 fl_0_73 okC0 kd_56 (by decide) (by decide) rfl ?_
  refine w_if_ne (t := 138) dX0_travel_129 (by decide) (fun h => ?_) (fun h => ?_)
  · replace H := H.1 h
    skip
    exact H
  · replace H := H.2 h
    refine w_aload_n dX0_travel_132 rfl rfl ?_
    refine w_iconst (v := 0) dX0_travel_133 (by decide) ?_
    refine w_callV (st := []) (As := [.int 0]) dX0_travel_134 ml_0_86 okX0_driveTo kd_56 (by decide) rfl rfl rfl (Nat.le_of_ble_eq_true rfl) (by decide) (Nat.le_of_ble_eq_true rfl) (wc_i H (fun r2 I1 H => ?_))
    refine w_pop dX0_travel_137 rfl ?_
    skip
    exact H
set_option maxRecDepth 20000 in
theorem rX0_travel_138 {l2 : Int32} {I : MI} {Q : MI → Prop} (H : ((¬ (I 56 5) = 0 → (LX0_travel_158 l2 (-2) I Q)) ∧ ((I 56 5) = 0 → (LX0_travel_158 l2 (I 56 6) I Q)))) : LX0_travel_138 l2 I Q := by
  show WP mX0_travel 286 Rf0 138 [some (.ref 56), some (.ref 48), some (.int l2), none] [] I (qv Q)
  refine w_aload_n dX0_travel_138 rfl rfl ?_
  refine w_getR dX0_travel_139 fl_0_12 okC0 kd_56 (by decide) (by decide) rfl rf_56_4 ?_
  refine w_aload_n dX0_travel_142 rfl rfl ?_
  refine w_getI dX0_travel_143 fl_0_37 okC0 kd_56 (by decide) (by decide) rfl ?_
  refine w_if_ne (t := 156) dX0_travel_146 (by decide) (fun h => ?_) (fun h => ?_)
  · replace H := H.1 h
    refine w_bipush (v := (-2)) dX0_travel_156 (by decide) ?_
    skip
    exact H
  · replace H := H.2 h
    refine w_aload_n dX0_travel_149 rfl rfl ?_
    refine w_getI dX0_travel_150 fl_0_46 okC0 kd_56 (by decide) (by decide) rfl ?_
    refine w_goto (t := 158) dX0_travel_153 (by decide) ?_
    skip
    exact H
set_option maxRecDepth 20000 in
theorem rX0_travel_158 {l2 t1 : Int32} {I : MI} {Q : MI → Prop} (H : (∀ I1 : MI, I1 = up2 I 57 0 t1 → Q I1)) : LX0_travel_158 l2 t1 I Q := by
  show WP mX0_travel 286 Rf0 158 [some (.ref 56), some (.ref 48), some (.int l2), none] [.int t1, .ref 57] I (qv Q)
  refine w_putI dX0_travel_158 fl_0_98 okC3 kd_57 (by decide) (by decide) rfl rfl rfl (w_up fun I1 hI => ?_)
  replace H := H I1 hI
  exact w_vret dX0_travel_161 rfl ⟨rfl, H⟩
set_option maxRecDepth 20000 in
theorem rX0_travel {I : MI} {Q : MI → Prop} (H : (Wv mX3_clear [.ref 57] I (fun I1 => (∀ I2 : MI, I2 = up2 I1 56 5 0 → ∀ I3 : MI, I3 = up2 I2 56 6 (I2 24 4) → Wi mX10_sumOfDemands [.ref 44] I3 (fun r5 I4 => (∀ I6 : MI, I6 = up2 I4 56 9 r5 → ∀ x7 : Int32, x7 = (if (I6 24 3) < (I6 56 9) then (I6 24 3) else (I6 56 9)) → ∀ I8 : MI, I8 = up2 I6 56 7 x7 → ∀ I9 : MI, I9 = up2 I8 56 8 0 → ∀ I10 : MI, I10 = up2 I9 56 10 0 → LX0_travel_64 0 I10 Q)))))) : Wv mX0_travel [.ref 56, .ref 48] I Q := by
  show WP mX0_travel 286 Rf0 0 [some (.ref 56), some (.ref 48), none, none] [] I (qv Q)
  refine w_aload_n dX0_travel_0 rfl rfl ?_
  refine w_getR dX0_travel_1 fl_0_12 okC0 kd_56 (by decide) (by decide) rfl rf_56_4 ?_
  refine w_callV (st := []) (As := []) dX0_travel_4 ml_0_34 okX3_clear kd_57 (by decide) rfl rfl rfl (Nat.le_of_ble_eq_true rfl) (by decide) (Nat.le_of_ble_eq_true rfl) (wc_v H (fun I1 H => ?_))
  refine w_aload_n dX0_travel_7 rfl rfl ?_
  refine w_iconst (v := 0) dX0_travel_8 (by decide) ?_
  refine w_putI dX0_travel_9 fl_0_37 okC0 kd_56 (by decide) (by decide) rfl rfl rfl (w_up fun I2 hI => ?_)
  replace H := H I2 hI
  refine w_aload_n dX0_travel_12 rfl rfl ?_
  refine w_aload_n dX0_travel_13 rfl rfl ?_
  refine w_getR dX0_travel_14 fl_0_18 okC0 kd_56 (by decide) (by decide) rfl rf_56_0 ?_
  refine w_getI dX0_travel_17 fl_0_41 okC6 kd_24 (by decide) (by decide) rfl ?_
  refine w_putI dX0_travel_20 fl_0_46 okC0 kd_56 (by decide) (by decide) rfl rfl rfl (w_up fun I3 hI => ?_)
  replace H := H I3 hI
  refine w_aload_n dX0_travel_23 rfl rfl ?_
  refine w_aload_n dX0_travel_24 rfl rfl ?_
  refine w_getR dX0_travel_25 fl_0_26 okC0 kd_56 (by decide) (by decide) rfl rf_56_2 ?_
  refine w_callV (st := [.ref 56]) (As := []) dX0_travel_28 ml_0_49 okX10_sumOfDemands kd_44 (by decide) rfl rfl rfl (Nat.le_of_ble_eq_true rfl) (by decide) (Nat.le_of_ble_eq_true rfl) (wc_i H (fun r5 I4 H => ?_))
  refine w_putI dX0_travel_31 fl_0_55 okC0 kd_56 (by decide) (by decide) rfl rfl rfl (w_up fun I6 hI => ?_)
  replace H := H I6 hI
  refine w_aload_n dX0_travel_34 rfl rfl ?_
  refine w_aload_n dX0_travel_35 rfl rfl ?_
  refine w_getI dX0_travel_36 fl_0_55 okC0 kd_56 (by decide) (by decide) rfl ?_
  refine w_aload_n dX0_travel_39 rfl rfl ?_
  refine w_getR dX0_travel_40 fl_0_18 okC0 kd_56 (by decide) (by decide) rfl rf_56_0 ?_
  refine w_getI dX0_travel_43 fl_0_58 okC6 kd_24 (by decide) (by decide) rfl ?_
  refine w_min dX0_travel_46 ml_0_61 minS maI minC (by decide) (Nat.le_of_ble_eq_true rfl) ?_
  refine w_top fun x7 hx => ?_
  replace H := H x7 hx
  refine w_putI dX0_travel_49 fl_0_67 okC0 kd_56 (by decide) (by decide) rfl rfl rfl (w_up fun I8 hI => ?_)
  replace H := H I8 hI
  refine w_aload_n dX0_travel_52 rfl rfl ?_
  refine w_iconst (v := 0) dX0_travel_53 (by decide) ?_
  refine w_putI dX0_travel_54 fl_0_70 okC0 kd_56 (by decide) (by decide) rfl rfl rfl (w_up fun I9 hI => ?_)
  replace H := H I9 hI
  refine w_aload_n dX0_travel_57 rfl rfl ?_
  refine w_iconst (v := 0) dX0_travel_58 (by decide) ?_
  refine w_putZ dX0_travel_59 fl_0_73 okC0 kd_56 (by decide) (by decide) rfl rfl rfl (by decide) (w_up fun I10 hI => ?_)
  replace H := H I10 hI
  refine w_iconst (v := 0) dX0_travel_62 (by decide) ?_
  refine w_istore_n (ls' := [some (.ref 56), some (.ref 48), some (.int 0), none]) dX0_travel_63 rfl (by decide) rfl rfl ?_
  skip
  exact H
theorem dX1_allow_0 : decode cX1_allow 0 = .ok (.iconst 0, 1) := by decide +kernel
theorem dX1_allow_1 : decode cX1_allow 1 = .ok (.istore_n 3, 1) := by decide +kernel
theorem dX1_allow_2 : decode cX1_allow 2 = .ok (.iload_n 3, 1) := by decide +kernel
theorem dX1_allow_3 : decode cX1_allow 3 = .ok (.aload_n 0, 1) := by decide +kernel
theorem dX1_allow_4 : decode cX1_allow 4 = .ok (.getfield 33, 3) := by decide +kernel
theorem dX1_allow_7 : decode cX1_allow 7 = .ok (.getfield 111, 3) := by decide +kernel
theorem dX1_allow_10 : decode cX1_allow 10 = .ok (.if_icmp .ge 44, 3) := by decide +kernel
theorem dX1_allow_13 : decode cX1_allow 13 = .ok (.iload_n 1, 1) := by decide +kernel
theorem dX1_allow_14 : decode cX1_allow 14 = .ok (.iload_n 3, 1) := by decide +kernel
theorem dX1_allow_15 : decode cX1_allow 15 = .ok (.invokestatic 114, 3) := by decide +kernel
theorem dX1_allow_18 : decode cX1_allow 18 = .ok (.ifCond .eq 30, 3) := by decide +kernel
theorem dX1_allow_21 : decode cX1_allow 21 = .ok (.iload_n 1, 1) := by decide +kernel
theorem dX1_allow_22 : decode cX1_allow 22 = .ok (.iload_n 3, 1) := by decide +kernel
theorem dX1_allow_23 : decode cX1_allow 23 = .ok (.invokestatic 100, 3) := by decide +kernel
theorem dX1_allow_26 : decode cX1_allow 26 = .ok (.istore 4, 2) := by decide +kernel
theorem dX1_allow_28 : decode cX1_allow 28 = .ok (.aload_n 0, 1) := by decide +kernel
theorem dX1_allow_29 : decode cX1_allow 29 = .ok (.getfield 25, 3) := by decide +kernel
theorem dX1_allow_32 : decode cX1_allow 32 = .ok (.iload 4, 2) := by decide +kernel
theorem dX1_allow_34 : decode cX1_allow 34 = .ok (.aload_n 0, 1) := by decide +kernel
theorem dX1_allow_35 : decode cX1_allow 35 = .ok (.getfield 25, 3) := by decide +kernel
theorem dX1_allow_38 : decode cX1_allow 38 = .ok (.iload 4, 2) := by decide +kernel
theorem dX1_allow_40 : decode cX1_allow 40 = .ok (.iaload, 1) := by decide +kernel
theorem dX1_allow_41 : decode cX1_allow 41 = .ok (.aload_n 2, 1) := by decide +kernel
theorem dX1_allow_42 : decode cX1_allow 42 = .ok (.iload_n 3, 1) := by decide +kernel
theorem dX1_allow_43 : decode cX1_allow 43 = .ok (.iaload, 1) := by decide +kernel
theorem dX1_allow_44 : decode cX1_allow 44 = .ok (.invokestatic 140, 3) := by decide +kernel
theorem dX1_allow_47 : decode cX1_allow 47 = .ok (.iastore, 1) := by decide +kernel
theorem dX1_allow_48 : decode cX1_allow 48 = .ok (.iinc 3 1, 3) := by decide +kernel
theorem dX1_allow_51 : decode cX1_allow 51 = .ok (.goto (-49), 3) := by decide +kernel
theorem dX1_allow_54 : decode cX1_allow 54 = .ok (.return_, 1) := by decide +kernel
abbrev LX1_allow_2 (l1 l3 : Int32) (I : MI) (Q : MI → Prop) : Prop := WP mX1_allow 286 Rf0 2 [some (.ref 50), some (.int l1), some (.ref 47), some (.int l3), none] [] I (qv Q)
abbrev LX1_allow_48 (l1 l3 : Int32) (I : MI) (Q : MI → Prop) : Prop := WP mX1_allow 286 Rf0 48 [some (.ref 50), some (.int l1), some (.ref 47), some (.int l3), none] [] I (qv Q)
set_option maxRecDepth 20000 in
theorem rX1_allow_2 {l1 l3 : Int32} {I : MI} {Q : MI → Prop} (H : (((I 24 0) ≤ l3 → (Q I)) ∧ (¬ (I 24 0) ≤ l3 → (Wi mX1_isLast [.int l1, .int l3] I (fun r2 I1 => ((r2 = 0 → (LX1_allow_48 l1 l3 I1 Q)) ∧ (¬ r2 = 0 → (Wi mX1_place [.int l1, .int l3] I1 (fun r4 I3 => (vp_in r4 5120 ∧ vp_in l3 10 ∧ ∀ x5 : Int32, x5 = (if (I3 55 r4.toNatClampNeg) < (I3 47 l3.toNatClampNeg) then (I3 47 l3.toNatClampNeg) else (I3 55 r4.toNatClampNeg)) → vp_in r4 5120 ∧ ∀ I6 : MI, I6 = up2 I3 55 r4.toNatClampNeg x5 → LX1_allow_48 l1 l3 I6 Q)))))))))) : LX1_allow_2 l1 l3 I Q := by
  show WP mX1_allow 286 Rf0 2 [some (.ref 50), some (.int l1), some (.ref 47), some (.int l3), none] [] I (qv Q)
  refine w_iload_n dX1_allow_2 rfl rfl ?_
  refine w_aload_n dX1_allow_3 rfl rfl ?_
  refine w_getR dX1_allow_4 fl_1_33 okC1 kd_50 (by decide) (by decide) rfl rf_50_0 ?_
  refine w_getI dX1_allow_7 fl_1_111 okC6 kd_24 (by decide) (by decide) rfl ?_
  refine w_icmp_ge (t := 54) dX1_allow_10 (by decide) (fun h => ?_) (fun h => ?_)
  · replace H := H.1 h
    exact w_vret dX1_allow_54 rfl ⟨rfl, H⟩
  · replace H := H.2 h
    refine w_iload_n dX1_allow_13 rfl rfl ?_
    refine w_iload_n dX1_allow_14 rfl rfl ?_
    refine w_callS (st := []) (As := [.int l1, .int l3]) dX1_allow_15 ml_1_114 okX1_isLast rfl (Nat.le_of_ble_eq_true rfl) (by decide) (Nat.le_of_ble_eq_true rfl) (wc_i H (fun r2 I1 H => ?_))
    refine w_if_eq (t := 48) dX1_allow_18 (by decide) (fun h => ?_) (fun h => ?_)
    · replace H := H.1 h
      skip
      exact H
    · replace H := H.2 h
      refine w_iload_n dX1_allow_21 rfl rfl ?_
      refine w_iload_n dX1_allow_22 rfl rfl ?_
      refine w_callS (st := []) (As := [.int l1, .int l3]) dX1_allow_23 ml_1_100 okX1_place rfl (Nat.le_of_ble_eq_true rfl) (by decide) (Nat.le_of_ble_eq_true rfl) (wc_i H (fun r4 I3 H => ?_))
      refine w_istore (ls' := [some (.ref 50), some (.int l1), some (.ref 47), some (.int l3), some (.int r4)]) dX1_allow_26 (by decide) rfl rfl ?_
      refine w_aload_n dX1_allow_28 rfl rfl ?_
      refine w_getR dX1_allow_29 fl_1_25 okC1 kd_50 (by decide) (by decide) rfl rf_50_6 ?_
      refine w_iload dX1_allow_32 rfl ?_
      refine w_aload_n dX1_allow_34 rfl rfl ?_
      refine w_getR dX1_allow_35 fl_1_25 okC1 kd_50 (by decide) (by decide) rfl rf_50_6 ?_
      refine w_iload dX1_allow_38 rfl ?_
      refine w_iald dX1_allow_40 kd_55 (by decide) H.1 ?_
      replace H := H.2
      refine w_aload_n dX1_allow_41 rfl rfl ?_
      refine w_iload_n dX1_allow_42 rfl rfl ?_
      refine w_iald dX1_allow_43 kd_47 (by decide) H.1 ?_
      replace H := H.2
      refine w_max dX1_allow_44 ml_1_140 maxS maI maxC (by decide) (Nat.le_of_ble_eq_true rfl) ?_
      refine w_top fun x5 hx => ?_
      replace H := H x5 hx
      refine w_iast dX1_allow_47 kd_55 (by decide) H.1 (w_up fun I6 hI => ?_)
      replace H := H.2 I6 hI
      refine w_less (ls' := [some (.ref 50), some (.int l1), some (.ref 47), some (.int l3), none]) (by simp [lsub]) ?_
      exact H
set_option maxRecDepth 20000 in
theorem rX1_allow_48 {l1 l3 : Int32} {I : MI} {Q : MI → Prop} (H : (LX1_allow_2 l1 (l3 + 1) I Q)) : LX1_allow_48 l1 l3 I Q := by
  show WP mX1_allow 286 Rf0 48 [some (.ref 50), some (.int l1), some (.ref 47), some (.int l3), none] [] I (qv Q)
  refine w_iinc (v := l3 + 1) (ls' := [some (.ref 50), some (.int l1), some (.ref 47), some (.int (l3 + 1)), none]) dX1_allow_48 rfl rfl (by decide) rfl rfl ?_
  refine w_goto (t := 2) dX1_allow_51 (by decide) ?_
  skip
  exact H
set_option maxRecDepth 20000 in
theorem rX1_allow {a1 : Int32} {I : MI} {Q : MI → Prop} (H : (LX1_allow_2 a1 0 I Q)) : Wv mX1_allow [.ref 50, .int a1, .ref 47] I Q := by
  show WP mX1_allow 286 Rf0 0 [some (.ref 50), some (.int a1), some (.ref 47), none, none] [] I (qv Q)
  refine w_iconst (v := 0) dX1_allow_0 (by decide) ?_
  refine w_istore_n (ls' := [some (.ref 50), some (.int a1), some (.ref 47), some (.int 0), none]) dX1_allow_1 rfl (by decide) rfl rfl ?_
  skip
  exact H
theorem dX1_firstInTime_0 : decode cX1_firstInTime 0 = .ok (.iconst 1, 1) := by decide +kernel
theorem dX1_firstInTime_1 : decode cX1_firstInTime 1 = .ok (.istore_n 3, 1) := by decide +kernel
theorem dX1_firstInTime_2 : decode cX1_firstInTime 2 = .ok (.iload_n 3, 1) := by decide +kernel
theorem dX1_firstInTime_3 : decode cX1_firstInTime 3 = .ok (.aload_n 0, 1) := by decide +kernel
theorem dX1_firstInTime_4 : decode cX1_firstInTime 4 = .ok (.getfield 33, 3) := by decide +kernel
theorem dX1_firstInTime_7 : decode cX1_firstInTime 7 = .ok (.getfield 111, 3) := by decide +kernel
theorem dX1_firstInTime_10 : decode cX1_firstInTime 10 = .ok (.if_icmp .ge 73, 3) := by decide +kernel
theorem dX1_firstInTime_13 : decode cX1_firstInTime 13 = .ok (.aload_n 0, 1) := by decide +kernel
theorem dX1_firstInTime_14 : decode cX1_firstInTime 14 = .ok (.getfield 66, 3) := by decide +kernel
theorem dX1_firstInTime_17 : decode cX1_firstInTime 17 = .ok (.iload_n 1, 1) := by decide +kernel
theorem dX1_firstInTime_18 : decode cX1_firstInTime 18 = .ok (.iconst (-1), 1) := by decide +kernel
theorem dX1_firstInTime_19 : decode cX1_firstInTime 19 = .ok (.ixor, 1) := by decide +kernel
theorem dX1_firstInTime_20 : decode cX1_firstInTime 20 = .ok (.iand, 1) := by decide +kernel
theorem dX1_firstInTime_21 : decode cX1_firstInTime 21 = .ok (.iconst 1, 1) := by decide +kernel
theorem dX1_firstInTime_22 : decode cX1_firstInTime 22 = .ok (.iload_n 3, 1) := by decide +kernel
theorem dX1_firstInTime_23 : decode cX1_firstInTime 23 = .ok (.ishl, 1) := by decide +kernel
theorem dX1_firstInTime_24 : decode cX1_firstInTime 24 = .ok (.iand, 1) := by decide +kernel
theorem dX1_firstInTime_25 : decode cX1_firstInTime 25 = .ok (.ifCond .eq 15, 3) := by decide +kernel
theorem dX1_firstInTime_28 : decode cX1_firstInTime 28 = .ok (.aload_n 2, 1) := by decide +kernel
theorem dX1_firstInTime_29 : decode cX1_firstInTime 29 = .ok (.iload_n 3, 1) := by decide +kernel
theorem dX1_firstInTime_30 : decode cX1_firstInTime 30 = .ok (.iaload, 1) := by decide +kernel
theorem dX1_firstInTime_31 : decode cX1_firstInTime 31 = .ok (.ldc 28, 2) := by decide +kernel
theorem dX1_firstInTime_33 : decode cX1_firstInTime 33 = .ok (.if_icmp .eq 7, 3) := by decide +kernel
theorem dX1_firstInTime_36 : decode cX1_firstInTime 36 = .ok (.iconst 1, 1) := by decide +kernel
theorem dX1_firstInTime_37 : decode cX1_firstInTime 37 = .ok (.goto 4, 3) := by decide +kernel
theorem dX1_firstInTime_40 : decode cX1_firstInTime 40 = .ok (.iconst 0, 1) := by decide +kernel
theorem dX1_firstInTime_41 : decode cX1_firstInTime 41 = .ok (.istore 4, 2) := by decide +kernel
theorem dX1_firstInTime_43 : decode cX1_firstInTime 43 = .ok (.iload 4, 2) := by decide +kernel
theorem dX1_firstInTime_45 : decode cX1_firstInTime 45 = .ok (.ifCond .eq 32, 3) := by decide +kernel
theorem dX1_firstInTime_48 : decode cX1_firstInTime 48 = .ok (.aload_n 2, 1) := by decide +kernel
theorem dX1_firstInTime_49 : decode cX1_firstInTime 49 = .ok (.iload_n 3, 1) := by decide +kernel
theorem dX1_firstInTime_50 : decode cX1_firstInTime 50 = .ok (.iaload, 1) := by decide +kernel
theorem dX1_firstInTime_51 : decode cX1_firstInTime 51 = .ok (.aload_n 0, 1) := by decide +kernel
theorem dX1_firstInTime_52 : decode cX1_firstInTime 52 = .ok (.getfield 18, 3) := by decide +kernel
theorem dX1_firstInTime_55 : decode cX1_firstInTime 55 = .ok (.iload_n 3, 1) := by decide +kernel
theorem dX1_firstInTime_56 : decode cX1_firstInTime 56 = .ok (.iaload, 1) := by decide +kernel
theorem dX1_firstInTime_57 : decode cX1_firstInTime 57 = .ok (.iadd, 1) := by decide +kernel
theorem dX1_firstInTime_58 : decode cX1_firstInTime 58 = .ok (.aload_n 0, 1) := by decide +kernel
theorem dX1_firstInTime_59 : decode cX1_firstInTime 59 = .ok (.getfield 25, 3) := by decide +kernel
theorem dX1_firstInTime_62 : decode cX1_firstInTime 62 = .ok (.iload_n 1, 1) := by decide +kernel
theorem dX1_firstInTime_63 : decode cX1_firstInTime 63 = .ok (.iconst 1, 1) := by decide +kernel
theorem dX1_firstInTime_64 : decode cX1_firstInTime 64 = .ok (.iload_n 3, 1) := by decide +kernel
theorem dX1_firstInTime_65 : decode cX1_firstInTime 65 = .ok (.ishl, 1) := by decide +kernel
theorem dX1_firstInTime_66 : decode cX1_firstInTime 66 = .ok (.ior, 1) := by decide +kernel
theorem dX1_firstInTime_67 : decode cX1_firstInTime 67 = .ok (.iload_n 3, 1) := by decide +kernel
theorem dX1_firstInTime_68 : decode cX1_firstInTime 68 = .ok (.invokestatic 100, 3) := by decide +kernel
theorem dX1_firstInTime_71 : decode cX1_firstInTime 71 = .ok (.iaload, 1) := by decide +kernel
theorem dX1_firstInTime_72 : decode cX1_firstInTime 72 = .ok (.if_icmp .gt 5, 3) := by decide +kernel
theorem dX1_firstInTime_75 : decode cX1_firstInTime 75 = .ok (.iload_n 3, 1) := by decide +kernel
theorem dX1_firstInTime_76 : decode cX1_firstInTime 76 = .ok (.ireturn, 1) := by decide +kernel
theorem dX1_firstInTime_77 : decode cX1_firstInTime 77 = .ok (.iinc 3 1, 3) := by decide +kernel
theorem dX1_firstInTime_80 : decode cX1_firstInTime 80 = .ok (.goto (-78), 3) := by decide +kernel
theorem dX1_firstInTime_83 : decode cX1_firstInTime 83 = .ok (.iconst 0, 1) := by decide +kernel
theorem dX1_firstInTime_84 : decode cX1_firstInTime 84 = .ok (.ireturn, 1) := by decide +kernel
abbrev LX1_firstInTime_2 (l1 l3 : Int32) (I : MI) (Q : Int32 → MI → Prop) : Prop := WP mX1_firstInTime 286 Rf0 2 [some (.ref 50), some (.int l1), some (.ref 46), some (.int l3), none] [] I (qi Q)
abbrev LX1_firstInTime_40 (l1 l3 : Int32) (I : MI) (Q : Int32 → MI → Prop) : Prop := WP mX1_firstInTime 286 Rf0 40 [some (.ref 50), some (.int l1), some (.ref 46), some (.int l3), none] [] I (qi Q)
abbrev LX1_firstInTime_41 (l1 l3 t0 : Int32) (I : MI) (Q : Int32 → MI → Prop) : Prop := WP mX1_firstInTime 286 Rf0 41 [some (.ref 50), some (.int l1), some (.ref 46), some (.int l3), none] [.int t0] I (qi Q)
abbrev LX1_firstInTime_77 (l1 l3 l4 : Int32) (I : MI) (Q : Int32 → MI → Prop) : Prop := WP mX1_firstInTime 286 Rf0 77 [some (.ref 50), some (.int l1), some (.ref 46), some (.int l3), some (.int l4)] [] I (qi Q)
set_option maxRecDepth 20000 in
theorem rX1_firstInTime_2 {l1 l3 : Int32} {I : MI} {Q : Int32 → MI → Prop} (H : (((I 24 0) ≤ l3 → (Q 0 I)) ∧ (¬ (I 24 0) ≤ l3 → (((((I 50 7) &&& (l1 ^^^ ((-1) : Int32))) &&& ((1 : Int32) <<< (l3 &&& 31))) = 0 → (LX1_firstInTime_40 l1 l3 I Q)) ∧ (¬ (((I 50 7) &&& (l1 ^^^ ((-1) : Int32))) &&& ((1 : Int32) <<< (l3 &&& 31))) = 0 → (vp_in l3 10 ∧ ((I 46 l3.toNatClampNeg) = 2147483647 → (LX1_firstInTime_40 l1 l3 I Q)) ∧ (¬ (I 46 l3.toNatClampNeg) = 2147483647 → (LX1_firstInTime_41 l1 l3 1 I Q)))))))) : LX1_firstInTime_2 l1 l3 I Q := by
  show WP mX1_firstInTime 286 Rf0 2 [some (.ref 50), some (.int l1), some (.ref 46), some (.int l3), none] [] I (qi Q)
  refine w_iload_n dX1_firstInTime_2 rfl rfl ?_
  refine w_aload_n dX1_firstInTime_3 rfl rfl ?_
  refine w_getR dX1_firstInTime_4 fl_1_33 okC1 kd_50 (by decide) (by decide) rfl rf_50_0 ?_
  refine w_getI dX1_firstInTime_7 fl_1_111 okC6 kd_24 (by decide) (by decide) rfl ?_
  refine w_icmp_ge (t := 83) dX1_firstInTime_10 (by decide) (fun h => ?_) (fun h => ?_)
  · replace H := H.1 h
    refine w_iconst (v := 0) dX1_firstInTime_83 (by decide) ?_
    exact w_iret dX1_firstInTime_84 rfl ⟨_, rfl, H⟩
  · replace H := H.2 h
    refine w_aload_n dX1_firstInTime_13 rfl rfl ?_
    refine w_getI dX1_firstInTime_14 fl_1_66 okC1 kd_50 (by decide) (by decide) rfl ?_
    refine w_iload_n dX1_firstInTime_17 rfl rfl ?_
    refine w_iconst (v := (-1)) dX1_firstInTime_18 (by decide) ?_
    refine w_ixor dX1_firstInTime_19 ?_
    refine w_iand dX1_firstInTime_20 ?_
    refine w_iconst (v := 1) dX1_firstInTime_21 (by decide) ?_
    refine w_iload_n dX1_firstInTime_22 rfl rfl ?_
    refine w_ishl dX1_firstInTime_23 ?_
    refine w_iand dX1_firstInTime_24 ?_
    refine w_if_eq (t := 40) dX1_firstInTime_25 (by decide) (fun h => ?_) (fun h => ?_)
    · replace H := H.1 h
      skip
      exact H
    · replace H := H.2 h
      refine w_aload_n dX1_firstInTime_28 rfl rfl ?_
      refine w_iload_n dX1_firstInTime_29 rfl rfl ?_
      refine w_iald dX1_firstInTime_30 kd_46 (by decide) H.1 ?_
      replace H := H.2
      refine w_ldc (v := 2147483647) dX1_firstInTime_31 kl_1_28 ?_
      refine w_icmp_eq (t := 40) dX1_firstInTime_33 (by decide) (fun h => ?_) (fun h => ?_)
      · replace H := H.1 h
        skip
        exact H
      · replace H := H.2 h
        refine w_iconst (v := 1) dX1_firstInTime_36 (by decide) ?_
        refine w_goto (t := 41) dX1_firstInTime_37 (by decide) ?_
        skip
        exact H
set_option maxRecDepth 20000 in
theorem rX1_firstInTime_40 {l1 l3 : Int32} {I : MI} {Q : Int32 → MI → Prop} (H : (LX1_firstInTime_41 l1 l3 0 I Q)) : LX1_firstInTime_40 l1 l3 I Q := by
  show WP mX1_firstInTime 286 Rf0 40 [some (.ref 50), some (.int l1), some (.ref 46), some (.int l3), none] [] I (qi Q)
  refine w_iconst (v := 0) dX1_firstInTime_40 (by decide) ?_
  skip
  exact H
set_option maxRecDepth 20000 in
theorem rX1_firstInTime_41 {l1 l3 t0 : Int32} {I : MI} {Q : Int32 → MI → Prop} (H : ((t0 = 0 → (LX1_firstInTime_77 l1 l3 t0 I Q)) ∧ (¬ t0 = 0 → (vp_in l3 10 ∧ vp_in l3 10 ∧ Wi mX1_place [.int (l1 ||| ((1 : Int32) <<< (l3 &&& 31))), .int l3] I (fun r2 I1 => (vp_in r2 5120 ∧ ((I1 55 r2.toNatClampNeg) < ((I 46 l3.toNatClampNeg) + (I 53 l3.toNatClampNeg)) → (LX1_firstInTime_77 l1 l3 t0 I1 Q)) ∧ (¬ (I1 55 r2.toNatClampNeg) < ((I 46 l3.toNatClampNeg) + (I 53 l3.toNatClampNeg)) → (Q l3 I1)))))))) : LX1_firstInTime_41 l1 l3 t0 I Q := by
  show WP mX1_firstInTime 286 Rf0 41 [some (.ref 50), some (.int l1), some (.ref 46), some (.int l3), none] [.int t0] I (qi Q)
  refine w_istore (ls' := [some (.ref 50), some (.int l1), some (.ref 46), some (.int l3), some (.int t0)]) dX1_firstInTime_41 (by decide) rfl rfl ?_
  refine w_iload dX1_firstInTime_43 rfl ?_
  refine w_if_eq (t := 77) dX1_firstInTime_45 (by decide) (fun h => ?_) (fun h => ?_)
  · replace H := H.1 h
    skip
    exact H
  · replace H := H.2 h
    refine w_aload_n dX1_firstInTime_48 rfl rfl ?_
    refine w_iload_n dX1_firstInTime_49 rfl rfl ?_
    refine w_iald dX1_firstInTime_50 kd_46 (by decide) H.1 ?_
    replace H := H.2
    refine w_aload_n dX1_firstInTime_51 rfl rfl ?_
    refine w_getR dX1_firstInTime_52 fl_1_18 okC1 kd_50 (by decide) (by decide) rfl rf_50_4 ?_
    refine w_iload_n dX1_firstInTime_55 rfl rfl ?_
    refine w_iald dX1_firstInTime_56 kd_53 (by decide) H.1 ?_
    replace H := H.2
    refine w_iadd dX1_firstInTime_57 ?_
    refine w_aload_n dX1_firstInTime_58 rfl rfl ?_
    refine w_getR dX1_firstInTime_59 fl_1_25 okC1 kd_50 (by decide) (by decide) rfl rf_50_6 ?_
    refine w_iload_n dX1_firstInTime_62 rfl rfl ?_
    refine w_iconst (v := 1) dX1_firstInTime_63 (by decide) ?_
    refine w_iload_n dX1_firstInTime_64 rfl rfl ?_
    refine w_ishl dX1_firstInTime_65 ?_
    refine w_ior dX1_firstInTime_66 ?_
    refine w_iload_n dX1_firstInTime_67 rfl rfl ?_
    refine w_callS (st := [.ref 55, .int ((I 46 l3.toNatClampNeg) + (I 53 l3.toNatClampNeg))]) (As := [.int (l1 ||| ((1 : Int32) <<< (l3 &&& 31))), .int l3]) dX1_firstInTime_68 ml_1_100 okX1_place rfl (Nat.le_of_ble_eq_true rfl) (by decide) (Nat.le_of_ble_eq_true rfl) (wc_i H (fun r2 I1 H => ?_))
    refine w_iald dX1_firstInTime_71 kd_55 (by decide) H.1 ?_
    replace H := H.2
    refine w_icmp_gt (t := 77) dX1_firstInTime_72 (by decide) (fun h => ?_) (fun h => ?_)
    · replace H := H.1 h
      skip
      exact H
    · replace H := H.2 h
      refine w_iload_n dX1_firstInTime_75 rfl rfl ?_
      exact w_iret dX1_firstInTime_76 rfl ⟨_, rfl, H⟩
set_option maxRecDepth 20000 in
theorem rX1_firstInTime_77 {l1 l3 l4 : Int32} {I : MI} {Q : Int32 → MI → Prop} (H : (LX1_firstInTime_2 l1 (l3 + 1) I Q)) : LX1_firstInTime_77 l1 l3 l4 I Q := by
  show WP mX1_firstInTime 286 Rf0 77 [some (.ref 50), some (.int l1), some (.ref 46), some (.int l3), some (.int l4)] [] I (qi Q)
  refine w_iinc (v := l3 + 1) (ls' := [some (.ref 50), some (.int l1), some (.ref 46), some (.int (l3 + 1)), some (.int l4)]) dX1_firstInTime_77 rfl rfl (by decide) rfl rfl ?_
  refine w_goto (t := 2) dX1_firstInTime_80 (by decide) ?_
  refine w_less (ls' := [some (.ref 50), some (.int l1), some (.ref 46), some (.int (l3 + 1)), none]) (by simp [lsub]) ?_
  exact H
set_option maxRecDepth 20000 in
theorem rX1_firstInTime {a1 : Int32} {I : MI} {Q : Int32 → MI → Prop} (H : (LX1_firstInTime_2 a1 1 I Q)) : Wi mX1_firstInTime [.ref 50, .int a1, .ref 46] I Q := by
  show WP mX1_firstInTime 286 Rf0 0 [some (.ref 50), some (.int a1), some (.ref 46), none, none] [] I (qi Q)
  refine w_iconst (v := 1) dX1_firstInTime_0 (by decide) ?_
  refine w_istore_n (ls' := [some (.ref 50), some (.int a1), some (.ref 46), some (.int 1), none]) dX1_firstInTime_1 rfl (by decide) rfl rfl ?_
  skip
  exact H
theorem dX2_remember_0 : decode cX2_remember 0 = .ok (.aload_n 0, 1) := by decide +kernel
theorem dX2_remember_1 : decode cX2_remember 1 = .ok (.getfield 11, 3) := by decide +kernel
theorem dX2_remember_4 : decode cX2_remember 4 = .ok (.aload_n 0, 1) := by decide +kernel
theorem dX2_remember_5 : decode cX2_remember 5 = .ok (.getfield 22, 3) := by decide +kernel
theorem dX2_remember_8 : decode cX2_remember 8 = .ok (.aaload, 1) := by decide +kernel
theorem dX2_remember_9 : decode cX2_remember 9 = .ok (.aload_n 1, 1) := by decide +kernel
theorem dX2_remember_10 : decode cX2_remember 10 = .ok (.invokevirtual 25, 3) := by decide +kernel
theorem dX2_remember_13 : decode cX2_remember 13 = .ok (.aload_n 0, 1) := by decide +kernel
theorem dX2_remember_14 : decode cX2_remember 14 = .ok (.aload_n 0, 1) := by decide +kernel
theorem dX2_remember_15 : decode cX2_remember 15 = .ok (.getfield 22, 3) := by decide +kernel
theorem dX2_remember_18 : decode cX2_remember 18 = .ok (.iconst 1, 1) := by decide +kernel
theorem dX2_remember_19 : decode cX2_remember 19 = .ok (.iadd, 1) := by decide +kernel
theorem dX2_remember_20 : decode cX2_remember 20 = .ok (.bipush 12, 2) := by decide +kernel
theorem dX2_remember_22 : decode cX2_remember 22 = .ok (.irem, 1) := by decide +kernel
theorem dX2_remember_23 : decode cX2_remember 23 = .ok (.putfield 22, 3) := by decide +kernel
theorem dX2_remember_26 : decode cX2_remember 26 = .ok (.aload_n 0, 1) := by decide +kernel
theorem dX2_remember_27 : decode cX2_remember 27 = .ok (.aload_n 0, 1) := by decide +kernel
theorem dX2_remember_28 : decode cX2_remember 28 = .ok (.getfield 18, 3) := by decide +kernel
theorem dX2_remember_31 : decode cX2_remember 31 = .ok (.iconst 1, 1) := by decide +kernel
theorem dX2_remember_32 : decode cX2_remember 32 = .ok (.iadd, 1) := by decide +kernel
theorem dX2_remember_33 : decode cX2_remember 33 = .ok (.bipush 12, 2) := by decide +kernel
theorem dX2_remember_35 : decode cX2_remember 35 = .ok (.invokestatic 29, 3) := by decide +kernel
theorem dX2_remember_38 : decode cX2_remember 38 = .ok (.putfield 18, 3) := by decide +kernel
theorem dX2_remember_41 : decode cX2_remember 41 = .ok (.return_, 1) := by decide +kernel
set_option maxRecDepth 20000 in
theorem rX2_remember {I : MI} {Q : MI → Prop} (H : (vp_in (I 61 1) 12 ∧ ∃ r1 : Nat, Rf0 62 (I 61 1).toNatClampNeg = some r1 ∧ kd r1 = (0, 8) ∧ r1 < 286 ∧ Wv mX8_copyFrom [.ref r1, .ref 30] I (fun I2 => (∀ I3 : MI, I3 = up2 I2 61 1 (((I2 61 1) + 1) - ((I2 61 1) + 1) / 12 * 12) → ∀ x4 : Int32, x4 = (if 12 < ((I3 61 2) + 1) then 12 else ((I3 61 2) + 1)) → ∀ I5 : MI, I5 = up2 I3 61 2 x4 → Q I5)))) : Wv mX2_remember [.ref 61, .ref 30] I Q := by
  show WP mX2_remember 286 Rf0 0 [some (.ref 61), some (.ref 30)] [] I (qv Q)
  refine w_aload_n dX2_remember_0 rfl rfl ?_
  refine w_getR dX2_remember_1 fl_2_11 okC2 kd_61 (by decide) (by decide) rfl rf_61_0 ?_
  refine w_aload_n dX2_remember_4 rfl rfl ?_
  refine w_getI dX2_remember_5 fl_2_22 okC2 kd_61 (by decide) (by decide) rfl ?_
  obtain ⟨hi, r1, hr, hkr1, hlr1, H⟩ := H
  refine w_aald dX2_remember_8 kd_62 (by decide) hi hr ?_
  refine w_aload_n dX2_remember_9 rfl rfl ?_
  refine w_callV (st := []) (As := [.ref 30]) dX2_remember_10 ml_2_25 okX8_copyFrom hkr1 hlr1 rfl rfl rfl (Nat.le_of_ble_eq_true rfl) (by decide) (Nat.le_of_ble_eq_true rfl) (wc_v H (fun I2 H => ?_))
  refine w_aload_n dX2_remember_13 rfl rfl ?_
  refine w_aload_n dX2_remember_14 rfl rfl ?_
  refine w_getI dX2_remember_15 fl_2_22 okC2 kd_61 (by decide) (by decide) rfl ?_
  refine w_iconst (v := 1) dX2_remember_18 (by decide) ?_
  refine w_iadd dX2_remember_19 ?_
  refine w_bipush (v := 12) dX2_remember_20 (by decide) ?_
  refine w_irem dX2_remember_22 (by decide) ?_
  refine w_putI dX2_remember_23 fl_2_22 okC2 kd_61 (by decide) (by decide) rfl rfl rfl (w_up fun I3 hI => ?_)
  replace H := H I3 hI
  refine w_aload_n dX2_remember_26 rfl rfl ?_
  refine w_aload_n dX2_remember_27 rfl rfl ?_
  refine w_getI dX2_remember_28 fl_2_18 okC2 kd_61 (by decide) (by decide) rfl ?_
  refine w_iconst (v := 1) dX2_remember_31 (by decide) ?_
  refine w_iadd dX2_remember_32 ?_
  refine w_bipush (v := 12) dX2_remember_33 (by decide) ?_
  refine w_min dX2_remember_35 ml_2_29 minS maI minC (by decide) (Nat.le_of_ble_eq_true rfl) ?_
  refine w_top fun x4 hx => ?_
  replace H := H x4 hx
  refine w_putI dX2_remember_38 fl_2_18 okC2 kd_61 (by decide) (by decide) rfl rfl rfl (w_up fun I5 hI => ?_)
  replace H := H I5 hI
  exact w_vret dX2_remember_41 rfl ⟨rfl, H⟩
theorem dX2_recall_0 : decode cX2_recall 0 = .ok (.aload_n 0, 1) := by decide +kernel
theorem dX2_recall_1 : decode cX2_recall 1 = .ok (.getfield 18, 3) := by decide +kernel
theorem dX2_recall_4 : decode cX2_recall 4 = .ok (.ifCond .ne 4, 3) := by decide +kernel
theorem dX2_recall_7 : decode cX2_recall 7 = .ok (.return_, 1) := by decide +kernel
theorem dX2_recall_8 : decode cX2_recall 8 = .ok (.aload_n 0, 1) := by decide +kernel
theorem dX2_recall_9 : decode cX2_recall 9 = .ok (.dup, 1) := by decide +kernel
theorem dX2_recall_10 : decode cX2_recall 10 = .ok (.getfield 18, 3) := by decide +kernel
theorem dX2_recall_13 : decode cX2_recall 13 = .ok (.iconst 1, 1) := by decide +kernel
theorem dX2_recall_14 : decode cX2_recall 14 = .ok (.isub, 1) := by decide +kernel
theorem dX2_recall_15 : decode cX2_recall 15 = .ok (.putfield 18, 3) := by decide +kernel
theorem dX2_recall_18 : decode cX2_recall 18 = .ok (.aload_n 0, 1) := by decide +kernel
theorem dX2_recall_19 : decode cX2_recall 19 = .ok (.aload_n 0, 1) := by decide +kernel
theorem dX2_recall_20 : decode cX2_recall 20 = .ok (.getfield 22, 3) := by decide +kernel
theorem dX2_recall_23 : decode cX2_recall 23 = .ok (.bipush 12, 2) := by decide +kernel
theorem dX2_recall_25 : decode cX2_recall 25 = .ok (.iadd, 1) := by decide +kernel
theorem dX2_recall_26 : decode cX2_recall 26 = .ok (.iconst 1, 1) := by decide +kernel
theorem dX2_recall_27 : decode cX2_recall 27 = .ok (.isub, 1) := by decide +kernel
theorem dX2_recall_28 : decode cX2_recall 28 = .ok (.bipush 12, 2) := by decide +kernel
theorem dX2_recall_30 : decode cX2_recall 30 = .ok (.irem, 1) := by decide +kernel
theorem dX2_recall_31 : decode cX2_recall 31 = .ok (.putfield 22, 3) := by decide +kernel
theorem dX2_recall_34 : decode cX2_recall 34 = .ok (.aload_n 1, 1) := by decide +kernel
theorem dX2_recall_35 : decode cX2_recall 35 = .ok (.aload_n 0, 1) := by decide +kernel
theorem dX2_recall_36 : decode cX2_recall 36 = .ok (.getfield 11, 3) := by decide +kernel
theorem dX2_recall_39 : decode cX2_recall 39 = .ok (.aload_n 0, 1) := by decide +kernel
theorem dX2_recall_40 : decode cX2_recall 40 = .ok (.getfield 22, 3) := by decide +kernel
theorem dX2_recall_43 : decode cX2_recall 43 = .ok (.aaload, 1) := by decide +kernel
theorem dX2_recall_44 : decode cX2_recall 44 = .ok (.invokevirtual 25, 3) := by decide +kernel
theorem dX2_recall_47 : decode cX2_recall 47 = .ok (.return_, 1) := by decide +kernel
set_option maxRecDepth 20000 in
theorem rX2_recall {I : MI} {Q : MI → Prop} (H : ((¬ (I 61 2) = 0 → (∀ I1 : MI, I1 = up2 I 61 2 ((I 61 2) - 1) → ∀ I2 : MI, I2 = up2 I1 61 1 ((((I1 61 1) + 12) - 1) - (((I1 61 1) + 12) - 1) / 12 * 12) → vp_in (I2 61 1) 12 ∧ ∃ r3 : Nat, Rf0 62 (I2 61 1).toNatClampNeg = some r3 ∧ kd r3 = (0, 8) ∧ r3 < 286 ∧ Wv mX8_copyFrom [.ref 30, .ref r3] I2 (fun I4 => (Q I4)))) ∧ ((I 61 2) = 0 → (Q I)))) : Wv mX2_recall [.ref 61, .ref 30] I Q := by
  show WP mX2_recall 286 Rf0 0 [some (.ref 61), some (.ref 30)] [] I (qv Q)
  refine w_aload_n dX2_recall_0 rfl rfl ?_
  refine w_getI dX2_recall_1 fl_2_18 okC2 kd_61 (by decide) (by decide) rfl ?_
  refine w_if_ne (t := 8) dX2_recall_4 (by decide) (fun h => ?_) (fun h => ?_)
  · replace H := H.1 h
    refine w_aload_n dX2_recall_8 rfl rfl ?_
    refine w_dup dX2_recall_9 rfl ?_
    refine w_getI dX2_recall_10 fl_2_18 okC2 kd_61 (by decide) (by decide) rfl ?_
    refine w_iconst (v := 1) dX2_recall_13 (by decide) ?_
    refine w_isub dX2_recall_14 ?_
    refine w_putI dX2_recall_15 fl_2_18 okC2 kd_61 (by decide) (by decide) rfl rfl rfl (w_up fun I1 hI => ?_)
    replace H := H I1 hI
    refine w_aload_n dX2_recall_18 rfl rfl ?_
    refine w_aload_n dX2_recall_19 rfl rfl ?_
    refine w_getI dX2_recall_20 fl_2_22 okC2 kd_61 (by decide) (by decide) rfl ?_
    refine w_bipush (v := 12) dX2_recall_23 (by decide) ?_
    refine w_iadd dX2_recall_25 ?_
    refine w_iconst (v := 1) dX2_recall_26 (by decide) ?_
    refine w_isub dX2_recall_27 ?_
    refine w_bipush (v := 12) dX2_recall_28 (by decide) ?_
    refine w_irem dX2_recall_30 (by decide) ?_
    refine w_putI dX2_recall_31 fl_2_22 okC2 kd_61 (by decide) (by decide) rfl rfl rfl (w_up fun I2 hI => ?_)
    replace H := H I2 hI
    refine w_aload_n dX2_recall_34 rfl rfl ?_
    refine w_aload_n dX2_recall_35 rfl rfl ?_
    refine w_getR dX2_recall_36 fl_2_11 okC2 kd_61 (by decide) (by decide) rfl rf_61_0 ?_
    refine w_aload_n dX2_recall_39 rfl rfl ?_
    refine w_getI dX2_recall_40 fl_2_22 okC2 kd_61 (by decide) (by decide) rfl ?_
    obtain ⟨hi, r3, hr, hkr3, hlr3, H⟩ := H
    refine w_aald dX2_recall_43 kd_62 (by decide) hi hr ?_
    refine w_callV (st := []) (As := [.ref r3]) dX2_recall_44 ml_2_25 okX8_copyFrom kd_30 (by decide) rfl rfl rfl (Nat.le_of_ble_eq_true rfl) (by decide) (Nat.le_of_ble_eq_true rfl) (wc_v H (fun I4 H => ?_))
    exact w_vret dX2_recall_47 rfl ⟨rfl, H⟩
  · replace H := H.2 h
    exact w_vret dX2_recall_7 rfl ⟨rfl, H⟩
theorem dX3_clear_0 : decode cX3_clear 0 = .ok (.aload_n 0, 1) := by decide +kernel
theorem dX3_clear_1 : decode cX3_clear 1 = .ok (.bipush (-2), 2) := by decide +kernel
theorem dX3_clear_3 : decode cX3_clear 3 = .ok (.putfield 24, 3) := by decide +kernel
theorem dX3_clear_6 : decode cX3_clear 6 = .ok (.aload_n 0, 1) := by decide +kernel
theorem dX3_clear_7 : decode cX3_clear 7 = .ok (.iconst 0, 1) := by decide +kernel
theorem dX3_clear_8 : decode cX3_clear 8 = .ok (.putfield 28, 3) := by decide +kernel
theorem dX3_clear_11 : decode cX3_clear 11 = .ok (.aload_n 0, 1) := by decide +kernel
theorem dX3_clear_12 : decode cX3_clear 12 = .ok (.iconst 0, 1) := by decide +kernel
theorem dX3_clear_13 : decode cX3_clear 13 = .ok (.putfield 31, 3) := by decide +kernel
theorem dX3_clear_16 : decode cX3_clear 16 = .ok (.return_, 1) := by decide +kernel
set_option maxRecDepth 20000 in
theorem rX3_clear {I : MI} {Q : MI → Prop} (H : (∀ I1 : MI, I1 = up2 I 57 0 (-2) → ∀ I2 : MI, I2 = up2 I1 57 1 0 → ∀ I3 : MI, I3 = up2 I2 57 2 0 → Q I3)) : Wv mX3_clear [.ref 57] I Q := by
  show WP mX3_clear 286 Rf0 0 [some (.ref 57)] [] I (qv Q)
  refine w_aload_n dX3_clear_0 rfl rfl ?_
  refine w_bipush (v := (-2)) dX3_clear_1 (by decide) ?_
  refine w_putI dX3_clear_3 fl_3_24 okC3 kd_57 (by decide) (by decide) rfl rfl rfl (w_up fun I1 hI => ?_)
  replace H := H I1 hI
  refine w_aload_n dX3_clear_6 rfl rfl ?_
  refine w_iconst (v := 0) dX3_clear_7 (by decide) ?_
  refine w_putI dX3_clear_8 fl_3_28 okC3 kd_57 (by decide) (by decide) rfl rfl rfl (w_up fun I2 hI => ?_)
  replace H := H I2 hI
  refine w_aload_n dX3_clear_11 rfl rfl ?_
  refine w_iconst (v := 0) dX3_clear_12 (by decide) ?_
  refine w_putI dX3_clear_13 fl_3_31 okC3 kd_57 (by decide) (by decide) rfl rfl rfl (w_up fun I3 hI => ?_)
  replace H := H I3 hI
  exact w_vret dX3_clear_16 rfl ⟨rfl, H⟩
theorem dX3_add_0 : decode cX3_add 0 = .ok (.aload_n 0, 1) := by decide +kernel
theorem dX3_add_1 : decode cX3_add 1 = .ok (.getfield 28, 3) := by decide +kernel
theorem dX3_add_4 : decode cX3_add 4 = .ok (.bipush 12, 2) := by decide +kernel
theorem dX3_add_6 : decode cX3_add 6 = .ok (.if_icmp .ge 43, 3) := by decide +kernel
theorem dX3_add_9 : decode cX3_add 9 = .ok (.aload_n 0, 1) := by decide +kernel
theorem dX3_add_10 : decode cX3_add 10 = .ok (.getfield 9, 3) := by decide +kernel
theorem dX3_add_13 : decode cX3_add 13 = .ok (.aload_n 0, 1) := by decide +kernel
theorem dX3_add_14 : decode cX3_add 14 = .ok (.getfield 28, 3) := by decide +kernel
theorem dX3_add_17 : decode cX3_add 17 = .ok (.iload_n 1, 1) := by decide +kernel
theorem dX3_add_18 : decode cX3_add 18 = .ok (.iastore, 1) := by decide +kernel
theorem dX3_add_19 : decode cX3_add 19 = .ok (.aload_n 0, 1) := by decide +kernel
theorem dX3_add_20 : decode cX3_add 20 = .ok (.getfield 15, 3) := by decide +kernel
theorem dX3_add_23 : decode cX3_add 23 = .ok (.aload_n 0, 1) := by decide +kernel
theorem dX3_add_24 : decode cX3_add 24 = .ok (.getfield 28, 3) := by decide +kernel
theorem dX3_add_27 : decode cX3_add 27 = .ok (.iload_n 2, 1) := by decide +kernel
theorem dX3_add_28 : decode cX3_add 28 = .ok (.iastore, 1) := by decide +kernel
theorem dX3_add_29 : decode cX3_add 29 = .ok (.aload_n 0, 1) := by decide +kernel
theorem dX3_add_30 : decode cX3_add 30 = .ok (.getfield 18, 3) := by decide +kernel
theorem dX3_add_33 : decode cX3_add 33 = .ok (.aload_n 0, 1) := by decide +kernel
theorem dX3_add_34 : decode cX3_add 34 = .ok (.getfield 28, 3) := by decide +kernel
theorem dX3_add_37 : decode cX3_add 37 = .ok (.iload_n 3, 1) := by decide +kernel
theorem dX3_add_38 : decode cX3_add 38 = .ok (.iastore, 1) := by decide +kernel
theorem dX3_add_39 : decode cX3_add 39 = .ok (.aload_n 0, 1) := by decide +kernel
theorem dX3_add_40 : decode cX3_add 40 = .ok (.dup, 1) := by decide +kernel
theorem dX3_add_41 : decode cX3_add 41 = .ok (.getfield 28, 3) := by decide +kernel
theorem dX3_add_44 : decode cX3_add 44 = .ok (.iconst 1, 1) := by decide +kernel
theorem dX3_add_45 : decode cX3_add 45 = .ok (.iadd, 1) := by decide +kernel
theorem dX3_add_46 : decode cX3_add 46 = .ok (.putfield 28, 3) := by decide +kernel
theorem dX3_add_49 : decode cX3_add 49 = .ok (.return_, 1) := by decide +kernel
set_option maxRecDepth 20000 in
theorem rX3_add {a1 a2 a3 : Int32} {I : MI} {Q : MI → Prop} (H : ((12 ≤ (I 57 1) → (Q I)) ∧ (¬ 12 ≤ (I 57 1) → (vp_in (I 57 1) 12 ∧ ∀ I1 : MI, I1 = up2 I 58 (I 57 1).toNatClampNeg a1 → vp_in (I1 57 1) 12 ∧ ∀ I2 : MI, I2 = up2 I1 59 (I1 57 1).toNatClampNeg a2 → vp_in (I2 57 1) 12 ∧ ∀ I3 : MI, I3 = up2 I2 60 (I2 57 1).toNatClampNeg a3 → ∀ I4 : MI, I4 = up2 I3 57 1 ((I3 57 1) + 1) → Q I4)))) : Wv mX3_add [.ref 57, .int a1, .int a2, .int a3] I Q := by
  show WP mX3_add 286 Rf0 0 [some (.ref 57), some (.int a1), some (.int a2), some (.int a3)] [] I (qv Q)
  refine w_aload_n dX3_add_0 rfl rfl ?_
  refine w_getI dX3_add_1 fl_3_28 okC3 kd_57 (by decide) (by decide) rfl ?_
  refine w_bipush (v := 12) dX3_add_4 (by decide) ?_
  refine w_icmp_ge (t := 49) dX3_add_6 (by decide) (fun h => ?_) (fun h => ?_)
  · replace H := H.1 h
    exact w_vret dX3_add_49 rfl ⟨rfl, H⟩
  · replace H := H.2 h
    refine w_aload_n dX3_add_9 rfl rfl ?_
    refine w_getR dX3_add_10 fl_3_9 okC3 kd_57 (by decide) (by decide) rfl rf_57_3 ?_
    refine w_aload_n dX3_add_13 rfl rfl ?_
    refine w_getI dX3_add_14 fl_3_28 okC3 kd_57 (by decide) (by decide) rfl ?_
    refine w_iload_n dX3_add_17 rfl rfl ?_
    refine w_iast dX3_add_18 kd_58 (by decide) H.1 (w_up fun I1 hI => ?_)
    replace H := H.2 I1 hI
    refine w_aload_n dX3_add_19 rfl rfl ?_
    refine w_getR dX3_add_20 fl_3_15 okC3 kd_57 (by decide) (by decide) rfl rf_57_4 ?_
    refine w_aload_n dX3_add_23 rfl rfl ?_
    refine w_getI dX3_add_24 fl_3_28 okC3 kd_57 (by decide) (by decide) rfl ?_
    refine w_iload_n dX3_add_27 rfl rfl ?_
    refine w_iast dX3_add_28 kd_59 (by decide) H.1 (w_up fun I2 hI => ?_)
    replace H := H.2 I2 hI
    refine w_aload_n dX3_add_29 rfl rfl ?_
    refine w_getR dX3_add_30 fl_3_18 okC3 kd_57 (by decide) (by decide) rfl rf_57_5 ?_
    refine w_aload_n dX3_add_33 rfl rfl ?_
    refine w_getI dX3_add_34 fl_3_28 okC3 kd_57 (by decide) (by decide) rfl ?_
    refine w_iload_n dX3_add_37 rfl rfl ?_
    refine w_iast dX3_add_38 kd_60 (by decide) H.1 (w_up fun I3 hI => ?_)
    replace H := H.2 I3 hI
    refine w_aload_n dX3_add_39 rfl rfl ?_
    refine w_dup dX3_add_40 rfl ?_
    refine w_getI dX3_add_41 fl_3_28 okC3 kd_57 (by decide) (by decide) rfl ?_
    refine w_iconst (v := 1) dX3_add_44 (by decide) ?_
    refine w_iadd dX3_add_45 ?_
    refine w_putI dX3_add_46 fl_3_28 okC3 kd_57 (by decide) (by decide) rfl rfl rfl (w_up fun I4 hI => ?_)
    replace H := H I4 hI
    exact w_vret dX3_add_49 rfl ⟨rfl, H⟩
theorem dX3_copyFrom_0 : decode cX3_copyFrom 0 = .ok (.aload_n 0, 1) := by decide +kernel
theorem dX3_copyFrom_1 : decode cX3_copyFrom 1 = .ok (.aload_n 1, 1) := by decide +kernel
theorem dX3_copyFrom_2 : decode cX3_copyFrom 2 = .ok (.getfield 24, 3) := by decide +kernel
theorem dX3_copyFrom_5 : decode cX3_copyFrom 5 = .ok (.putfield 24, 3) := by decide +kernel
theorem dX3_copyFrom_8 : decode cX3_copyFrom 8 = .ok (.aload_n 0, 1) := by decide +kernel
theorem dX3_copyFrom_9 : decode cX3_copyFrom 9 = .ok (.aload_n 1, 1) := by decide +kernel
theorem dX3_copyFrom_10 : decode cX3_copyFrom 10 = .ok (.getfield 28, 3) := by decide +kernel
theorem dX3_copyFrom_13 : decode cX3_copyFrom 13 = .ok (.putfield 28, 3) := by decide +kernel
theorem dX3_copyFrom_16 : decode cX3_copyFrom 16 = .ok (.aload_n 0, 1) := by decide +kernel
theorem dX3_copyFrom_17 : decode cX3_copyFrom 17 = .ok (.aload_n 1, 1) := by decide +kernel
theorem dX3_copyFrom_18 : decode cX3_copyFrom 18 = .ok (.getfield 31, 3) := by decide +kernel
theorem dX3_copyFrom_21 : decode cX3_copyFrom 21 = .ok (.putfield 31, 3) := by decide +kernel
theorem dX3_copyFrom_24 : decode cX3_copyFrom 24 = .ok (.aload_n 1, 1) := by decide +kernel
theorem dX3_copyFrom_25 : decode cX3_copyFrom 25 = .ok (.getfield 9, 3) := by decide +kernel
theorem dX3_copyFrom_28 : decode cX3_copyFrom 28 = .ok (.iconst 0, 1) := by decide +kernel
theorem dX3_copyFrom_29 : decode cX3_copyFrom 29 = .ok (.aload_n 0, 1) := by decide +kernel
theorem dX3_copyFrom_30 : decode cX3_copyFrom 30 = .ok (.getfield 9, 3) := by decide +kernel
theorem dX3_copyFrom_33 : decode cX3_copyFrom 33 = .ok (.iconst 0, 1) := by decide +kernel
theorem dX3_copyFrom_34 : decode cX3_copyFrom 34 = .ok (.bipush 12, 2) := by decide +kernel
theorem dX3_copyFrom_36 : decode cX3_copyFrom 36 = .ok (.invokestatic 34, 3) := by decide +kernel
theorem dX3_copyFrom_39 : decode cX3_copyFrom 39 = .ok (.aload_n 1, 1) := by decide +kernel
theorem dX3_copyFrom_40 : decode cX3_copyFrom 40 = .ok (.getfield 15, 3) := by decide +kernel
theorem dX3_copyFrom_43 : decode cX3_copyFrom 43 = .ok (.iconst 0, 1) := by decide +kernel
theorem dX3_copyFrom_44 : decode cX3_copyFrom 44 = .ok (.aload_n 0, 1) := by decide +kernel
theorem dX3_copyFrom_45 : decode cX3_copyFrom 45 = .ok (.getfield 15, 3) := by decide +kernel
theorem dX3_copyFrom_48 : decode cX3_copyFrom 48 = .ok (.iconst 0, 1) := by decide +kernel
theorem dX3_copyFrom_49 : decode cX3_copyFrom 49 = .ok (.bipush 12, 2) := by decide +kernel
theorem dX3_copyFrom_51 : decode cX3_copyFrom 51 = .ok (.invokestatic 34, 3) := by decide +kernel
theorem dX3_copyFrom_54 : decode cX3_copyFrom 54 = .ok (.aload_n 1, 1) := by decide +kernel
theorem dX3_copyFrom_55 : decode cX3_copyFrom 55 = .ok (.getfield 18, 3) := by decide +kernel
theorem dX3_copyFrom_58 : decode cX3_copyFrom 58 = .ok (.iconst 0, 1) := by decide +kernel
theorem dX3_copyFrom_59 : decode cX3_copyFrom 59 = .ok (.aload_n 0, 1) := by decide +kernel
theorem dX3_copyFrom_60 : decode cX3_copyFrom 60 = .ok (.getfield 18, 3) := by decide +kernel
theorem dX3_copyFrom_63 : decode cX3_copyFrom 63 = .ok (.iconst 0, 1) := by decide +kernel
theorem dX3_copyFrom_64 : decode cX3_copyFrom 64 = .ok (.bipush 12, 2) := by decide +kernel
theorem dX3_copyFrom_66 : decode cX3_copyFrom 66 = .ok (.invokestatic 34, 3) := by decide +kernel
theorem dX3_copyFrom_69 : decode cX3_copyFrom 69 = .ok (.return_, 1) := by decide +kernel
set_option maxRecDepth 20000 in
theorem rX3_copyFrom {c d : Nat} {I : MI} {Q : MI → Prop} (hc : IsLg c) (hd : IsLg d) (H : (∀ I1 : MI, I1 = up2 I c 0 (I d 0) → ∀ I2 : MI, I2 = up2 I1 c 1 (I1 d 1) → ∀ I3 : MI, I3 = up2 I2 c 2 (I2 d 2) → ∀ I4 : MI, I4 = upA I3 (c + 1) (va_cpy (I3 (d + 1)) (I3 (c + 1)) 0 0 12) → ∀ I5 : MI, I5 = upA I4 (c + 2) (va_cpy (I4 (d + 2)) (I4 (c + 2)) 0 0 12) → ∀ I6 : MI, I6 = upA I5 (c + 3) (va_cpy (I5 (d + 3)) (I5 (c + 3)) 0 0 12) → Q I6)) : Wv mX3_copyFrom [.ref c, .ref d] I Q := by
  show WP mX3_copyFrom 286 Rf0 0 [some (.ref c), some (.ref d)] [] I (qv Q)
  refine w_aload_n dX3_copyFrom_0 rfl rfl ?_
  refine w_aload_n dX3_copyFrom_1 rfl rfl ?_
  refine w_getI dX3_copyFrom_2 fl_3_24 okC3 hd.1 (by have := hd.2.1; omega) (by decide) rfl ?_
  refine w_putI dX3_copyFrom_5 fl_3_24 okC3 hc.1 (by have := hc.2.1; omega) (by decide) rfl rfl rfl (w_up fun I1 hI => ?_)
  replace H := H I1 hI
  refine w_aload_n dX3_copyFrom_8 rfl rfl ?_
  refine w_aload_n dX3_copyFrom_9 rfl rfl ?_
  refine w_getI dX3_copyFrom_10 fl_3_28 okC3 hd.1 (by have := hd.2.1; omega) (by decide) rfl ?_
  refine w_putI dX3_copyFrom_13 fl_3_28 okC3 hc.1 (by have := hc.2.1; omega) (by decide) rfl rfl rfl (w_up fun I2 hI => ?_)
  replace H := H I2 hI
  refine w_aload_n dX3_copyFrom_16 rfl rfl ?_
  refine w_aload_n dX3_copyFrom_17 rfl rfl ?_
  refine w_getI dX3_copyFrom_18 fl_3_31 okC3 hd.1 (by have := hd.2.1; omega) (by decide) rfl ?_
  refine w_putI dX3_copyFrom_21 fl_3_31 okC3 hc.1 (by have := hc.2.1; omega) (by decide) rfl rfl rfl (w_up fun I3 hI => ?_)
  replace H := H I3 hI
  refine w_aload_n dX3_copyFrom_24 rfl rfl ?_
  refine w_getR dX3_copyFrom_25 fl_3_9 okC3 hd.1 (by have := hd.2.1; omega) (by decide) rfl hd.2.2.1 ?_
  refine w_iconst (v := 0) dX3_copyFrom_28 (by decide) ?_
  refine w_aload_n dX3_copyFrom_29 rfl rfl ?_
  refine w_getR dX3_copyFrom_30 fl_3_9 okC3 hc.1 (by have := hc.2.1; omega) (by decide) rfl hc.2.2.1 ?_
  refine w_iconst (v := 0) dX3_copyFrom_33 (by decide) ?_
  refine w_bipush (v := 12) dX3_copyFrom_34 (by decide) ?_
  refine w_copy dX3_copyFrom_36 ml_3_34 cpN cpS cpI hd.2.2.2.2.2.1 hc.2.2.2.2.2.1 (by have := hd.2.1; omega) (by have := hc.2.1; omega) (by decide) (by decide) (by decide) (by decide) (by decide) (by decide) (Nat.le_of_ble_eq_true rfl) (w_up fun I4 hI => ?_)
  replace H := H I4 hI
  refine w_aload_n dX3_copyFrom_39 rfl rfl ?_
  refine w_getR dX3_copyFrom_40 fl_3_15 okC3 hd.1 (by have := hd.2.1; omega) (by decide) rfl hd.2.2.2.1 ?_
  refine w_iconst (v := 0) dX3_copyFrom_43 (by decide) ?_
  refine w_aload_n dX3_copyFrom_44 rfl rfl ?_
  refine w_getR dX3_copyFrom_45 fl_3_15 okC3 hc.1 (by have := hc.2.1; omega) (by decide) rfl hc.2.2.2.1 ?_
  refine w_iconst (v := 0) dX3_copyFrom_48 (by decide) ?_
  refine w_bipush (v := 12) dX3_copyFrom_49 (by decide) ?_
  refine w_copy dX3_copyFrom_51 ml_3_34 cpN cpS cpI hd.2.2.2.2.2.2.1 hc.2.2.2.2.2.2.1 (by have := hd.2.1; omega) (by have := hc.2.1; omega) (by decide) (by decide) (by decide) (by decide) (by decide) (by decide) (Nat.le_of_ble_eq_true rfl) (w_up fun I5 hI => ?_)
  replace H := H I5 hI
  refine w_aload_n dX3_copyFrom_54 rfl rfl ?_
  refine w_getR dX3_copyFrom_55 fl_3_18 okC3 hd.1 (by have := hd.2.1; omega) (by decide) rfl hd.2.2.2.2.1 ?_
  refine w_iconst (v := 0) dX3_copyFrom_58 (by decide) ?_
  refine w_aload_n dX3_copyFrom_59 rfl rfl ?_
  refine w_getR dX3_copyFrom_60 fl_3_18 okC3 hc.1 (by have := hc.2.1; omega) (by decide) rfl hc.2.2.2.2.1 ?_
  refine w_iconst (v := 0) dX3_copyFrom_63 (by decide) ?_
  refine w_bipush (v := 12) dX3_copyFrom_64 (by decide) ?_
  refine w_copy dX3_copyFrom_66 ml_3_34 cpN cpS cpI hd.2.2.2.2.2.2.2 hc.2.2.2.2.2.2.2 (by have := hd.2.1; omega) (by have := hc.2.1; omega) (by decide) (by decide) (by decide) (by decide) (by decide) (by decide) (Nat.le_of_ble_eq_true rfl) (w_up fun I6 hI => ?_)
  replace H := H I6 hI
  exact w_vret dX3_copyFrom_69 rfl ⟨rfl, H⟩
theorem dX6_clear_0 : decode cX6_clear 0 = .ok (.aload_n 0, 1) := by decide +kernel
theorem dX6_clear_1 : decode cX6_clear 1 = .ok (.iconst 2, 1) := by decide +kernel
theorem dX6_clear_2 : decode cX6_clear 2 = .ok (.putfield 30, 3) := by decide +kernel
theorem dX6_clear_5 : decode cX6_clear 5 = .ok (.aload_n 0, 1) := by decide +kernel
theorem dX6_clear_6 : decode cX6_clear 6 = .ok (.iconst 0, 1) := by decide +kernel
theorem dX6_clear_7 : decode cX6_clear 7 = .ok (.putfield 34, 3) := by decide +kernel
theorem dX6_clear_10 : decode cX6_clear 10 = .ok (.aload_n 0, 1) := by decide +kernel
theorem dX6_clear_11 : decode cX6_clear 11 = .ok (.iconst 0, 1) := by decide +kernel
theorem dX6_clear_12 : decode cX6_clear 12 = .ok (.putfield 37, 3) := by decide +kernel
theorem dX6_clear_15 : decode cX6_clear 15 = .ok (.aload_n 0, 1) := by decide +kernel
theorem dX6_clear_16 : decode cX6_clear 16 = .ok (.bipush 60, 2) := by decide +kernel
theorem dX6_clear_18 : decode cX6_clear 18 = .ok (.putfield 40, 3) := by decide +kernel
theorem dX6_clear_21 : decode cX6_clear 21 = .ok (.aload_n 0, 1) := by decide +kernel
theorem dX6_clear_22 : decode cX6_clear 22 = .ok (.sipush 300, 3) := by decide +kernel
theorem dX6_clear_25 : decode cX6_clear 25 = .ok (.putfield 43, 3) := by decide +kernel
theorem dX6_clear_28 : decode cX6_clear 28 = .ok (.aload_n 0, 1) := by decide +kernel
theorem dX6_clear_29 : decode cX6_clear 29 = .ok (.iconst 5, 1) := by decide +kernel
theorem dX6_clear_30 : decode cX6_clear 30 = .ok (.putfield 46, 3) := by decide +kernel
theorem dX6_clear_33 : decode cX6_clear 33 = .ok (.aload_n 0, 1) := by decide +kernel
theorem dX6_clear_34 : decode cX6_clear 34 = .ok (.bipush 10, 2) := by decide +kernel
theorem dX6_clear_36 : decode cX6_clear 36 = .ok (.putfield 49, 3) := by decide +kernel
theorem dX6_clear_39 : decode cX6_clear 39 = .ok (.return_, 1) := by decide +kernel
set_option maxRecDepth 20000 in
theorem rX6_clear {I : MI} {Q : MI → Prop} (H : (∀ I1 : MI, I1 = up2 I 4 0 2 → ∀ I2 : MI, I2 = up2 I1 4 1 0 → ∀ I3 : MI, I3 = up2 I2 4 2 0 → ∀ I4 : MI, I4 = up2 I3 4 3 60 → ∀ I5 : MI, I5 = up2 I4 4 4 300 → ∀ I6 : MI, I6 = up2 I5 4 5 5 → ∀ I7 : MI, I7 = up2 I6 4 6 10 → Q I7)) : Wv mX6_clear [.ref 4] I Q := by
  show WP mX6_clear 286 Rf0 0 [some (.ref 4)] [] I (qv Q)
  refine w_aload_n dX6_clear_0 rfl rfl ?_
  refine w_iconst (v := 2) dX6_clear_1 (by decide) ?_
  refine w_putI dX6_clear_2 fl_6_30 okC6 kd_4 (by decide) (by decide) rfl rfl rfl (w_up fun I1 hI => ?_)
  replace H := H I1 hI
  refine w_aload_n dX6_clear_5 rfl rfl ?_
  refine w_iconst (v := 0) dX6_clear_6 (by decide) ?_
  refine w_putI dX6_clear_7 fl_6_34 okC6 kd_4 (by decide) (by decide) rfl rfl rfl (w_up fun I2 hI => ?_)
  replace H := H I2 hI
  refine w_aload_n dX6_clear_10 rfl rfl ?_
  refine w_iconst (v := 0) dX6_clear_11 (by decide) ?_
  refine w_putI dX6_clear_12 fl_6_37 okC6 kd_4 (by decide) (by decide) rfl rfl rfl (w_up fun I3 hI => ?_)
  replace H := H I3 hI
  refine w_aload_n dX6_clear_15 rfl rfl ?_
  refine w_bipush (v := 60) dX6_clear_16 (by decide) ?_
  refine w_putI dX6_clear_18 fl_6_40 okC6 kd_4 (by decide) (by decide) rfl rfl rfl (w_up fun I4 hI => ?_)
  replace H := H I4 hI
  refine w_aload_n dX6_clear_21 rfl rfl ?_
  refine w_sipush (v := 300) dX6_clear_22 (by decide) ?_
  refine w_putI dX6_clear_25 fl_6_43 okC6 kd_4 (by decide) (by decide) rfl rfl rfl (w_up fun I5 hI => ?_)
  replace H := H I5 hI
  refine w_aload_n dX6_clear_28 rfl rfl ?_
  refine w_iconst (v := 5) dX6_clear_29 (by decide) ?_
  refine w_putI dX6_clear_30 fl_6_46 okC6 kd_4 (by decide) (by decide) rfl rfl rfl (w_up fun I6 hI => ?_)
  replace H := H I6 hI
  refine w_aload_n dX6_clear_33 rfl rfl ?_
  refine w_bipush (v := 10) dX6_clear_34 (by decide) ?_
  refine w_putI dX6_clear_36 fl_6_49 okC6 kd_4 (by decide) (by decide) rfl rfl rfl (w_up fun I7 hI => ?_)
  replace H := H I7 hI
  exact w_vret dX6_clear_39 rfl ⟨rfl, H⟩
theorem dX6_copyFrom_0 : decode cX6_copyFrom 0 = .ok (.aload_n 0, 1) := by decide +kernel
theorem dX6_copyFrom_1 : decode cX6_copyFrom 1 = .ok (.aload_n 1, 1) := by decide +kernel
theorem dX6_copyFrom_2 : decode cX6_copyFrom 2 = .ok (.getfield 30, 3) := by decide +kernel
theorem dX6_copyFrom_5 : decode cX6_copyFrom 5 = .ok (.putfield 30, 3) := by decide +kernel
theorem dX6_copyFrom_8 : decode cX6_copyFrom 8 = .ok (.aload_n 0, 1) := by decide +kernel
theorem dX6_copyFrom_9 : decode cX6_copyFrom 9 = .ok (.aload_n 1, 1) := by decide +kernel
theorem dX6_copyFrom_10 : decode cX6_copyFrom 10 = .ok (.getfield 34, 3) := by decide +kernel
theorem dX6_copyFrom_13 : decode cX6_copyFrom 13 = .ok (.putfield 34, 3) := by decide +kernel
theorem dX6_copyFrom_16 : decode cX6_copyFrom 16 = .ok (.aload_n 0, 1) := by decide +kernel
theorem dX6_copyFrom_17 : decode cX6_copyFrom 17 = .ok (.aload_n 1, 1) := by decide +kernel
theorem dX6_copyFrom_18 : decode cX6_copyFrom 18 = .ok (.getfield 37, 3) := by decide +kernel
theorem dX6_copyFrom_21 : decode cX6_copyFrom 21 = .ok (.putfield 37, 3) := by decide +kernel
theorem dX6_copyFrom_24 : decode cX6_copyFrom 24 = .ok (.aload_n 0, 1) := by decide +kernel
theorem dX6_copyFrom_25 : decode cX6_copyFrom 25 = .ok (.aload_n 1, 1) := by decide +kernel
theorem dX6_copyFrom_26 : decode cX6_copyFrom 26 = .ok (.getfield 40, 3) := by decide +kernel
theorem dX6_copyFrom_29 : decode cX6_copyFrom 29 = .ok (.putfield 40, 3) := by decide +kernel
theorem dX6_copyFrom_32 : decode cX6_copyFrom 32 = .ok (.aload_n 0, 1) := by decide +kernel
theorem dX6_copyFrom_33 : decode cX6_copyFrom 33 = .ok (.aload_n 1, 1) := by decide +kernel
theorem dX6_copyFrom_34 : decode cX6_copyFrom 34 = .ok (.getfield 43, 3) := by decide +kernel
theorem dX6_copyFrom_37 : decode cX6_copyFrom 37 = .ok (.putfield 43, 3) := by decide +kernel
theorem dX6_copyFrom_40 : decode cX6_copyFrom 40 = .ok (.aload_n 0, 1) := by decide +kernel
theorem dX6_copyFrom_41 : decode cX6_copyFrom 41 = .ok (.aload_n 1, 1) := by decide +kernel
theorem dX6_copyFrom_42 : decode cX6_copyFrom 42 = .ok (.getfield 46, 3) := by decide +kernel
theorem dX6_copyFrom_45 : decode cX6_copyFrom 45 = .ok (.putfield 46, 3) := by decide +kernel
theorem dX6_copyFrom_48 : decode cX6_copyFrom 48 = .ok (.aload_n 0, 1) := by decide +kernel
theorem dX6_copyFrom_49 : decode cX6_copyFrom 49 = .ok (.aload_n 1, 1) := by decide +kernel
theorem dX6_copyFrom_50 : decode cX6_copyFrom 50 = .ok (.getfield 49, 3) := by decide +kernel
theorem dX6_copyFrom_53 : decode cX6_copyFrom 53 = .ok (.putfield 49, 3) := by decide +kernel
theorem dX6_copyFrom_56 : decode cX6_copyFrom 56 = .ok (.aload_n 1, 1) := by decide +kernel
theorem dX6_copyFrom_57 : decode cX6_copyFrom 57 = .ok (.getfield 9, 3) := by decide +kernel
theorem dX6_copyFrom_60 : decode cX6_copyFrom 60 = .ok (.iconst 0, 1) := by decide +kernel
theorem dX6_copyFrom_61 : decode cX6_copyFrom 61 = .ok (.aload_n 0, 1) := by decide +kernel
theorem dX6_copyFrom_62 : decode cX6_copyFrom 62 = .ok (.getfield 9, 3) := by decide +kernel
theorem dX6_copyFrom_65 : decode cX6_copyFrom 65 = .ok (.iconst 0, 1) := by decide +kernel
theorem dX6_copyFrom_66 : decode cX6_copyFrom 66 = .ok (.bipush 18, 2) := by decide +kernel
theorem dX6_copyFrom_68 : decode cX6_copyFrom 68 = .ok (.invokestatic 52, 3) := by decide +kernel
theorem dX6_copyFrom_71 : decode cX6_copyFrom 71 = .ok (.aload_n 1, 1) := by decide +kernel
theorem dX6_copyFrom_72 : decode cX6_copyFrom 72 = .ok (.getfield 15, 3) := by decide +kernel
theorem dX6_copyFrom_75 : decode cX6_copyFrom 75 = .ok (.iconst 0, 1) := by decide +kernel
theorem dX6_copyFrom_76 : decode cX6_copyFrom 76 = .ok (.aload_n 0, 1) := by decide +kernel
theorem dX6_copyFrom_77 : decode cX6_copyFrom 77 = .ok (.getfield 15, 3) := by decide +kernel
theorem dX6_copyFrom_80 : decode cX6_copyFrom 80 = .ok (.iconst 0, 1) := by decide +kernel
theorem dX6_copyFrom_81 : decode cX6_copyFrom 81 = .ok (.bipush 18, 2) := by decide +kernel
theorem dX6_copyFrom_83 : decode cX6_copyFrom 83 = .ok (.invokestatic 52, 3) := by decide +kernel
theorem dX6_copyFrom_86 : decode cX6_copyFrom 86 = .ok (.aload_n 1, 1) := by decide +kernel
theorem dX6_copyFrom_87 : decode cX6_copyFrom 87 = .ok (.getfield 18, 3) := by decide +kernel
theorem dX6_copyFrom_90 : decode cX6_copyFrom 90 = .ok (.iconst 0, 1) := by decide +kernel
theorem dX6_copyFrom_91 : decode cX6_copyFrom 91 = .ok (.aload_n 0, 1) := by decide +kernel
theorem dX6_copyFrom_92 : decode cX6_copyFrom 92 = .ok (.getfield 18, 3) := by decide +kernel
theorem dX6_copyFrom_95 : decode cX6_copyFrom 95 = .ok (.iconst 0, 1) := by decide +kernel
theorem dX6_copyFrom_96 : decode cX6_copyFrom 96 = .ok (.bipush 18, 2) := by decide +kernel
theorem dX6_copyFrom_98 : decode cX6_copyFrom 98 = .ok (.invokestatic 52, 3) := by decide +kernel
theorem dX6_copyFrom_101 : decode cX6_copyFrom 101 = .ok (.aload_n 1, 1) := by decide +kernel
theorem dX6_copyFrom_102 : decode cX6_copyFrom 102 = .ok (.getfield 21, 3) := by decide +kernel
theorem dX6_copyFrom_105 : decode cX6_copyFrom 105 = .ok (.iconst 0, 1) := by decide +kernel
theorem dX6_copyFrom_106 : decode cX6_copyFrom 106 = .ok (.aload_n 0, 1) := by decide +kernel
theorem dX6_copyFrom_107 : decode cX6_copyFrom 107 = .ok (.getfield 21, 3) := by decide +kernel
theorem dX6_copyFrom_110 : decode cX6_copyFrom 110 = .ok (.iconst 0, 1) := by decide +kernel
theorem dX6_copyFrom_111 : decode cX6_copyFrom 111 = .ok (.bipush 12, 2) := by decide +kernel
theorem dX6_copyFrom_113 : decode cX6_copyFrom 113 = .ok (.invokestatic 52, 3) := by decide +kernel
theorem dX6_copyFrom_116 : decode cX6_copyFrom 116 = .ok (.aload_n 1, 1) := by decide +kernel
theorem dX6_copyFrom_117 : decode cX6_copyFrom 117 = .ok (.getfield 24, 3) := by decide +kernel
theorem dX6_copyFrom_120 : decode cX6_copyFrom 120 = .ok (.iconst 0, 1) := by decide +kernel
theorem dX6_copyFrom_121 : decode cX6_copyFrom 121 = .ok (.aload_n 0, 1) := by decide +kernel
theorem dX6_copyFrom_122 : decode cX6_copyFrom 122 = .ok (.getfield 24, 3) := by decide +kernel
theorem dX6_copyFrom_125 : decode cX6_copyFrom 125 = .ok (.iconst 0, 1) := by decide +kernel
theorem dX6_copyFrom_126 : decode cX6_copyFrom 126 = .ok (.bipush 12, 2) := by decide +kernel
theorem dX6_copyFrom_128 : decode cX6_copyFrom 128 = .ok (.invokestatic 52, 3) := by decide +kernel
theorem dX6_copyFrom_131 : decode cX6_copyFrom 131 = .ok (.return_, 1) := by decide +kernel
set_option maxRecDepth 20000 in
theorem rX6_copyFrom {I : MI} {Q : MI → Prop} (H : (∀ I1 : MI, I1 = up2 I 24 0 (I 4 0) → ∀ I2 : MI, I2 = up2 I1 24 1 (I1 4 1) → ∀ I3 : MI, I3 = up2 I2 24 2 (I2 4 2) → ∀ I4 : MI, I4 = up2 I3 24 3 (I3 4 3) → ∀ I5 : MI, I5 = up2 I4 24 4 (I4 4 4) → ∀ I6 : MI, I6 = up2 I5 24 5 (I5 4 5) → ∀ I7 : MI, I7 = up2 I6 24 6 (I6 4 6) → ∀ I8 : MI, I8 = upA I7 25 (va_cpy (I7 5) (I7 25) 0 0 18) → ∀ I9 : MI, I9 = upA I8 26 (va_cpy (I8 6) (I8 26) 0 0 18) → ∀ I10 : MI, I10 = upA I9 27 (va_cpy (I9 7) (I9 27) 0 0 18) → ∀ I11 : MI, I11 = upA I10 28 (va_cpy (I10 8) (I10 28) 0 0 12) → ∀ I12 : MI, I12 = upA I11 29 (va_cpy (I11 9) (I11 29) 0 0 12) → Q I12)) : Wv mX6_copyFrom [.ref 24, .ref 4] I Q := by
  show WP mX6_copyFrom 286 Rf0 0 [some (.ref 24), some (.ref 4)] [] I (qv Q)
  refine w_aload_n dX6_copyFrom_0 rfl rfl ?_
  refine w_aload_n dX6_copyFrom_1 rfl rfl ?_
  refine w_getI dX6_copyFrom_2 fl_6_30 okC6 kd_4 (by decide) (by decide) rfl ?_
  refine w_putI dX6_copyFrom_5 fl_6_30 okC6 kd_24 (by decide) (by decide) rfl rfl rfl (w_up fun I1 hI => ?_)
  replace H := H I1 hI
  refine w_aload_n dX6_copyFrom_8 rfl rfl ?_
  refine w_aload_n dX6_copyFrom_9 rfl rfl ?_
  refine w_getI dX6_copyFrom_10 fl_6_34 okC6 kd_4 (by decide) (by decide) rfl ?_
  refine w_putI dX6_copyFrom_13 fl_6_34 okC6 kd_24 (by decide) (by decide) rfl rfl rfl (w_up fun I2 hI => ?_)
  replace H := H I2 hI
  refine w_aload_n dX6_copyFrom_16 rfl rfl ?_
  refine w_aload_n dX6_copyFrom_17 rfl rfl ?_
  refine w_getI dX6_copyFrom_18 fl_6_37 okC6 kd_4 (by decide) (by decide) rfl ?_
  refine w_putI dX6_copyFrom_21 fl_6_37 okC6 kd_24 (by decide) (by decide) rfl rfl rfl (w_up fun I3 hI => ?_)
  replace H := H I3 hI
  refine w_aload_n dX6_copyFrom_24 rfl rfl ?_
  refine w_aload_n dX6_copyFrom_25 rfl rfl ?_
  refine w_getI dX6_copyFrom_26 fl_6_40 okC6 kd_4 (by decide) (by decide) rfl ?_
  refine w_putI dX6_copyFrom_29 fl_6_40 okC6 kd_24 (by decide) (by decide) rfl rfl rfl (w_up fun I4 hI => ?_)
  replace H := H I4 hI
  refine w_aload_n dX6_copyFrom_32 rfl rfl ?_
  refine w_aload_n dX6_copyFrom_33 rfl rfl ?_
  refine w_getI dX6_copyFrom_34 fl_6_43 okC6 kd_4 (by decide) (by decide) rfl ?_
  refine w_putI dX6_copyFrom_37 fl_6_43 okC6 kd_24 (by decide) (by decide) rfl rfl rfl (w_up fun I5 hI => ?_)
  replace H := H I5 hI
  refine w_aload_n dX6_copyFrom_40 rfl rfl ?_
  refine w_aload_n dX6_copyFrom_41 rfl rfl ?_
  refine w_getI dX6_copyFrom_42 fl_6_46 okC6 kd_4 (by decide) (by decide) rfl ?_
  refine w_putI dX6_copyFrom_45 fl_6_46 okC6 kd_24 (by decide) (by decide) rfl rfl rfl (w_up fun I6 hI => ?_)
  replace H := H I6 hI
  refine w_aload_n dX6_copyFrom_48 rfl rfl ?_
  refine w_aload_n dX6_copyFrom_49 rfl rfl ?_
  refine w_getI dX6_copyFrom_50 fl_6_49 okC6 kd_4 (by decide) (by decide) rfl ?_
  refine w_putI dX6_copyFrom_53 fl_6_49 okC6 kd_24 (by decide) (by decide) rfl rfl rfl (w_up fun I7 hI => ?_)
  replace H := H I7 hI
  refine w_aload_n dX6_copyFrom_56 rfl rfl ?_
  refine w_getR dX6_copyFrom_57 fl_6_9 okC6 kd_4 (by decide) (by decide) rfl rf_4_7 ?_
  refine w_iconst (v := 0) dX6_copyFrom_60 (by decide) ?_
  refine w_aload_n dX6_copyFrom_61 rfl rfl ?_
  refine w_getR dX6_copyFrom_62 fl_6_9 okC6 kd_24 (by decide) (by decide) rfl rf_24_7 ?_
  refine w_iconst (v := 0) dX6_copyFrom_65 (by decide) ?_
  refine w_bipush (v := 18) dX6_copyFrom_66 (by decide) ?_
  refine w_copy dX6_copyFrom_68 ml_6_52 cpN cpS cpI kd_5 kd_25 (by decide) (by decide) (by decide) (by decide) (by decide) (by decide) (by decide) (by decide) (Nat.le_of_ble_eq_true rfl) (w_up fun I8 hI => ?_)
  replace H := H I8 hI
  refine w_aload_n dX6_copyFrom_71 rfl rfl ?_
  refine w_getR dX6_copyFrom_72 fl_6_15 okC6 kd_4 (by decide) (by decide) rfl rf_4_8 ?_
  refine w_iconst (v := 0) dX6_copyFrom_75 (by decide) ?_
  refine w_aload_n dX6_copyFrom_76 rfl rfl ?_
  refine w_getR dX6_copyFrom_77 fl_6_15 okC6 kd_24 (by decide) (by decide) rfl rf_24_8 ?_
  refine w_iconst (v := 0) dX6_copyFrom_80 (by decide) ?_
  refine w_bipush (v := 18) dX6_copyFrom_81 (by decide) ?_
  refine w_copy dX6_copyFrom_83 ml_6_52 cpN cpS cpI kd_6 kd_26 (by decide) (by decide) (by decide) (by decide) (by decide) (by decide) (by decide) (by decide) (Nat.le_of_ble_eq_true rfl) (w_up fun I9 hI => ?_)
  replace H := H I9 hI
  refine w_aload_n dX6_copyFrom_86 rfl rfl ?_
  refine w_getR dX6_copyFrom_87 fl_6_18 okC6 kd_4 (by decide) (by decide) rfl rf_4_9 ?_
  refine w_iconst (v := 0) dX6_copyFrom_90 (by decide) ?_
  refine w_aload_n dX6_copyFrom_91 rfl rfl ?_
  refine w_getR dX6_copyFrom_92 fl_6_18 okC6 kd_24 (by decide) (by decide) rfl rf_24_9 ?_
  refine w_iconst (v := 0) dX6_copyFrom_95 (by decide) ?_
  refine w_bipush (v := 18) dX6_copyFrom_96 (by decide) ?_
  refine w_copy dX6_copyFrom_98 ml_6_52 cpN cpS cpI kd_7 kd_27 (by decide) (by decide) (by decide) (by decide) (by decide) (by decide) (by decide) (by decide) (Nat.le_of_ble_eq_true rfl) (w_up fun I10 hI => ?_)
  replace H := H I10 hI
  refine w_aload_n dX6_copyFrom_101 rfl rfl ?_
  refine w_getR dX6_copyFrom_102 fl_6_21 okC6 kd_4 (by decide) (by decide) rfl rf_4_10 ?_
  refine w_iconst (v := 0) dX6_copyFrom_105 (by decide) ?_
  refine w_aload_n dX6_copyFrom_106 rfl rfl ?_
  refine w_getR dX6_copyFrom_107 fl_6_21 okC6 kd_24 (by decide) (by decide) rfl rf_24_10 ?_
  refine w_iconst (v := 0) dX6_copyFrom_110 (by decide) ?_
  refine w_bipush (v := 12) dX6_copyFrom_111 (by decide) ?_
  refine w_copy dX6_copyFrom_113 ml_6_52 cpN cpS cpI kd_8 kd_28 (by decide) (by decide) (by decide) (by decide) (by decide) (by decide) (by decide) (by decide) (Nat.le_of_ble_eq_true rfl) (w_up fun I11 hI => ?_)
  replace H := H I11 hI
  refine w_aload_n dX6_copyFrom_116 rfl rfl ?_
  refine w_getR dX6_copyFrom_117 fl_6_24 okC6 kd_4 (by decide) (by decide) rfl rf_4_11 ?_
  refine w_iconst (v := 0) dX6_copyFrom_120 (by decide) ?_
  refine w_aload_n dX6_copyFrom_121 rfl rfl ?_
  refine w_getR dX6_copyFrom_122 fl_6_24 okC6 kd_24 (by decide) (by decide) rfl rf_24_11 ?_
  refine w_iconst (v := 0) dX6_copyFrom_125 (by decide) ?_
  refine w_bipush (v := 12) dX6_copyFrom_126 (by decide) ?_
  refine w_copy dX6_copyFrom_128 ml_6_52 cpN cpS cpI kd_9 kd_29 (by decide) (by decide) (by decide) (by decide) (by decide) (by decide) (by decide) (by decide) (Nat.le_of_ble_eq_true rfl) (w_up fun I12 hI => ?_)
  replace H := H I12 hI
  exact w_vret dX6_copyFrom_131 rfl ⟨rfl, H⟩
theorem dX6_joins_0 : decode cX6_joins 0 = .ok (.iconst 0, 1) := by decide +kernel
theorem dX6_joins_1 : decode cX6_joins 1 = .ok (.istore_n 3, 1) := by decide +kernel
theorem dX6_joins_2 : decode cX6_joins 2 = .ok (.iload_n 3, 1) := by decide +kernel
theorem dX6_joins_3 : decode cX6_joins 3 = .ok (.aload_n 0, 1) := by decide +kernel
theorem dX6_joins_4 : decode cX6_joins 4 = .ok (.getfield 34, 3) := by decide +kernel
theorem dX6_joins_7 : decode cX6_joins 7 = .ok (.if_icmp .ge 75, 3) := by decide +kernel
theorem dX6_joins_10 : decode cX6_joins 10 = .ok (.aload_n 0, 1) := by decide +kernel
theorem dX6_joins_11 : decode cX6_joins 11 = .ok (.getfield 9, 3) := by decide +kernel
theorem dX6_joins_14 : decode cX6_joins 14 = .ok (.iload_n 3, 1) := by decide +kernel
theorem dX6_joins_15 : decode cX6_joins 15 = .ok (.iaload, 1) := by decide +kernel
theorem dX6_joins_16 : decode cX6_joins 16 = .ok (.iload_n 1, 1) := by decide +kernel
theorem dX6_joins_17 : decode cX6_joins 17 = .ok (.if_icmp .ne 17, 3) := by decide +kernel
theorem dX6_joins_20 : decode cX6_joins 20 = .ok (.aload_n 0, 1) := by decide +kernel
theorem dX6_joins_21 : decode cX6_joins 21 = .ok (.getfield 15, 3) := by decide +kernel
theorem dX6_joins_24 : decode cX6_joins 24 = .ok (.iload_n 3, 1) := by decide +kernel
theorem dX6_joins_25 : decode cX6_joins 25 = .ok (.iaload, 1) := by decide +kernel
theorem dX6_joins_26 : decode cX6_joins 26 = .ok (.iload_n 2, 1) := by decide +kernel
theorem dX6_joins_27 : decode cX6_joins 27 = .ok (.if_icmp .ne 7, 3) := by decide +kernel
theorem dX6_joins_30 : decode cX6_joins 30 = .ok (.iconst 1, 1) := by decide +kernel
theorem dX6_joins_31 : decode cX6_joins 31 = .ok (.goto 4, 3) := by decide +kernel
theorem dX6_joins_34 : decode cX6_joins 34 = .ok (.iconst 0, 1) := by decide +kernel
theorem dX6_joins_35 : decode cX6_joins 35 = .ok (.istore 4, 2) := by decide +kernel
theorem dX6_joins_37 : decode cX6_joins 37 = .ok (.aload_n 0, 1) := by decide +kernel
theorem dX6_joins_38 : decode cX6_joins 38 = .ok (.getfield 9, 3) := by decide +kernel
theorem dX6_joins_41 : decode cX6_joins 41 = .ok (.iload_n 3, 1) := by decide +kernel
theorem dX6_joins_42 : decode cX6_joins 42 = .ok (.iaload, 1) := by decide +kernel
theorem dX6_joins_43 : decode cX6_joins 43 = .ok (.iload_n 2, 1) := by decide +kernel
theorem dX6_joins_44 : decode cX6_joins 44 = .ok (.if_icmp .ne 17, 3) := by decide +kernel
theorem dX6_joins_47 : decode cX6_joins 47 = .ok (.aload_n 0, 1) := by decide +kernel
theorem dX6_joins_48 : decode cX6_joins 48 = .ok (.getfield 15, 3) := by decide +kernel
theorem dX6_joins_51 : decode cX6_joins 51 = .ok (.iload_n 3, 1) := by decide +kernel
theorem dX6_joins_52 : decode cX6_joins 52 = .ok (.iaload, 1) := by decide +kernel
theorem dX6_joins_53 : decode cX6_joins 53 = .ok (.iload_n 1, 1) := by decide +kernel
theorem dX6_joins_54 : decode cX6_joins 54 = .ok (.if_icmp .ne 7, 3) := by decide +kernel
theorem dX6_joins_57 : decode cX6_joins 57 = .ok (.iconst 1, 1) := by decide +kernel
theorem dX6_joins_58 : decode cX6_joins 58 = .ok (.goto 4, 3) := by decide +kernel
theorem dX6_joins_61 : decode cX6_joins 61 = .ok (.iconst 0, 1) := by decide +kernel
theorem dX6_joins_62 : decode cX6_joins 62 = .ok (.istore 5, 2) := by decide +kernel
theorem dX6_joins_64 : decode cX6_joins 64 = .ok (.iload 4, 2) := by decide +kernel
theorem dX6_joins_66 : decode cX6_joins 66 = .ok (.ifCond .ne 8, 3) := by decide +kernel
theorem dX6_joins_69 : decode cX6_joins 69 = .ok (.iload 5, 2) := by decide +kernel
theorem dX6_joins_71 : decode cX6_joins 71 = .ok (.ifCond .eq 5, 3) := by decide +kernel
theorem dX6_joins_74 : decode cX6_joins 74 = .ok (.iconst 1, 1) := by decide +kernel
theorem dX6_joins_75 : decode cX6_joins 75 = .ok (.ireturn, 1) := by decide +kernel
theorem dX6_joins_76 : decode cX6_joins 76 = .ok (.iinc 3 1, 3) := by decide +kernel
theorem dX6_joins_79 : decode cX6_joins 79 = .ok (.goto (-77), 3) := by decide +kernel
theorem dX6_joins_82 : decode cX6_joins 82 = .ok (.iconst 0, 1) := by decide +kernel
theorem dX6_joins_83 : decode cX6_joins 83 = .ok (.ireturn, 1) := by decide +kernel
abbrev LX6_joins_2 (l1 l2 l3 : Int32) (I : MI) (Q : Int32 → MI → Prop) : Prop := WP mX6_joins 286 Rf0 2 [some (.ref 4), some (.int l1), some (.int l2), some (.int l3), none, none] [] I (qi Q)
abbrev LX6_joins_34 (l1 l2 l3 : Int32) (I : MI) (Q : Int32 → MI → Prop) : Prop := WP mX6_joins 286 Rf0 34 [some (.ref 4), some (.int l1), some (.int l2), some (.int l3), none, none] [] I (qi Q)
abbrev LX6_joins_35 (l1 l2 l3 t0 : Int32) (I : MI) (Q : Int32 → MI → Prop) : Prop := WP mX6_joins 286 Rf0 35 [some (.ref 4), some (.int l1), some (.int l2), some (.int l3), none, none] [.int t0] I (qi Q)
abbrev LX6_joins_61 (l1 l2 l3 l4 : Int32) (I : MI) (Q : Int32 → MI → Prop) : Prop := WP mX6_joins 286 Rf0 61 [some (.ref 4), some (.int l1), some (.int l2), some (.int l3), some (.int l4), none] [] I (qi Q)
abbrev LX6_joins_62 (l1 l2 l3 l4 t0 : Int32) (I : MI) (Q : Int32 → MI → Prop) : Prop := WP mX6_joins 286 Rf0 62 [some (.ref 4), some (.int l1), some (.int l2), some (.int l3), some (.int l4), none] [.int t0] I (qi Q)
set_option maxRecDepth 20000 in
theorem rX6_joins_2 {l1 l2 l3 : Int32} {I : MI} {Q : Int32 → MI → Prop} (H : (((I 4 1) ≤ l3 → (Q 0 I)) ∧ (¬ (I 4 1) ≤ l3 → (vp_in l3 18 ∧ (¬ (I 5 l3.toNatClampNeg) = l1 → (LX6_joins_34 l1 l2 l3 I Q)) ∧ ((I 5 l3.toNatClampNeg) = l1 → (vp_in l3 18 ∧ (¬ (I 6 l3.toNatClampNeg) = l2 → (LX6_joins_34 l1 l2 l3 I Q)) ∧ ((I 6 l3.toNatClampNeg) = l2 → (LX6_joins_35 l1 l2 l3 1 I Q)))))))) : LX6_joins_2 l1 l2 l3 I Q := by
  show WP mX6_joins 286 Rf0 2 [some (.ref 4), some (.int l1), some (.int l2), some (.int l3), none, none] [] I (qi Q)
  refine w_iload_n dX6_joins_2 rfl rfl ?_
  refine w_aload_n dX6_joins_3 rfl rfl ?_
  refine w_getI dX6_joins_4 fl_6_34 okC6 kd_4 (by decide) (by decide) rfl ?_
  refine w_icmp_ge (t := 82) dX6_joins_7 (by decide) (fun h => ?_) (fun h => ?_)
  · replace H := H.1 h
    refine w_iconst (v := 0) dX6_joins_82 (by decide) ?_
    exact w_zret dX6_joins_83 rfl rfl ⟨_, rfl, H⟩
  · replace H := H.2 h
    refine w_aload_n dX6_joins_10 rfl rfl ?_
    refine w_getR dX6_joins_11 fl_6_9 okC6 kd_4 (by decide) (by decide) rfl rf_4_7 ?_
    refine w_iload_n dX6_joins_14 rfl rfl ?_
    refine w_iald dX6_joins_15 kd_5 (by decide) H.1 ?_
    replace H := H.2
    refine w_iload_n dX6_joins_16 rfl rfl ?_
    refine w_icmp_ne (t := 34) dX6_joins_17 (by decide) (fun h => ?_) (fun h => ?_)
    · replace H := H.1 h
      skip
      exact H
    · replace H := H.2 h
      refine w_aload_n dX6_joins_20 rfl rfl ?_
      refine w_getR dX6_joins_21 fl_6_15 okC6 kd_4 (by decide) (by decide) rfl rf_4_8 ?_
      refine w_iload_n dX6_joins_24 rfl rfl ?_
      refine w_iald dX6_joins_25 kd_6 (by decide) H.1 ?_
      replace H := H.2
      refine w_iload_n dX6_joins_26 rfl rfl ?_
      refine w_icmp_ne (t := 34) dX6_joins_27 (by decide) (fun h => ?_) (fun h => ?_)
      · replace H := H.1 h
        skip
        exact H
      · replace H := H.2 h
        refine w_iconst (v := 1) dX6_joins_30 (by decide) ?_
        refine w_goto (t := 35) dX6_joins_31 (by decide) ?_
        skip
        exact H
set_option maxRecDepth 20000 in
theorem rX6_joins_34 {l1 l2 l3 : Int32} {I : MI} {Q : Int32 → MI → Prop} (H : (LX6_joins_35 l1 l2 l3 0 I Q)) : LX6_joins_34 l1 l2 l3 I Q := by
  show WP mX6_joins 286 Rf0 34 [some (.ref 4), some (.int l1), some (.int l2), some (.int l3), none, none] [] I (qi Q)
  refine w_iconst (v := 0) dX6_joins_34 (by decide) ?_
  skip
  exact H
set_option maxRecDepth 20000 in
theorem rX6_joins_35 {l1 l2 l3 t0 : Int32} {I : MI} {Q : Int32 → MI → Prop} (H : (vp_in l3 18 ∧ (¬ (I 5 l3.toNatClampNeg) = l2 → (LX6_joins_61 l1 l2 l3 t0 I Q)) ∧ ((I 5 l3.toNatClampNeg) = l2 → (vp_in l3 18 ∧ (¬ (I 6 l3.toNatClampNeg) = l1 → (LX6_joins_61 l1 l2 l3 t0 I Q)) ∧ ((I 6 l3.toNatClampNeg) = l1 → (LX6_joins_62 l1 l2 l3 t0 1 I Q)))))) : LX6_joins_35 l1 l2 l3 t0 I Q := by
  show WP mX6_joins 286 Rf0 35 [some (.ref 4), some (.int l1), some (.int l2), some (.int l3), none, none] [.int t0] I (qi Q)
  refine w_istore (ls' := [some (.ref 4), some (.int l1), some (.int l2), some (.int l3), some (.int t0), none]) dX6_joins_35 (by decide) rfl rfl ?_
  refine w_aload_n dX6_joins_37 rfl rfl ?_
  refine w_getR dX6_joins_38 fl_6_9 okC6 kd_4 (by decide) (by decide) rfl rf_4_7 ?_
  refine w_iload_n dX6_joins_41 rfl rfl ?_
  refine w_iald dX6_joins_42 kd_5 (by decide) H.1 ?_
  replace H := H.2
  refine w_iload_n dX6_joins_43 rfl rfl ?_
  refine w_icmp_ne (t := 61) dX6_joins_44 (by decide) (fun h => ?_) (fun h => ?_)
  · replace H := H.1 h
    skip
    exact H
  · replace H := H.2 h
    refine w_aload_n dX6_joins_47 rfl rfl ?_
    refine w_getR dX6_joins_48 fl_6_15 okC6 kd_4 (by decide) (by decide) rfl rf_4_8 ?_
    refine w_iload_n dX6_joins_51 rfl rfl ?_
    refine w_iald dX6_joins_52 kd_6 (by decide) H.1 ?_
    replace H := H.2
    refine w_iload_n dX6_joins_53 rfl rfl ?_
    refine w_icmp_ne (t := 61) dX6_joins_54 (by decide) (fun h => ?_) (fun h => ?_)
    · replace H := H.1 h
      skip
      exact H
    · replace H := H.2 h
      refine w_iconst (v := 1) dX6_joins_57 (by decide) ?_
      refine w_goto (t := 62) dX6_joins_58 (by decide) ?_
      skip
      exact H
set_option maxRecDepth 20000 in
theorem rX6_joins_61 {l1 l2 l3 l4 : Int32} {I : MI} {Q : Int32 → MI → Prop} (H : (LX6_joins_62 l1 l2 l3 l4 0 I Q)) : LX6_joins_61 l1 l2 l3 l4 I Q := by
  show WP mX6_joins 286 Rf0 61 [some (.ref 4), some (.int l1), some (.int l2), some (.int l3), some (.int l4), none] [] I (qi Q)
  refine w_iconst (v := 0) dX6_joins_61 (by decide) ?_
  skip
  exact H
set_option maxRecDepth 20000 in
theorem rX6_joins_62 {l1 l2 l3 l4 t0 : Int32} {I : MI} {Q : Int32 → MI → Prop} (H : ((¬ l4 = 0 → (Q 1 I)) ∧ (l4 = 0 → ((t0 = 0 → (LX6_joins_2 l1 l2 (l3 + 1) I Q)) ∧ (¬ t0 = 0 → (Q 1 I)))))) : LX6_joins_62 l1 l2 l3 l4 t0 I Q := by
  show WP mX6_joins 286 Rf0 62 [some (.ref 4), some (.int l1), some (.int l2), some (.int l3), some (.int l4), none] [.int t0] I (qi Q)
  refine w_istore (ls' := [some (.ref 4), some (.int l1), some (.int l2), some (.int l3), some (.int l4), some (.int t0)]) dX6_joins_62 (by decide) rfl rfl ?_
  refine w_iload dX6_joins_64 rfl ?_
  refine w_if_ne (t := 74) dX6_joins_66 (by decide) (fun h => ?_) (fun h => ?_)
  · replace H := H.1 h
    refine w_iconst (v := 1) dX6_joins_74 (by decide) ?_
    exact w_zret dX6_joins_75 rfl rfl ⟨_, rfl, H⟩
  · replace H := H.2 h
    refine w_iload dX6_joins_69 rfl ?_
    refine w_if_eq (t := 76) dX6_joins_71 (by decide) (fun h => ?_) (fun h => ?_)
    · replace H := H.1 h
      refine w_iinc (v := l3 + 1) (ls' := [some (.ref 4), some (.int l1), some (.int l2), some (.int (l3 + 1)), some (.int l4), some (.int t0)]) dX6_joins_76 rfl rfl (by decide) rfl rfl ?_
      refine w_goto (t := 2) dX6_joins_79 (by decide) ?_
      refine w_less (ls' := [some (.ref 4), some (.int l1), some (.int l2), some (.int (l3 + 1)), none, none]) (by simp [lsub]) ?_
      exact H
    · replace H := H.2 h
      refine w_iconst (v := 1) dX6_joins_74 (by decide) ?_
      exact w_zret dX6_joins_75 rfl rfl ⟨_, rfl, H⟩
set_option maxRecDepth 20000 in
theorem rX6_joins {a1 a2 : Int32} {I : MI} {Q : Int32 → MI → Prop} (H : (LX6_joins_2 a1 a2 0 I Q)) : Wi mX6_joins [.ref 4, .int a1, .int a2] I Q := by
  show WP mX6_joins 286 Rf0 0 [some (.ref 4), some (.int a1), some (.int a2), none, none, none] [] I (qi Q)
  refine w_iconst (v := 0) dX6_joins_0 (by decide) ?_
  refine w_istore_n (ls' := [some (.ref 4), some (.int a1), some (.int a2), some (.int 0), none, none]) dX6_joins_1 rfl (by decide) rfl rfl ?_
  skip
  exact H
theorem dX7_clear_0 : decode cX7_clear 0 = .ok (.aload_n 0, 1) := by decide +kernel
theorem dX7_clear_1 : decode cX7_clear 1 = .ok (.iconst 0, 1) := by decide +kernel
theorem dX7_clear_2 : decode cX7_clear 2 = .ok (.putfield 15, 3) := by decide +kernel
theorem dX7_clear_5 : decode cX7_clear 5 = .ok (.return_, 1) := by decide +kernel
set_option maxRecDepth 20000 in
theorem rX7_clear_48 {I : MI} {Q : MI → Prop} (H : (∀ I1 : MI, I1 = up2 I 48 1 0 → Q I1)) : Wv mX7_clear [.ref 48] I Q := by
  show WP mX7_clear 286 Rf0 0 [some (.ref 48)] [] I (qv Q)
  refine w_aload_n dX7_clear_0 rfl rfl ?_
  refine w_iconst (v := 0) dX7_clear_1 (by decide) ?_
  refine w_putI dX7_clear_2 fl_7_15 okC7 kd_48 (by decide) (by decide) rfl rfl rfl (w_up fun I1 hI => ?_)
  replace H := H I1 hI
  exact w_vret dX7_clear_5 rfl ⟨rfl, H⟩
theorem dX7_add_0 : decode cX7_add 0 = .ok (.aload_n 0, 1) := by decide +kernel
theorem dX7_add_1 : decode cX7_add 1 = .ok (.getfield 15, 3) := by decide +kernel
theorem dX7_add_4 : decode cX7_add 4 = .ok (.bipush 10, 2) := by decide +kernel
theorem dX7_add_6 : decode cX7_add 6 = .ok (.if_icmp .ge 23, 3) := by decide +kernel
theorem dX7_add_9 : decode cX7_add 9 = .ok (.aload_n 0, 1) := by decide +kernel
theorem dX7_add_10 : decode cX7_add 10 = .ok (.getfield 9, 3) := by decide +kernel
theorem dX7_add_13 : decode cX7_add 13 = .ok (.aload_n 0, 1) := by decide +kernel
theorem dX7_add_14 : decode cX7_add 14 = .ok (.getfield 15, 3) := by decide +kernel
theorem dX7_add_17 : decode cX7_add 17 = .ok (.iload_n 1, 1) := by decide +kernel
theorem dX7_add_18 : decode cX7_add 18 = .ok (.iastore, 1) := by decide +kernel
theorem dX7_add_19 : decode cX7_add 19 = .ok (.aload_n 0, 1) := by decide +kernel
theorem dX7_add_20 : decode cX7_add 20 = .ok (.dup, 1) := by decide +kernel
theorem dX7_add_21 : decode cX7_add 21 = .ok (.getfield 15, 3) := by decide +kernel
theorem dX7_add_24 : decode cX7_add 24 = .ok (.iconst 1, 1) := by decide +kernel
theorem dX7_add_25 : decode cX7_add 25 = .ok (.iadd, 1) := by decide +kernel
theorem dX7_add_26 : decode cX7_add 26 = .ok (.putfield 15, 3) := by decide +kernel
theorem dX7_add_29 : decode cX7_add 29 = .ok (.return_, 1) := by decide +kernel
set_option maxRecDepth 20000 in
theorem rX7_add_48 {a1 : Int32} {I : MI} {Q : MI → Prop} (H : ((10 ≤ (I 48 1) → (Q I)) ∧ (¬ 10 ≤ (I 48 1) → (vp_in (I 48 1) 10 ∧ ∀ I1 : MI, I1 = up2 I 49 (I 48 1).toNatClampNeg a1 → ∀ I2 : MI, I2 = up2 I1 48 1 ((I1 48 1) + 1) → Q I2)))) : Wv mX7_add [.ref 48, .int a1] I Q := by
  show WP mX7_add 286 Rf0 0 [some (.ref 48), some (.int a1)] [] I (qv Q)
  refine w_aload_n dX7_add_0 rfl rfl ?_
  refine w_getI dX7_add_1 fl_7_15 okC7 kd_48 (by decide) (by decide) rfl ?_
  refine w_bipush (v := 10) dX7_add_4 (by decide) ?_
  refine w_icmp_ge (t := 29) dX7_add_6 (by decide) (fun h => ?_) (fun h => ?_)
  · replace H := H.1 h
    exact w_vret dX7_add_29 rfl ⟨rfl, H⟩
  · replace H := H.2 h
    refine w_aload_n dX7_add_9 rfl rfl ?_
    refine w_getR dX7_add_10 fl_7_9 okC7 kd_48 (by decide) (by decide) rfl rf_48_0 ?_
    refine w_aload_n dX7_add_13 rfl rfl ?_
    refine w_getI dX7_add_14 fl_7_15 okC7 kd_48 (by decide) (by decide) rfl ?_
    refine w_iload_n dX7_add_17 rfl rfl ?_
    refine w_iast dX7_add_18 kd_49 (by decide) H.1 (w_up fun I1 hI => ?_)
    replace H := H.2 I1 hI
    refine w_aload_n dX7_add_19 rfl rfl ?_
    refine w_dup dX7_add_20 rfl ?_
    refine w_getI dX7_add_21 fl_7_15 okC7 kd_48 (by decide) (by decide) rfl ?_
    refine w_iconst (v := 1) dX7_add_24 (by decide) ?_
    refine w_iadd dX7_add_25 ?_
    refine w_putI dX7_add_26 fl_7_15 okC7 kd_48 (by decide) (by decide) rfl rfl rfl (w_up fun I2 hI => ?_)
    replace H := H I2 hI
    exact w_vret dX7_add_29 rfl ⟨rfl, H⟩
theorem dX7_stopAt_0 : decode cX7_stopAt 0 = .ok (.iload_n 1, 1) := by decide +kernel
theorem dX7_stopAt_1 : decode cX7_stopAt 1 = .ok (.ifCond .lt 20, 3) := by decide +kernel
theorem dX7_stopAt_4 : decode cX7_stopAt 4 = .ok (.iload_n 1, 1) := by decide +kernel
theorem dX7_stopAt_5 : decode cX7_stopAt 5 = .ok (.aload_n 0, 1) := by decide +kernel
theorem dX7_stopAt_6 : decode cX7_stopAt 6 = .ok (.getfield 15, 3) := by decide +kernel
theorem dX7_stopAt_9 : decode cX7_stopAt 9 = .ok (.if_icmp .ge 12, 3) := by decide +kernel
theorem dX7_stopAt_12 : decode cX7_stopAt 12 = .ok (.aload_n 0, 1) := by decide +kernel
theorem dX7_stopAt_13 : decode cX7_stopAt 13 = .ok (.getfield 9, 3) := by decide +kernel
theorem dX7_stopAt_16 : decode cX7_stopAt 16 = .ok (.iload_n 1, 1) := by decide +kernel
theorem dX7_stopAt_17 : decode cX7_stopAt 17 = .ok (.iaload, 1) := by decide +kernel
theorem dX7_stopAt_18 : decode cX7_stopAt 18 = .ok (.goto 5, 3) := by decide +kernel
theorem dX7_stopAt_21 : decode cX7_stopAt 21 = .ok (.bipush (-2), 2) := by decide +kernel
theorem dX7_stopAt_23 : decode cX7_stopAt 23 = .ok (.ireturn, 1) := by decide +kernel
set_option maxRecDepth 20000 in
theorem rX7_stopAt_48 {a1 : Int32} {I : MI} {Q : Int32 → MI → Prop} (H : ((a1 < 0 → (Q (-2) I)) ∧ (¬ a1 < 0 → (((I 48 1) ≤ a1 → (Q (-2) I)) ∧ (¬ (I 48 1) ≤ a1 → (vp_in a1 10 ∧ Q (I 49 a1.toNatClampNeg) I)))))) : Wi mX7_stopAt [.ref 48, .int a1] I Q := by
  show WP mX7_stopAt 286 Rf0 0 [some (.ref 48), some (.int a1)] [] I (qi Q)
  refine w_iload_n dX7_stopAt_0 rfl rfl ?_
  refine w_if_lt (t := 21) dX7_stopAt_1 (by decide) (fun h => ?_) (fun h => ?_)
  · replace H := H.1 h
    refine w_bipush (v := (-2)) dX7_stopAt_21 (by decide) ?_
    exact w_iret dX7_stopAt_23 rfl ⟨_, rfl, H⟩
  · replace H := H.2 h
    refine w_iload_n dX7_stopAt_4 rfl rfl ?_
    refine w_aload_n dX7_stopAt_5 rfl rfl ?_
    refine w_getI dX7_stopAt_6 fl_7_15 okC7 kd_48 (by decide) (by decide) rfl ?_
    refine w_icmp_ge (t := 21) dX7_stopAt_9 (by decide) (fun h => ?_) (fun h => ?_)
    · replace H := H.1 h
      refine w_bipush (v := (-2)) dX7_stopAt_21 (by decide) ?_
      exact w_iret dX7_stopAt_23 rfl ⟨_, rfl, H⟩
    · replace H := H.2 h
      refine w_aload_n dX7_stopAt_12 rfl rfl ?_
      refine w_getR dX7_stopAt_13 fl_7_9 okC7 kd_48 (by decide) (by decide) rfl rf_48_0 ?_
      refine w_iload_n dX7_stopAt_16 rfl rfl ?_
      refine w_iald dX7_stopAt_17 kd_49 (by decide) H.1 ?_
      replace H := H.2
      refine w_goto (t := 23) dX7_stopAt_18 (by decide) ?_
      exact w_iret dX7_stopAt_23 rfl ⟨_, rfl, H⟩
set_option maxRecDepth 20000 in
theorem rX7_clear_51 {I : MI} {Q : MI → Prop} (H : (∀ I1 : MI, I1 = up2 I 51 1 0 → Q I1)) : Wv mX7_clear [.ref 51] I Q := by
  show WP mX7_clear 286 Rf0 0 [some (.ref 51)] [] I (qv Q)
  refine w_aload_n dX7_clear_0 rfl rfl ?_
  refine w_iconst (v := 0) dX7_clear_1 (by decide) ?_
  refine w_putI dX7_clear_2 fl_7_15 okC7 kd_51 (by decide) (by decide) rfl rfl rfl (w_up fun I1 hI => ?_)
  replace H := H I1 hI
  exact w_vret dX7_clear_5 rfl ⟨rfl, H⟩
set_option maxRecDepth 20000 in
theorem rX7_add_51 {a1 : Int32} {I : MI} {Q : MI → Prop} (H : ((10 ≤ (I 51 1) → (Q I)) ∧ (¬ 10 ≤ (I 51 1) → (vp_in (I 51 1) 10 ∧ ∀ I1 : MI, I1 = up2 I 52 (I 51 1).toNatClampNeg a1 → ∀ I2 : MI, I2 = up2 I1 51 1 ((I1 51 1) + 1) → Q I2)))) : Wv mX7_add [.ref 51, .int a1] I Q := by
  show WP mX7_add 286 Rf0 0 [some (.ref 51), some (.int a1)] [] I (qv Q)
  refine w_aload_n dX7_add_0 rfl rfl ?_
  refine w_getI dX7_add_1 fl_7_15 okC7 kd_51 (by decide) (by decide) rfl ?_
  refine w_bipush (v := 10) dX7_add_4 (by decide) ?_
  refine w_icmp_ge (t := 29) dX7_add_6 (by decide) (fun h => ?_) (fun h => ?_)
  · replace H := H.1 h
    exact w_vret dX7_add_29 rfl ⟨rfl, H⟩
  · replace H := H.2 h
    refine w_aload_n dX7_add_9 rfl rfl ?_
    refine w_getR dX7_add_10 fl_7_9 okC7 kd_51 (by decide) (by decide) rfl rf_51_0 ?_
    refine w_aload_n dX7_add_13 rfl rfl ?_
    refine w_getI dX7_add_14 fl_7_15 okC7 kd_51 (by decide) (by decide) rfl ?_
    refine w_iload_n dX7_add_17 rfl rfl ?_
    refine w_iast dX7_add_18 kd_52 (by decide) H.1 (w_up fun I1 hI => ?_)
    replace H := H.2 I1 hI
    refine w_aload_n dX7_add_19 rfl rfl ?_
    refine w_dup dX7_add_20 rfl ?_
    refine w_getI dX7_add_21 fl_7_15 okC7 kd_51 (by decide) (by decide) rfl ?_
    refine w_iconst (v := 1) dX7_add_24 (by decide) ?_
    refine w_iadd dX7_add_25 ?_
    refine w_putI dX7_add_26 fl_7_15 okC7 kd_51 (by decide) (by decide) rfl rfl rfl (w_up fun I2 hI => ?_)
    replace H := H I2 hI
    exact w_vret dX7_add_29 rfl ⟨rfl, H⟩
set_option maxRecDepth 20000 in
theorem rX7_stopAt_51 {a1 : Int32} {I : MI} {Q : Int32 → MI → Prop} (H : ((a1 < 0 → (Q (-2) I)) ∧ (¬ a1 < 0 → (((I 51 1) ≤ a1 → (Q (-2) I)) ∧ (¬ (I 51 1) ≤ a1 → (vp_in a1 10 ∧ Q (I 52 a1.toNatClampNeg) I)))))) : Wi mX7_stopAt [.ref 51, .int a1] I Q := by
  show WP mX7_stopAt 286 Rf0 0 [some (.ref 51), some (.int a1)] [] I (qi Q)
  refine w_iload_n dX7_stopAt_0 rfl rfl ?_
  refine w_if_lt (t := 21) dX7_stopAt_1 (by decide) (fun h => ?_) (fun h => ?_)
  · replace H := H.1 h
    refine w_bipush (v := (-2)) dX7_stopAt_21 (by decide) ?_
    exact w_iret dX7_stopAt_23 rfl ⟨_, rfl, H⟩
  · replace H := H.2 h
    refine w_iload_n dX7_stopAt_4 rfl rfl ?_
    refine w_aload_n dX7_stopAt_5 rfl rfl ?_
    refine w_getI dX7_stopAt_6 fl_7_15 okC7 kd_51 (by decide) (by decide) rfl ?_
    refine w_icmp_ge (t := 21) dX7_stopAt_9 (by decide) (fun h => ?_) (fun h => ?_)
    · replace H := H.1 h
      refine w_bipush (v := (-2)) dX7_stopAt_21 (by decide) ?_
      exact w_iret dX7_stopAt_23 rfl ⟨_, rfl, H⟩
    · replace H := H.2 h
      refine w_aload_n dX7_stopAt_12 rfl rfl ?_
      refine w_getR dX7_stopAt_13 fl_7_9 okC7 kd_51 (by decide) (by decide) rfl rf_51_0 ?_
      refine w_iload_n dX7_stopAt_16 rfl rfl ?_
      refine w_iald dX7_stopAt_17 kd_52 (by decide) H.1 ?_
      replace H := H.2
      refine w_goto (t := 23) dX7_stopAt_18 (by decide) ?_
      exact w_iret dX7_stopAt_23 rfl ⟨_, rfl, H⟩
theorem dX7_fillByNumber_0 : decode cX7_fillByNumber 0 = .ok (.aload_n 0, 1) := by decide +kernel
theorem dX7_fillByNumber_1 : decode cX7_fillByNumber 1 = .ok (.invokevirtual 19, 3) := by decide +kernel
theorem dX7_fillByNumber_4 : decode cX7_fillByNumber 4 = .ok (.iconst 0, 1) := by decide +kernel
theorem dX7_fillByNumber_5 : decode cX7_fillByNumber 5 = .ok (.istore_n 2, 1) := by decide +kernel
theorem dX7_fillByNumber_6 : decode cX7_fillByNumber 6 = .ok (.iload_n 2, 1) := by decide +kernel
theorem dX7_fillByNumber_7 : decode cX7_fillByNumber 7 = .ok (.bipush 10, 2) := by decide +kernel
theorem dX7_fillByNumber_9 : decode cX7_fillByNumber 9 = .ok (.if_icmp .ge 22, 3) := by decide +kernel
theorem dX7_fillByNumber_12 : decode cX7_fillByNumber 12 = .ok (.iload_n 1, 1) := by decide +kernel
theorem dX7_fillByNumber_13 : decode cX7_fillByNumber 13 = .ok (.iconst 1, 1) := by decide +kernel
theorem dX7_fillByNumber_14 : decode cX7_fillByNumber 14 = .ok (.iload_n 2, 1) := by decide +kernel
theorem dX7_fillByNumber_15 : decode cX7_fillByNumber 15 = .ok (.ishl, 1) := by decide +kernel
theorem dX7_fillByNumber_16 : decode cX7_fillByNumber 16 = .ok (.iand, 1) := by decide +kernel
theorem dX7_fillByNumber_17 : decode cX7_fillByNumber 17 = .ok (.ifCond .eq 8, 3) := by decide +kernel
theorem dX7_fillByNumber_20 : decode cX7_fillByNumber 20 = .ok (.aload_n 0, 1) := by decide +kernel
theorem dX7_fillByNumber_21 : decode cX7_fillByNumber 21 = .ok (.iload_n 2, 1) := by decide +kernel
theorem dX7_fillByNumber_22 : decode cX7_fillByNumber 22 = .ok (.invokevirtual 22, 3) := by decide +kernel
theorem dX7_fillByNumber_25 : decode cX7_fillByNumber 25 = .ok (.iinc 2 1, 3) := by decide +kernel
theorem dX7_fillByNumber_28 : decode cX7_fillByNumber 28 = .ok (.goto (-22), 3) := by decide +kernel
theorem dX7_fillByNumber_31 : decode cX7_fillByNumber 31 = .ok (.return_, 1) := by decide +kernel
abbrev LX7_fillByNumber_6 (l1 l2 : Int32) (I : MI) (Q : MI → Prop) : Prop := WP mX7_fillByNumber 286 Rf0 6 [some (.ref 48), some (.int l1), some (.int l2)] [] I (qv Q)
abbrev LX7_fillByNumber_25 (l1 l2 : Int32) (I : MI) (Q : MI → Prop) : Prop := WP mX7_fillByNumber 286 Rf0 25 [some (.ref 48), some (.int l1), some (.int l2)] [] I (qv Q)
set_option maxRecDepth 20000 in
theorem rX7_fillByNumber_6 {l1 l2 : Int32} {I : MI} {Q : MI → Prop} (H : ((10 ≤ l2 → (Q I)) ∧ (¬ 10 ≤ l2 → (((l1 &&& ((1 : Int32) <<< (l2 &&& 31))) = 0 → (LX7_fillByNumber_25 l1 l2 I Q)) ∧ (¬ (l1 &&& ((1 : Int32) <<< (l2 &&& 31))) = 0 → (Wv mX7_add [.ref 48, .int l2] I (fun I1 => (LX7_fillByNumber_25 l1 l2 I1 Q)))))))) : LX7_fillByNumber_6 l1 l2 I Q := by
  show WP mX7_fillByNumber 286 Rf0 6 [some (.ref 48), some (.int l1), some (.int l2)] [] I (qv Q)
  refine w_iload_n dX7_fillByNumber_6 rfl rfl ?_
  refine w_bipush (v := 10) dX7_fillByNumber_7 (by decide) ?_
  refine w_icmp_ge (t := 31) dX7_fillByNumber_9 (by decide) (fun h => ?_) (fun h => ?_)
  · replace H := H.1 h
    exact w_vret dX7_fillByNumber_31 rfl ⟨rfl, H⟩
  · replace H := H.2 h
    refine w_iload_n dX7_fillByNumber_12 rfl rfl ?_
    refine w_iconst (v := 1) dX7_fillByNumber_13 (by decide) ?_
    refine w_iload_n dX7_fillByNumber_14 rfl rfl ?_
    refine w_ishl dX7_fillByNumber_15 ?_
    refine w_iand dX7_fillByNumber_16 ?_
    refine w_if_eq (t := 25) dX7_fillByNumber_17 (by decide) (fun h => ?_) (fun h => ?_)
    · replace H := H.1 h
      skip
      exact H
    · replace H := H.2 h
      refine w_aload_n dX7_fillByNumber_20 rfl rfl ?_
      refine w_iload_n dX7_fillByNumber_21 rfl rfl ?_
      refine w_callV (st := []) (As := [.int l2]) dX7_fillByNumber_22 ml_7_22 okX7_add kd_48 (by decide) rfl rfl rfl (Nat.le_of_ble_eq_true rfl) (by decide) (Nat.le_of_ble_eq_true rfl) (wc_v H (fun I1 H => ?_))
      skip
      exact H
set_option maxRecDepth 20000 in
theorem rX7_fillByNumber_25 {l1 l2 : Int32} {I : MI} {Q : MI → Prop} (H : (LX7_fillByNumber_6 l1 (l2 + 1) I Q)) : LX7_fillByNumber_25 l1 l2 I Q := by
  show WP mX7_fillByNumber 286 Rf0 25 [some (.ref 48), some (.int l1), some (.int l2)] [] I (qv Q)
  refine w_iinc (v := l2 + 1) (ls' := [some (.ref 48), some (.int l1), some (.int (l2 + 1))]) dX7_fillByNumber_25 rfl rfl (by decide) rfl rfl ?_
  refine w_goto (t := 6) dX7_fillByNumber_28 (by decide) ?_
  skip
  exact H
set_option maxRecDepth 20000 in
theorem rX7_fillByNumber {a1 : Int32} {I : MI} {Q : MI → Prop} (H : (Wv mX7_clear [.ref 48] I (fun I1 => (LX7_fillByNumber_6 a1 0 I1 Q)))) : Wv mX7_fillByNumber [.ref 48, .int a1] I Q := by
  show WP mX7_fillByNumber 286 Rf0 0 [some (.ref 48), some (.int a1), none] [] I (qv Q)
  refine w_aload_n dX7_fillByNumber_0 rfl rfl ?_
  refine w_callV (st := []) (As := []) dX7_fillByNumber_1 ml_7_19 okX7_clear kd_48 (by decide) rfl rfl rfl (Nat.le_of_ble_eq_true rfl) (by decide) (Nat.le_of_ble_eq_true rfl) (wc_v H (fun I1 H => ?_))
  refine w_iconst (v := 0) dX7_fillByNumber_4 (by decide) ?_
  refine w_istore_n (ls' := [some (.ref 48), some (.int a1), some (.int 0)]) dX7_fillByNumber_5 rfl (by decide) rfl rfl ?_
  skip
  exact H
theorem dX7_copyFrom_0 : decode cX7_copyFrom 0 = .ok (.aload_n 0, 1) := by decide +kernel
theorem dX7_copyFrom_1 : decode cX7_copyFrom 1 = .ok (.aload_n 1, 1) := by decide +kernel
theorem dX7_copyFrom_2 : decode cX7_copyFrom 2 = .ok (.getfield 15, 3) := by decide +kernel
theorem dX7_copyFrom_5 : decode cX7_copyFrom 5 = .ok (.putfield 15, 3) := by decide +kernel
theorem dX7_copyFrom_8 : decode cX7_copyFrom 8 = .ok (.aload_n 1, 1) := by decide +kernel
theorem dX7_copyFrom_9 : decode cX7_copyFrom 9 = .ok (.getfield 9, 3) := by decide +kernel
theorem dX7_copyFrom_12 : decode cX7_copyFrom 12 = .ok (.iconst 0, 1) := by decide +kernel
theorem dX7_copyFrom_13 : decode cX7_copyFrom 13 = .ok (.aload_n 0, 1) := by decide +kernel
theorem dX7_copyFrom_14 : decode cX7_copyFrom 14 = .ok (.getfield 9, 3) := by decide +kernel
theorem dX7_copyFrom_17 : decode cX7_copyFrom 17 = .ok (.iconst 0, 1) := by decide +kernel
theorem dX7_copyFrom_18 : decode cX7_copyFrom 18 = .ok (.bipush 10, 2) := by decide +kernel
theorem dX7_copyFrom_20 : decode cX7_copyFrom 20 = .ok (.invokestatic 26, 3) := by decide +kernel
theorem dX7_copyFrom_23 : decode cX7_copyFrom 23 = .ok (.return_, 1) := by decide +kernel
set_option maxRecDepth 20000 in
theorem rX7_copyFrom {I : MI} {Q : MI → Prop} (H : (∀ I1 : MI, I1 = up2 I 48 1 (I 51 1) → ∀ I2 : MI, I2 = upA I1 49 (va_cpy (I1 52) (I1 49) 0 0 10) → Q I2)) : Wv mX7_copyFrom [.ref 48, .ref 51] I Q := by
  show WP mX7_copyFrom 286 Rf0 0 [some (.ref 48), some (.ref 51)] [] I (qv Q)
  refine w_aload_n dX7_copyFrom_0 rfl rfl ?_
  refine w_aload_n dX7_copyFrom_1 rfl rfl ?_
  refine w_getI dX7_copyFrom_2 fl_7_15 okC7 kd_51 (by decide) (by decide) rfl ?_
  refine w_putI dX7_copyFrom_5 fl_7_15 okC7 kd_48 (by decide) (by decide) rfl rfl rfl (w_up fun I1 hI => ?_)
  replace H := H I1 hI
  refine w_aload_n dX7_copyFrom_8 rfl rfl ?_
  refine w_getR dX7_copyFrom_9 fl_7_9 okC7 kd_51 (by decide) (by decide) rfl rf_51_0 ?_
  refine w_iconst (v := 0) dX7_copyFrom_12 (by decide) ?_
  refine w_aload_n dX7_copyFrom_13 rfl rfl ?_
  refine w_getR dX7_copyFrom_14 fl_7_9 okC7 kd_48 (by decide) (by decide) rfl rf_48_0 ?_
  refine w_iconst (v := 0) dX7_copyFrom_17 (by decide) ?_
  refine w_bipush (v := 10) dX7_copyFrom_18 (by decide) ?_
  refine w_copy dX7_copyFrom_20 ml_7_26 cpN cpS cpI kd_52 kd_49 (by decide) (by decide) (by decide) (by decide) (by decide) (by decide) (by decide) (by decide) (Nat.le_of_ble_eq_true rfl) (w_up fun I2 hI => ?_)
  replace H := H I2 hI
  exact w_vret dX7_copyFrom_23 rfl ⟨rfl, H⟩
theorem dX8_isSkipped_0 : decode cX8_isSkipped 0 = .ok (.aload_n 0, 1) := by decide +kernel
theorem dX8_isSkipped_1 : decode cX8_isSkipped 1 = .ok (.getfield 46, 3) := by decide +kernel
theorem dX8_isSkipped_4 : decode cX8_isSkipped 4 = .ok (.iconst 1, 1) := by decide +kernel
theorem dX8_isSkipped_5 : decode cX8_isSkipped 5 = .ok (.iload_n 1, 1) := by decide +kernel
theorem dX8_isSkipped_6 : decode cX8_isSkipped 6 = .ok (.ishl, 1) := by decide +kernel
theorem dX8_isSkipped_7 : decode cX8_isSkipped 7 = .ok (.iand, 1) := by decide +kernel
theorem dX8_isSkipped_8 : decode cX8_isSkipped 8 = .ok (.ifCond .eq 7, 3) := by decide +kernel
theorem dX8_isSkipped_11 : decode cX8_isSkipped 11 = .ok (.iconst 1, 1) := by decide +kernel
theorem dX8_isSkipped_12 : decode cX8_isSkipped 12 = .ok (.goto 4, 3) := by decide +kernel
theorem dX8_isSkipped_15 : decode cX8_isSkipped 15 = .ok (.iconst 0, 1) := by decide +kernel
theorem dX8_isSkipped_16 : decode cX8_isSkipped 16 = .ok (.ireturn, 1) := by decide +kernel
set_option maxRecDepth 20000 in
theorem rX8_isSkipped {a1 : Int32} {I : MI} {Q : Int32 → MI → Prop} (H : ((((I 30 1) &&& ((1 : Int32) <<< (a1 &&& 31))) = 0 → (Q 0 I)) ∧ (¬ ((I 30 1) &&& ((1 : Int32) <<< (a1 &&& 31))) = 0 → (Q 1 I)))) : Wi mX8_isSkipped [.ref 30, .int a1] I Q := by
  show WP mX8_isSkipped 286 Rf0 0 [some (.ref 30), some (.int a1)] [] I (qi Q)
  refine w_aload_n dX8_isSkipped_0 rfl rfl ?_
  refine w_getI dX8_isSkipped_1 fl_8_46 okC8 kd_30 (by decide) (by decide) rfl ?_
  refine w_iconst (v := 1) dX8_isSkipped_4 (by decide) ?_
  refine w_iload_n dX8_isSkipped_5 rfl rfl ?_
  refine w_ishl dX8_isSkipped_6 ?_
  refine w_iand dX8_isSkipped_7 ?_
  refine w_if_eq (t := 15) dX8_isSkipped_8 (by decide) (fun h => ?_) (fun h => ?_)
  · replace H := H.1 h
    refine w_iconst (v := 0) dX8_isSkipped_15 (by decide) ?_
    exact w_zret dX8_isSkipped_16 rfl rfl ⟨_, rfl, H⟩
  · replace H := H.2 h
    refine w_iconst (v := 1) dX8_isSkipped_11 (by decide) ?_
    refine w_goto (t := 16) dX8_isSkipped_12 (by decide) ?_
    exact w_zret dX8_isSkipped_16 rfl rfl ⟨_, rfl, H⟩
theorem dX8_copyFrom_0 : decode cX8_copyFrom 0 = .ok (.aload_n 0, 1) := by decide +kernel
theorem dX8_copyFrom_1 : decode cX8_copyFrom 1 = .ok (.aload_n 1, 1) := by decide +kernel
theorem dX8_copyFrom_2 : decode cX8_copyFrom 2 = .ok (.getfield 50, 3) := by decide +kernel
theorem dX8_copyFrom_5 : decode cX8_copyFrom 5 = .ok (.putfield 50, 3) := by decide +kernel
theorem dX8_copyFrom_8 : decode cX8_copyFrom 8 = .ok (.aload_n 0, 1) := by decide +kernel
theorem dX8_copyFrom_9 : decode cX8_copyFrom 9 = .ok (.aload_n 1, 1) := by decide +kernel
theorem dX8_copyFrom_10 : decode cX8_copyFrom 10 = .ok (.getfield 46, 3) := by decide +kernel
theorem dX8_copyFrom_13 : decode cX8_copyFrom 13 = .ok (.putfield 46, 3) := by decide +kernel
theorem dX8_copyFrom_16 : decode cX8_copyFrom 16 = .ok (.aload_n 1, 1) := by decide +kernel
theorem dX8_copyFrom_17 : decode cX8_copyFrom 17 = .ok (.getfield 9, 3) := by decide +kernel
theorem dX8_copyFrom_20 : decode cX8_copyFrom 20 = .ok (.iconst 0, 1) := by decide +kernel
theorem dX8_copyFrom_21 : decode cX8_copyFrom 21 = .ok (.aload_n 0, 1) := by decide +kernel
theorem dX8_copyFrom_22 : decode cX8_copyFrom 22 = .ok (.getfield 9, 3) := by decide +kernel
theorem dX8_copyFrom_25 : decode cX8_copyFrom 25 = .ok (.iconst 0, 1) := by decide +kernel
theorem dX8_copyFrom_26 : decode cX8_copyFrom 26 = .ok (.bipush 84, 2) := by decide +kernel
theorem dX8_copyFrom_28 : decode cX8_copyFrom 28 = .ok (.invokestatic 53, 3) := by decide +kernel
theorem dX8_copyFrom_31 : decode cX8_copyFrom 31 = .ok (.aload_n 1, 1) := by decide +kernel
theorem dX8_copyFrom_32 : decode cX8_copyFrom 32 = .ok (.getfield 15, 3) := by decide +kernel
theorem dX8_copyFrom_35 : decode cX8_copyFrom 35 = .ok (.iconst 0, 1) := by decide +kernel
theorem dX8_copyFrom_36 : decode cX8_copyFrom 36 = .ok (.aload_n 0, 1) := by decide +kernel
theorem dX8_copyFrom_37 : decode cX8_copyFrom 37 = .ok (.getfield 15, 3) := by decide +kernel
theorem dX8_copyFrom_40 : decode cX8_copyFrom 40 = .ok (.iconst 0, 1) := by decide +kernel
theorem dX8_copyFrom_41 : decode cX8_copyFrom 41 = .ok (.bipush 12, 2) := by decide +kernel
theorem dX8_copyFrom_43 : decode cX8_copyFrom 43 = .ok (.invokestatic 53, 3) := by decide +kernel
theorem dX8_copyFrom_46 : decode cX8_copyFrom 46 = .ok (.aload_n 1, 1) := by decide +kernel
theorem dX8_copyFrom_47 : decode cX8_copyFrom 47 = .ok (.getfield 18, 3) := by decide +kernel
theorem dX8_copyFrom_50 : decode cX8_copyFrom 50 = .ok (.iconst 0, 1) := by decide +kernel
theorem dX8_copyFrom_51 : decode cX8_copyFrom 51 = .ok (.aload_n 0, 1) := by decide +kernel
theorem dX8_copyFrom_52 : decode cX8_copyFrom 52 = .ok (.getfield 18, 3) := by decide +kernel
theorem dX8_copyFrom_55 : decode cX8_copyFrom 55 = .ok (.iconst 0, 1) := by decide +kernel
theorem dX8_copyFrom_56 : decode cX8_copyFrom 56 = .ok (.bipush 18, 2) := by decide +kernel
theorem dX8_copyFrom_58 : decode cX8_copyFrom 58 = .ok (.invokestatic 53, 3) := by decide +kernel
theorem dX8_copyFrom_61 : decode cX8_copyFrom 61 = .ok (.aload_n 1, 1) := by decide +kernel
theorem dX8_copyFrom_62 : decode cX8_copyFrom 62 = .ok (.getfield 21, 3) := by decide +kernel
theorem dX8_copyFrom_65 : decode cX8_copyFrom 65 = .ok (.iconst 0, 1) := by decide +kernel
theorem dX8_copyFrom_66 : decode cX8_copyFrom 66 = .ok (.aload_n 0, 1) := by decide +kernel
theorem dX8_copyFrom_67 : decode cX8_copyFrom 67 = .ok (.getfield 21, 3) := by decide +kernel
theorem dX8_copyFrom_70 : decode cX8_copyFrom 70 = .ok (.iconst 0, 1) := by decide +kernel
theorem dX8_copyFrom_71 : decode cX8_copyFrom 71 = .ok (.bipush 18, 2) := by decide +kernel
theorem dX8_copyFrom_73 : decode cX8_copyFrom 73 = .ok (.invokestatic 53, 3) := by decide +kernel
theorem dX8_copyFrom_76 : decode cX8_copyFrom 76 = .ok (.aload_n 1, 1) := by decide +kernel
theorem dX8_copyFrom_77 : decode cX8_copyFrom 77 = .ok (.getfield 24, 3) := by decide +kernel
theorem dX8_copyFrom_80 : decode cX8_copyFrom 80 = .ok (.iconst 0, 1) := by decide +kernel
theorem dX8_copyFrom_81 : decode cX8_copyFrom 81 = .ok (.aload_n 0, 1) := by decide +kernel
theorem dX8_copyFrom_82 : decode cX8_copyFrom 82 = .ok (.getfield 24, 3) := by decide +kernel
theorem dX8_copyFrom_85 : decode cX8_copyFrom 85 = .ok (.iconst 0, 1) := by decide +kernel
theorem dX8_copyFrom_86 : decode cX8_copyFrom 86 = .ok (.bipush 12, 2) := by decide +kernel
theorem dX8_copyFrom_88 : decode cX8_copyFrom 88 = .ok (.invokestatic 53, 3) := by decide +kernel
theorem dX8_copyFrom_91 : decode cX8_copyFrom 91 = .ok (.aload_n 1, 1) := by decide +kernel
theorem dX8_copyFrom_92 : decode cX8_copyFrom 92 = .ok (.getfield 27, 3) := by decide +kernel
theorem dX8_copyFrom_95 : decode cX8_copyFrom 95 = .ok (.iconst 0, 1) := by decide +kernel
theorem dX8_copyFrom_96 : decode cX8_copyFrom 96 = .ok (.aload_n 0, 1) := by decide +kernel
theorem dX8_copyFrom_97 : decode cX8_copyFrom 97 = .ok (.getfield 27, 3) := by decide +kernel
theorem dX8_copyFrom_100 : decode cX8_copyFrom 100 = .ok (.iconst 0, 1) := by decide +kernel
theorem dX8_copyFrom_101 : decode cX8_copyFrom 101 = .ok (.bipush 12, 2) := by decide +kernel
theorem dX8_copyFrom_103 : decode cX8_copyFrom 103 = .ok (.invokestatic 53, 3) := by decide +kernel
theorem dX8_copyFrom_106 : decode cX8_copyFrom 106 = .ok (.aload_n 1, 1) := by decide +kernel
theorem dX8_copyFrom_107 : decode cX8_copyFrom 107 = .ok (.getfield 30, 3) := by decide +kernel
theorem dX8_copyFrom_110 : decode cX8_copyFrom 110 = .ok (.iconst 0, 1) := by decide +kernel
theorem dX8_copyFrom_111 : decode cX8_copyFrom 111 = .ok (.aload_n 0, 1) := by decide +kernel
theorem dX8_copyFrom_112 : decode cX8_copyFrom 112 = .ok (.getfield 30, 3) := by decide +kernel
theorem dX8_copyFrom_115 : decode cX8_copyFrom 115 = .ok (.iconst 0, 1) := by decide +kernel
theorem dX8_copyFrom_116 : decode cX8_copyFrom 116 = .ok (.bipush 12, 2) := by decide +kernel
theorem dX8_copyFrom_118 : decode cX8_copyFrom 118 = .ok (.invokestatic 53, 3) := by decide +kernel
theorem dX8_copyFrom_121 : decode cX8_copyFrom 121 = .ok (.aload_n 1, 1) := by decide +kernel
theorem dX8_copyFrom_122 : decode cX8_copyFrom 122 = .ok (.getfield 33, 3) := by decide +kernel
theorem dX8_copyFrom_125 : decode cX8_copyFrom 125 = .ok (.iconst 0, 1) := by decide +kernel
theorem dX8_copyFrom_126 : decode cX8_copyFrom 126 = .ok (.aload_n 0, 1) := by decide +kernel
theorem dX8_copyFrom_127 : decode cX8_copyFrom 127 = .ok (.getfield 33, 3) := by decide +kernel
theorem dX8_copyFrom_130 : decode cX8_copyFrom 130 = .ok (.iconst 0, 1) := by decide +kernel
theorem dX8_copyFrom_131 : decode cX8_copyFrom 131 = .ok (.bipush 12, 2) := by decide +kernel
theorem dX8_copyFrom_133 : decode cX8_copyFrom 133 = .ok (.invokestatic 53, 3) := by decide +kernel
theorem dX8_copyFrom_136 : decode cX8_copyFrom 136 = .ok (.aload_n 1, 1) := by decide +kernel
theorem dX8_copyFrom_137 : decode cX8_copyFrom 137 = .ok (.getfield 36, 3) := by decide +kernel
theorem dX8_copyFrom_140 : decode cX8_copyFrom 140 = .ok (.iconst 0, 1) := by decide +kernel
theorem dX8_copyFrom_141 : decode cX8_copyFrom 141 = .ok (.aload_n 0, 1) := by decide +kernel
theorem dX8_copyFrom_142 : decode cX8_copyFrom 142 = .ok (.getfield 36, 3) := by decide +kernel
theorem dX8_copyFrom_145 : decode cX8_copyFrom 145 = .ok (.iconst 0, 1) := by decide +kernel
theorem dX8_copyFrom_146 : decode cX8_copyFrom 146 = .ok (.bipush 100, 2) := by decide +kernel
theorem dX8_copyFrom_148 : decode cX8_copyFrom 148 = .ok (.invokestatic 53, 3) := by decide +kernel
theorem dX8_copyFrom_151 : decode cX8_copyFrom 151 = .ok (.aload_n 0, 1) := by decide +kernel
theorem dX8_copyFrom_152 : decode cX8_copyFrom 152 = .ok (.getfield 42, 3) := by decide +kernel
theorem dX8_copyFrom_155 : decode cX8_copyFrom 155 = .ok (.aload_n 1, 1) := by decide +kernel
theorem dX8_copyFrom_156 : decode cX8_copyFrom 156 = .ok (.getfield 42, 3) := by decide +kernel
theorem dX8_copyFrom_159 : decode cX8_copyFrom 159 = .ok (.invokevirtual 59, 3) := by decide +kernel
theorem dX8_copyFrom_162 : decode cX8_copyFrom 162 = .ok (.return_, 1) := by decide +kernel
set_option maxRecDepth 20000 in
theorem rX8_copyFrom {c d : Nat} {I : MI} {Q : MI → Prop} (hc : IsSt c) (hd : IsSt d) (H : (∀ I1 : MI, I1 = up2 I c 0 (I d 0) → ∀ I2 : MI, I2 = up2 I1 c 1 (I1 d 1) → ∀ I3 : MI, I3 = upA I2 (c + 1) (va_cpy (I2 (d + 1)) (I2 (c + 1)) 0 0 84) → ∀ I4 : MI, I4 = upA I3 (c + 2) (va_cpy (I3 (d + 2)) (I3 (c + 2)) 0 0 12) → ∀ I5 : MI, I5 = upA I4 (c + 3) (va_cpy (I4 (d + 3)) (I4 (c + 3)) 0 0 18) → ∀ I6 : MI, I6 = upA I5 (c + 4) (va_cpy (I5 (d + 4)) (I5 (c + 4)) 0 0 18) → ∀ I7 : MI, I7 = upA I6 (c + 5) (va_cpy (I6 (d + 5)) (I6 (c + 5)) 0 0 12) → ∀ I8 : MI, I8 = upA I7 (c + 6) (va_cpy (I7 (d + 6)) (I7 (c + 6)) 0 0 12) → ∀ I9 : MI, I9 = upA I8 (c + 7) (va_cpy (I8 (d + 7)) (I8 (c + 7)) 0 0 12) → ∀ I10 : MI, I10 = upA I9 (c + 8) (va_cpy (I9 (d + 8)) (I9 (c + 8)) 0 0 12) → ∀ I11 : MI, I11 = upA I10 (c + 9) (va_cpy (I10 (d + 9)) (I10 (c + 9)) 0 0 100) → Wv mX3_copyFrom [.ref (c + 10), .ref (d + 10)] I11 (fun I12 => (Q I12)))) : Wv mX8_copyFrom [.ref c, .ref d] I Q := by
  show WP mX8_copyFrom 286 Rf0 0 [some (.ref c), some (.ref d)] [] I (qv Q)
  refine w_aload_n dX8_copyFrom_0 rfl rfl ?_
  refine w_aload_n dX8_copyFrom_1 rfl rfl ?_
  refine w_getI dX8_copyFrom_2 fl_8_50 okC8 hd.1 (by have := hd.2.1; omega) (by decide) rfl ?_
  refine w_putI dX8_copyFrom_5 fl_8_50 okC8 hc.1 (by have := hc.2.1; omega) (by decide) rfl rfl rfl (w_up fun I1 hI => ?_)
  replace H := H I1 hI
  refine w_aload_n dX8_copyFrom_8 rfl rfl ?_
  refine w_aload_n dX8_copyFrom_9 rfl rfl ?_
  refine w_getI dX8_copyFrom_10 fl_8_46 okC8 hd.1 (by have := hd.2.1; omega) (by decide) rfl ?_
  refine w_putI dX8_copyFrom_13 fl_8_46 okC8 hc.1 (by have := hc.2.1; omega) (by decide) rfl rfl rfl (w_up fun I2 hI => ?_)
  replace H := H I2 hI
  refine w_aload_n dX8_copyFrom_16 rfl rfl ?_
  refine w_getR dX8_copyFrom_17 fl_8_9 okC8 hd.1 (by have := hd.2.1; omega) (by decide) rfl hd.2.2.1 ?_
  refine w_iconst (v := 0) dX8_copyFrom_20 (by decide) ?_
  refine w_aload_n dX8_copyFrom_21 rfl rfl ?_
  refine w_getR dX8_copyFrom_22 fl_8_9 okC8 hc.1 (by have := hc.2.1; omega) (by decide) rfl hc.2.2.1 ?_
  refine w_iconst (v := 0) dX8_copyFrom_25 (by decide) ?_
  refine w_bipush (v := 84) dX8_copyFrom_26 (by decide) ?_
  refine w_copy dX8_copyFrom_28 ml_8_53 cpN cpS cpI hd.2.2.2.2.2.2.2.2.2.2.2.2.1 hc.2.2.2.2.2.2.2.2.2.2.2.2.1 (by have := hd.2.1; omega) (by have := hc.2.1; omega) (by decide) (by decide) (by decide) (by decide) (by decide) (by decide) (Nat.le_of_ble_eq_true rfl) (w_up fun I3 hI => ?_)
  replace H := H I3 hI
  refine w_aload_n dX8_copyFrom_31 rfl rfl ?_
  refine w_getR dX8_copyFrom_32 fl_8_15 okC8 hd.1 (by have := hd.2.1; omega) (by decide) rfl hd.2.2.2.1 ?_
  refine w_iconst (v := 0) dX8_copyFrom_35 (by decide) ?_
  refine w_aload_n dX8_copyFrom_36 rfl rfl ?_
  refine w_getR dX8_copyFrom_37 fl_8_15 okC8 hc.1 (by have := hc.2.1; omega) (by decide) rfl hc.2.2.2.1 ?_
  refine w_iconst (v := 0) dX8_copyFrom_40 (by decide) ?_
  refine w_bipush (v := 12) dX8_copyFrom_41 (by decide) ?_
  refine w_copy dX8_copyFrom_43 ml_8_53 cpN cpS cpI hd.2.2.2.2.2.2.2.2.2.2.2.2.2.1 hc.2.2.2.2.2.2.2.2.2.2.2.2.2.1 (by have := hd.2.1; omega) (by have := hc.2.1; omega) (by decide) (by decide) (by decide) (by decide) (by decide) (by decide) (Nat.le_of_ble_eq_true rfl) (w_up fun I4 hI => ?_)
  replace H := H I4 hI
  refine w_aload_n dX8_copyFrom_46 rfl rfl ?_
  refine w_getR dX8_copyFrom_47 fl_8_18 okC8 hd.1 (by have := hd.2.1; omega) (by decide) rfl hd.2.2.2.2.1 ?_
  refine w_iconst (v := 0) dX8_copyFrom_50 (by decide) ?_
  refine w_aload_n dX8_copyFrom_51 rfl rfl ?_
  refine w_getR dX8_copyFrom_52 fl_8_18 okC8 hc.1 (by have := hc.2.1; omega) (by decide) rfl hc.2.2.2.2.1 ?_
  refine w_iconst (v := 0) dX8_copyFrom_55 (by decide) ?_
  refine w_bipush (v := 18) dX8_copyFrom_56 (by decide) ?_
  refine w_copy dX8_copyFrom_58 ml_8_53 cpN cpS cpI hd.2.2.2.2.2.2.2.2.2.2.2.2.2.2.1 hc.2.2.2.2.2.2.2.2.2.2.2.2.2.2.1 (by have := hd.2.1; omega) (by have := hc.2.1; omega) (by decide) (by decide) (by decide) (by decide) (by decide) (by decide) (Nat.le_of_ble_eq_true rfl) (w_up fun I5 hI => ?_)
  replace H := H I5 hI
  refine w_aload_n dX8_copyFrom_61 rfl rfl ?_
  refine w_getR dX8_copyFrom_62 fl_8_21 okC8 hd.1 (by have := hd.2.1; omega) (by decide) rfl hd.2.2.2.2.2.1 ?_
  refine w_iconst (v := 0) dX8_copyFrom_65 (by decide) ?_
  refine w_aload_n dX8_copyFrom_66 rfl rfl ?_
  refine w_getR dX8_copyFrom_67 fl_8_21 okC8 hc.1 (by have := hc.2.1; omega) (by decide) rfl hc.2.2.2.2.2.1 ?_
  refine w_iconst (v := 0) dX8_copyFrom_70 (by decide) ?_
  refine w_bipush (v := 18) dX8_copyFrom_71 (by decide) ?_
  refine w_copy dX8_copyFrom_73 ml_8_53 cpN cpS cpI hd.2.2.2.2.2.2.2.2.2.2.2.2.2.2.2.1 hc.2.2.2.2.2.2.2.2.2.2.2.2.2.2.2.1 (by have := hd.2.1; omega) (by have := hc.2.1; omega) (by decide) (by decide) (by decide) (by decide) (by decide) (by decide) (Nat.le_of_ble_eq_true rfl) (w_up fun I6 hI => ?_)
  replace H := H I6 hI
  refine w_aload_n dX8_copyFrom_76 rfl rfl ?_
  refine w_getR dX8_copyFrom_77 fl_8_24 okC8 hd.1 (by have := hd.2.1; omega) (by decide) rfl hd.2.2.2.2.2.2.1 ?_
  refine w_iconst (v := 0) dX8_copyFrom_80 (by decide) ?_
  refine w_aload_n dX8_copyFrom_81 rfl rfl ?_
  refine w_getR dX8_copyFrom_82 fl_8_24 okC8 hc.1 (by have := hc.2.1; omega) (by decide) rfl hc.2.2.2.2.2.2.1 ?_
  refine w_iconst (v := 0) dX8_copyFrom_85 (by decide) ?_
  refine w_bipush (v := 12) dX8_copyFrom_86 (by decide) ?_
  refine w_copy dX8_copyFrom_88 ml_8_53 cpN cpS cpI hd.2.2.2.2.2.2.2.2.2.2.2.2.2.2.2.2.1 hc.2.2.2.2.2.2.2.2.2.2.2.2.2.2.2.2.1 (by have := hd.2.1; omega) (by have := hc.2.1; omega) (by decide) (by decide) (by decide) (by decide) (by decide) (by decide) (Nat.le_of_ble_eq_true rfl) (w_up fun I7 hI => ?_)
  replace H := H I7 hI
  refine w_aload_n dX8_copyFrom_91 rfl rfl ?_
  refine w_getR dX8_copyFrom_92 fl_8_27 okC8 hd.1 (by have := hd.2.1; omega) (by decide) rfl hd.2.2.2.2.2.2.2.1 ?_
  refine w_iconst (v := 0) dX8_copyFrom_95 (by decide) ?_
  refine w_aload_n dX8_copyFrom_96 rfl rfl ?_
  refine w_getR dX8_copyFrom_97 fl_8_27 okC8 hc.1 (by have := hc.2.1; omega) (by decide) rfl hc.2.2.2.2.2.2.2.1 ?_
  refine w_iconst (v := 0) dX8_copyFrom_100 (by decide) ?_
  refine w_bipush (v := 12) dX8_copyFrom_101 (by decide) ?_
  refine w_copy dX8_copyFrom_103 ml_8_53 cpN cpS cpI hd.2.2.2.2.2.2.2.2.2.2.2.2.2.2.2.2.2.1 hc.2.2.2.2.2.2.2.2.2.2.2.2.2.2.2.2.2.1 (by have := hd.2.1; omega) (by have := hc.2.1; omega) (by decide) (by decide) (by decide) (by decide) (by decide) (by decide) (Nat.le_of_ble_eq_true rfl) (w_up fun I8 hI => ?_)
  replace H := H I8 hI
  refine w_aload_n dX8_copyFrom_106 rfl rfl ?_
  refine w_getR dX8_copyFrom_107 fl_8_30 okC8 hd.1 (by have := hd.2.1; omega) (by decide) rfl hd.2.2.2.2.2.2.2.2.1 ?_
  refine w_iconst (v := 0) dX8_copyFrom_110 (by decide) ?_
  refine w_aload_n dX8_copyFrom_111 rfl rfl ?_
  refine w_getR dX8_copyFrom_112 fl_8_30 okC8 hc.1 (by have := hc.2.1; omega) (by decide) rfl hc.2.2.2.2.2.2.2.2.1 ?_
  refine w_iconst (v := 0) dX8_copyFrom_115 (by decide) ?_
  refine w_bipush (v := 12) dX8_copyFrom_116 (by decide) ?_
  refine w_copy dX8_copyFrom_118 ml_8_53 cpN cpS cpI hd.2.2.2.2.2.2.2.2.2.2.2.2.2.2.2.2.2.2.1 hc.2.2.2.2.2.2.2.2.2.2.2.2.2.2.2.2.2.2.1 (by have := hd.2.1; omega) (by have := hc.2.1; omega) (by decide) (by decide) (by decide) (by decide) (by decide) (by decide) (Nat.le_of_ble_eq_true rfl) (w_up fun I9 hI => ?_)
  replace H := H I9 hI
  refine w_aload_n dX8_copyFrom_121 rfl rfl ?_
  refine w_getR dX8_copyFrom_122 fl_8_33 okC8 hd.1 (by have := hd.2.1; omega) (by decide) rfl hd.2.2.2.2.2.2.2.2.2.1 ?_
  refine w_iconst (v := 0) dX8_copyFrom_125 (by decide) ?_
  refine w_aload_n dX8_copyFrom_126 rfl rfl ?_
  refine w_getR dX8_copyFrom_127 fl_8_33 okC8 hc.1 (by have := hc.2.1; omega) (by decide) rfl hc.2.2.2.2.2.2.2.2.2.1 ?_
  refine w_iconst (v := 0) dX8_copyFrom_130 (by decide) ?_
  refine w_bipush (v := 12) dX8_copyFrom_131 (by decide) ?_
  refine w_copy dX8_copyFrom_133 ml_8_53 cpN cpS cpI hd.2.2.2.2.2.2.2.2.2.2.2.2.2.2.2.2.2.2.2.1 hc.2.2.2.2.2.2.2.2.2.2.2.2.2.2.2.2.2.2.2.1 (by have := hd.2.1; omega) (by have := hc.2.1; omega) (by decide) (by decide) (by decide) (by decide) (by decide) (by decide) (Nat.le_of_ble_eq_true rfl) (w_up fun I10 hI => ?_)
  replace H := H I10 hI
  refine w_aload_n dX8_copyFrom_136 rfl rfl ?_
  refine w_getR dX8_copyFrom_137 fl_8_36 okC8 hd.1 (by have := hd.2.1; omega) (by decide) rfl hd.2.2.2.2.2.2.2.2.2.2.1 ?_
  refine w_iconst (v := 0) dX8_copyFrom_140 (by decide) ?_
  refine w_aload_n dX8_copyFrom_141 rfl rfl ?_
  refine w_getR dX8_copyFrom_142 fl_8_36 okC8 hc.1 (by have := hc.2.1; omega) (by decide) rfl hc.2.2.2.2.2.2.2.2.2.2.1 ?_
  refine w_iconst (v := 0) dX8_copyFrom_145 (by decide) ?_
  refine w_bipush (v := 100) dX8_copyFrom_146 (by decide) ?_
  refine w_copy dX8_copyFrom_148 ml_8_53 cpN cpS cpI hd.2.2.2.2.2.2.2.2.2.2.2.2.2.2.2.2.2.2.2.2.1 hc.2.2.2.2.2.2.2.2.2.2.2.2.2.2.2.2.2.2.2.2.1 (by have := hd.2.1; omega) (by have := hc.2.1; omega) (by decide) (by decide) (by decide) (by decide) (by decide) (by decide) (Nat.le_of_ble_eq_true rfl) (w_up fun I11 hI => ?_)
  replace H := H I11 hI
  refine w_aload_n dX8_copyFrom_151 rfl rfl ?_
  refine w_getR dX8_copyFrom_152 fl_8_42 okC8 hc.1 (by have := hc.2.1; omega) (by decide) rfl hc.2.2.2.2.2.2.2.2.2.2.2.1 ?_
  refine w_aload_n dX8_copyFrom_155 rfl rfl ?_
  refine w_getR dX8_copyFrom_156 fl_8_42 okC8 hd.1 (by have := hd.2.1; omega) (by decide) rfl hd.2.2.2.2.2.2.2.2.2.2.2.1 ?_
  refine w_callV (st := []) (As := [.ref (d + 10)]) dX8_copyFrom_159 ml_8_59 okX3_copyFrom hc.2.2.2.2.2.2.2.2.2.2.2.2.2.2.2.2.2.2.2.2.2.1 (by have := hc.2.1; omega) rfl rfl rfl (Nat.le_of_ble_eq_true rfl) (by decide) (Nat.le_of_ble_eq_true rfl) (wc_v H (fun I12 H => ?_))
  exact w_vret dX8_copyFrom_162 rfl ⟨rfl, H⟩
theorem dX9_isWord_0 : decode cX9_isWord 0 = .ok (.aload_n 0, 1) := by decide +kernel
theorem dX9_isWord_1 : decode cX9_isWord 1 = .ok (.getfield 41, 3) := by decide +kernel
theorem dX9_isWord_4 : decode cX9_isWord 4 = .ok (.iconst 1, 1) := by decide +kernel
theorem dX9_isWord_5 : decode cX9_isWord 5 = .ok (.if_icmp .ne 19, 3) := by decide +kernel
theorem dX9_isWord_8 : decode cX9_isWord 8 = .ok (.aload_n 0, 1) := by decide +kernel
theorem dX9_isWord_9 : decode cX9_isWord 9 = .ok (.getfield 28, 3) := by decide +kernel
theorem dX9_isWord_12 : decode cX9_isWord 12 = .ok (.aload_n 0, 1) := by decide +kernel
theorem dX9_isWord_13 : decode cX9_isWord 13 = .ok (.getfield 34, 3) := by decide +kernel
theorem dX9_isWord_16 : decode cX9_isWord 16 = .ok (.isub, 1) := by decide +kernel
theorem dX9_isWord_17 : decode cX9_isWord 17 = .ok (.aload_n 1, 1) := by decide +kernel
theorem dX9_isWord_18 : decode cX9_isWord 18 = .ok (.invokevirtual 44, 3) := by decide +kernel
theorem dX9_isWord_21 : decode cX9_isWord 21 = .ok (.if_icmp .eq 5, 3) := by decide +kernel
theorem dX9_isWord_24 : decode cX9_isWord 24 = .ok (.iconst 0, 1) := by decide +kernel
theorem dX9_isWord_25 : decode cX9_isWord 25 = .ok (.ireturn, 1) := by decide +kernel
theorem dX9_isWord_26 : decode cX9_isWord 26 = .ok (.iconst 0, 1) := by decide +kernel
theorem dX9_isWord_27 : decode cX9_isWord 27 = .ok (.istore_n 2, 1) := by decide +kernel
theorem dX9_isWord_28 : decode cX9_isWord 28 = .ok (.iload_n 2, 1) := by decide +kernel
theorem dX9_isWord_29 : decode cX9_isWord 29 = .ok (.aload_n 1, 1) := by decide +kernel
theorem dX9_isWord_30 : decode cX9_isWord 30 = .ok (.invokevirtual 44, 3) := by decide +kernel
theorem dX9_isWord_33 : decode cX9_isWord 33 = .ok (.if_icmp .ge 30, 3) := by decide +kernel
theorem dX9_isWord_36 : decode cX9_isWord 36 = .ok (.aload_n 0, 1) := by decide +kernel
theorem dX9_isWord_37 : decode cX9_isWord 37 = .ok (.getfield 9, 3) := by decide +kernel
theorem dX9_isWord_40 : decode cX9_isWord 40 = .ok (.aload_n 0, 1) := by decide +kernel
theorem dX9_isWord_41 : decode cX9_isWord 41 = .ok (.getfield 34, 3) := by decide +kernel
theorem dX9_isWord_44 : decode cX9_isWord 44 = .ok (.iload_n 2, 1) := by decide +kernel
theorem dX9_isWord_45 : decode cX9_isWord 45 = .ok (.iadd, 1) := by decide +kernel
theorem dX9_isWord_46 : decode cX9_isWord 46 = .ok (.baload, 1) := by decide +kernel
theorem dX9_isWord_47 : decode cX9_isWord 47 = .ok (.aload_n 1, 1) := by decide +kernel
theorem dX9_isWord_48 : decode cX9_isWord 48 = .ok (.iload_n 2, 1) := by decide +kernel
theorem dX9_isWord_49 : decode cX9_isWord 49 = .ok (.invokevirtual 49, 3) := by decide +kernel
theorem dX9_isWord_52 : decode cX9_isWord 52 = .ok (.if_icmp .eq 5, 3) := by decide +kernel
theorem dX9_isWord_55 : decode cX9_isWord 55 = .ok (.iconst 0, 1) := by decide +kernel
theorem dX9_isWord_56 : decode cX9_isWord 56 = .ok (.ireturn, 1) := by decide +kernel
theorem dX9_isWord_57 : decode cX9_isWord 57 = .ok (.iinc 2 1, 3) := by decide +kernel
theorem dX9_isWord_60 : decode cX9_isWord 60 = .ok (.goto (-32), 3) := by decide +kernel
theorem dX9_isWord_63 : decode cX9_isWord 63 = .ok (.iconst 1, 1) := by decide +kernel
theorem dX9_isWord_64 : decode cX9_isWord 64 = .ok (.ireturn, 1) := by decide +kernel
abbrev LX9_isWord_28 (j : Nat) (l2 : Int32) (I : MI) (Q : Int32 → MI → Prop) : Prop := WP mX9_isWord 286 Rf0 28 [some (.ref 1), some (.retAddr (2 * j + 1)), some (.int l2)] [] I (qi Q)
set_option maxRecDepth 20000 in
theorem rX9_isWord_28 {j : Nat} {l2 : Int32} {I : MI} {Q : Int32 → MI → Prop} (hj : j < 7) (H : (Wi mJ0_length_8abf5 [.retAddr (2 * j + 1)] I (fun r2 I1 => ((r2 ≤ l2 → (Q 1 I1)) ∧ (¬ r2 ≤ l2 → (vp_in ((I1 1 3) + l2) 900 ∧ Wi mJ0_charAt_5068e [.retAddr (2 * j + 1), .int l2] I1 (fun r4 I3 => (((I1 2 ((I1 1 3) + l2).toNatClampNeg) = r4 → (LX9_isWord_28 j (l2 + 1) I3 Q)) ∧ (¬ (I1 2 ((I1 1 3) + l2).toNatClampNeg) = r4 → (Q 0 I3)))))))))) : LX9_isWord_28 j l2 I Q := by
  show WP mX9_isWord 286 Rf0 28 [some (.ref 1), some (.retAddr (2 * j + 1)), some (.int l2)] [] I (qi Q)
  refine w_iload_n dX9_isWord_28 rfl rfl ?_
  refine w_aload_nS dX9_isWord_29 rfl rfl ?_
  refine w_callW (j := j) (st := [.int l2]) (As := []) hj dX9_isWord_30 ml_9_44 okJ0_length_8abf5 rfl rfl (Nat.le_of_ble_eq_true rfl) (by decide) (Nat.le_of_ble_eq_true rfl) (wc_i H (fun r2 I1 H => ?_))
  refine w_icmp_ge (t := 63) dX9_isWord_33 (by decide) (fun h => ?_) (fun h => ?_)
  · replace H := H.1 h
    refine w_iconst (v := 1) dX9_isWord_63 (by decide) ?_
    exact w_zret dX9_isWord_64 rfl rfl ⟨_, rfl, H⟩
  · replace H := H.2 h
    refine w_aload_n dX9_isWord_36 rfl rfl ?_
    refine w_getR dX9_isWord_37 fl_9_9 okC9 kd_1 (by decide) (by decide) rfl rf_1_0 ?_
    refine w_aload_n dX9_isWord_40 rfl rfl ?_
    refine w_getI dX9_isWord_41 fl_9_34 okC9 kd_1 (by decide) (by decide) rfl ?_
    refine w_iload_n dX9_isWord_44 rfl rfl ?_
    refine w_iadd dX9_isWord_45 ?_
    refine w_bald dX9_isWord_46 kd_2 (by decide) H.1 ?_
    replace H := H.2
    refine w_aload_nS dX9_isWord_47 rfl rfl ?_
    refine w_iload_n dX9_isWord_48 rfl rfl ?_
    refine w_callW (j := j) (st := [.int (I1 2 ((I1 1 3) + l2).toNatClampNeg)]) (As := [.int l2]) hj dX9_isWord_49 ml_9_49 okJ0_charAt_5068e rfl rfl (Nat.le_of_ble_eq_true rfl) (by decide) (Nat.le_of_ble_eq_true rfl) (wc_i H (fun r4 I3 H => ?_))
    refine w_icmp_eq (t := 57) dX9_isWord_52 (by decide) (fun h => ?_) (fun h => ?_)
    · replace H := H.1 h
      refine w_iinc (v := l2 + 1) (ls' := [some (.ref 1), some (.retAddr (2 * j + 1)), some (.int (l2 + 1))]) dX9_isWord_57 rfl rfl (by decide) rfl rfl ?_
      refine w_goto (t := 28) dX9_isWord_60 (by decide) ?_
      skip
      exact H
    · replace H := H.2 h
      refine w_iconst (v := 0) dX9_isWord_55 (by decide) ?_
      exact w_zret dX9_isWord_56 rfl rfl ⟨_, rfl, H⟩
set_option maxRecDepth 20000 in
theorem rX9_isWord {j : Nat} {I : MI} {Q : Int32 → MI → Prop} (hj : j < 7) (H : ((¬ (I 1 5) = 1 → (Q 0 I)) ∧ ((I 1 5) = 1 → (Wi mJ0_length_8abf5 [.retAddr (2 * j + 1)] I (fun r2 I1 => ((((I 1 4) - (I 1 3)) = r2 → (LX9_isWord_28 j 0 I1 Q)) ∧ (¬ ((I 1 4) - (I 1 3)) = r2 → (Q 0 I1)))))))) : Wi mX9_isWord [.ref 1, .retAddr (2 * j + 1)] I Q := by
  show WP mX9_isWord 286 Rf0 0 [some (.ref 1), some (.retAddr (2 * j + 1)), none] [] I (qi Q)
  refine w_aload_n dX9_isWord_0 rfl rfl ?_
  refine w_getI dX9_isWord_1 fl_9_41 okC9 kd_1 (by decide) (by decide) rfl ?_
  refine w_iconst (v := 1) dX9_isWord_4 (by decide) ?_
  refine w_icmp_ne (t := 24) dX9_isWord_5 (by decide) (fun h => ?_) (fun h => ?_)
  · replace H := H.1 h
    refine w_iconst (v := 0) dX9_isWord_24 (by decide) ?_
    exact w_zret dX9_isWord_25 rfl rfl ⟨_, rfl, H⟩
  · replace H := H.2 h
    refine w_aload_n dX9_isWord_8 rfl rfl ?_
    refine w_getI dX9_isWord_9 fl_9_28 okC9 kd_1 (by decide) (by decide) rfl ?_
    refine w_aload_n dX9_isWord_12 rfl rfl ?_
    refine w_getI dX9_isWord_13 fl_9_34 okC9 kd_1 (by decide) (by decide) rfl ?_
    refine w_isub dX9_isWord_16 ?_
    refine w_aload_nS dX9_isWord_17 rfl rfl ?_
    refine w_callW (j := j) (st := [.int ((I 1 4) - (I 1 3))]) (As := []) hj dX9_isWord_18 ml_9_44 okJ0_length_8abf5 rfl rfl (Nat.le_of_ble_eq_true rfl) (by decide) (Nat.le_of_ble_eq_true rfl) (wc_i H (fun r2 I1 H => ?_))
    refine w_icmp_eq (t := 26) dX9_isWord_21 (by decide) (fun h => ?_) (fun h => ?_)
    · replace H := H.1 h
      refine w_iconst (v := 0) dX9_isWord_26 (by decide) ?_
      refine w_istore_n (ls' := [some (.ref 1), some (.retAddr (2 * j + 1)), some (.int 0)]) dX9_isWord_27 rfl (by decide) rfl rfl ?_
      skip
      exact H
    · replace H := H.2 h
      refine w_iconst (v := 0) dX9_isWord_24 (by decide) ?_
      exact w_zret dX9_isWord_25 rfl rfl ⟨_, rfl, H⟩
theorem dJ7_fill_53178_0 : decode cJ7_fill_53178 0 = .ok (.iconst 0, 1) := by decide +kernel
theorem dJ7_fill_53178_1 : decode cJ7_fill_53178 1 = .ok (.istore_n 2, 1) := by decide +kernel
theorem dJ7_fill_53178_2 : decode cJ7_fill_53178 2 = .ok (.aload_n 0, 1) := by decide +kernel
theorem dJ7_fill_53178_3 : decode cJ7_fill_53178 3 = .ok (.arraylength, 1) := by decide +kernel
theorem dJ7_fill_53178_4 : decode cJ7_fill_53178 4 = .ok (.istore_n 3, 1) := by decide +kernel
theorem dJ7_fill_53178_5 : decode cJ7_fill_53178 5 = .ok (.iload_n 2, 1) := by decide +kernel
theorem dJ7_fill_53178_6 : decode cJ7_fill_53178 6 = .ok (.iload_n 3, 1) := by decide +kernel
theorem dJ7_fill_53178_7 : decode cJ7_fill_53178 7 = .ok (.if_icmp .ge 13, 3) := by decide +kernel
theorem dJ7_fill_53178_10 : decode cJ7_fill_53178 10 = .ok (.aload_n 0, 1) := by decide +kernel
theorem dJ7_fill_53178_11 : decode cJ7_fill_53178 11 = .ok (.iload_n 2, 1) := by decide +kernel
theorem dJ7_fill_53178_12 : decode cJ7_fill_53178 12 = .ok (.iload_n 1, 1) := by decide +kernel
theorem dJ7_fill_53178_13 : decode cJ7_fill_53178 13 = .ok (.iastore, 1) := by decide +kernel
theorem dJ7_fill_53178_14 : decode cJ7_fill_53178 14 = .ok (.iinc 2 1, 3) := by decide +kernel
theorem dJ7_fill_53178_17 : decode cJ7_fill_53178 17 = .ok (.goto (-12), 3) := by decide +kernel
theorem dJ7_fill_53178_20 : decode cJ7_fill_53178 20 = .ok (.return_, 1) := by decide +kernel
abbrev LJ7_fill_53178_46_5 (l1 l2 l3 : Int32) (I : MI) (Q : MI → Prop) : Prop := WP mJ7_fill_53178 286 Rf0 5 [some (.ref 46), some (.int l1), some (.int l2), some (.int l3)] [] I (qv Q)
set_option maxRecDepth 20000 in
theorem rJ7_fill_53178_46_5 {l1 l2 l3 : Int32} {I : MI} {Q : MI → Prop} (H : ((l3 ≤ l2 → (Q I)) ∧ (¬ l3 ≤ l2 → (vp_in l2 10 ∧ ∀ I1 : MI, I1 = up2 I 46 l2.toNatClampNeg l1 → LJ7_fill_53178_46_5 l1 (l2 + 1) l3 I1 Q)))) : LJ7_fill_53178_46_5 l1 l2 l3 I Q := by
  show WP mJ7_fill_53178 286 Rf0 5 [some (.ref 46), some (.int l1), some (.int l2), some (.int l3)] [] I (qv Q)
  refine w_iload_n dJ7_fill_53178_5 rfl rfl ?_
  refine w_iload_n dJ7_fill_53178_6 rfl rfl ?_
  refine w_icmp_ge (t := 20) dJ7_fill_53178_7 (by decide) (fun h => ?_) (fun h => ?_)
  · replace H := H.1 h
    exact w_vret dJ7_fill_53178_20 rfl ⟨rfl, H⟩
  · replace H := H.2 h
    refine w_aload_n dJ7_fill_53178_10 rfl rfl ?_
    refine w_iload_n dJ7_fill_53178_11 rfl rfl ?_
    refine w_iload_n dJ7_fill_53178_12 rfl rfl ?_
    refine w_iast dJ7_fill_53178_13 kd_46 (by decide) H.1 (w_up fun I1 hI => ?_)
    replace H := H.2 I1 hI
    refine w_iinc (v := l2 + 1) (ls' := [some (.ref 46), some (.int l1), some (.int (l2 + 1)), some (.int l3)]) dJ7_fill_53178_14 rfl rfl (by decide) rfl rfl ?_
    refine w_goto (t := 5) dJ7_fill_53178_17 (by decide) ?_
    skip
    exact H
set_option maxRecDepth 20000 in
theorem rJ7_fill_53178_46 {a2 : Int32} {I : MI} {Q : MI → Prop} (H : (LJ7_fill_53178_46_5 a2 0 10 I Q)) : Wv mJ7_fill_53178 [.ref 46, .int a2] I Q := by
  show WP mJ7_fill_53178 286 Rf0 0 [some (.ref 46), some (.int a2), none, none] [] I (qv Q)
  refine w_iconst (v := 0) dJ7_fill_53178_0 (by decide) ?_
  refine w_istore_n (ls' := [some (.ref 46), some (.int a2), some (.int 0), none]) dJ7_fill_53178_1 rfl (by decide) rfl rfl ?_
  refine w_aload_n dJ7_fill_53178_2 rfl rfl ?_
  refine w_alen (v := 10) dJ7_fill_53178_3 kd_46 (by decide) (by decide) ?_
  refine w_istore_n (ls' := [some (.ref 46), some (.int a2), some (.int 0), some (.int 10)]) dJ7_fill_53178_4 rfl (by decide) rfl rfl ?_
  skip
  exact H
abbrev LJ7_fill_53178_47_5 (l1 l2 l3 : Int32) (I : MI) (Q : MI → Prop) : Prop := WP mJ7_fill_53178 286 Rf0 5 [some (.ref 47), some (.int l1), some (.int l2), some (.int l3)] [] I (qv Q)
set_option maxRecDepth 20000 in
theorem rJ7_fill_53178_47_5 {l1 l2 l3 : Int32} {I : MI} {Q : MI → Prop} (H : ((l3 ≤ l2 → (Q I)) ∧ (¬ l3 ≤ l2 → (vp_in l2 10 ∧ ∀ I1 : MI, I1 = up2 I 47 l2.toNatClampNeg l1 → LJ7_fill_53178_47_5 l1 (l2 + 1) l3 I1 Q)))) : LJ7_fill_53178_47_5 l1 l2 l3 I Q := by
  show WP mJ7_fill_53178 286 Rf0 5 [some (.ref 47), some (.int l1), some (.int l2), some (.int l3)] [] I (qv Q)
  refine w_iload_n dJ7_fill_53178_5 rfl rfl ?_
  refine w_iload_n dJ7_fill_53178_6 rfl rfl ?_
  refine w_icmp_ge (t := 20) dJ7_fill_53178_7 (by decide) (fun h => ?_) (fun h => ?_)
  · replace H := H.1 h
    exact w_vret dJ7_fill_53178_20 rfl ⟨rfl, H⟩
  · replace H := H.2 h
    refine w_aload_n dJ7_fill_53178_10 rfl rfl ?_
    refine w_iload_n dJ7_fill_53178_11 rfl rfl ?_
    refine w_iload_n dJ7_fill_53178_12 rfl rfl ?_
    refine w_iast dJ7_fill_53178_13 kd_47 (by decide) H.1 (w_up fun I1 hI => ?_)
    replace H := H.2 I1 hI
    refine w_iinc (v := l2 + 1) (ls' := [some (.ref 47), some (.int l1), some (.int (l2 + 1)), some (.int l3)]) dJ7_fill_53178_14 rfl rfl (by decide) rfl rfl ?_
    refine w_goto (t := 5) dJ7_fill_53178_17 (by decide) ?_
    skip
    exact H
set_option maxRecDepth 20000 in
theorem rJ7_fill_53178_47 {a2 : Int32} {I : MI} {Q : MI → Prop} (H : (LJ7_fill_53178_47_5 a2 0 10 I Q)) : Wv mJ7_fill_53178 [.ref 47, .int a2] I Q := by
  show WP mJ7_fill_53178 286 Rf0 0 [some (.ref 47), some (.int a2), none, none] [] I (qv Q)
  refine w_iconst (v := 0) dJ7_fill_53178_0 (by decide) ?_
  refine w_istore_n (ls' := [some (.ref 47), some (.int a2), some (.int 0), none]) dJ7_fill_53178_1 rfl (by decide) rfl rfl ?_
  refine w_aload_n dJ7_fill_53178_2 rfl rfl ?_
  refine w_alen (v := 10) dJ7_fill_53178_3 kd_47 (by decide) (by decide) ?_
  refine w_istore_n (ls' := [some (.ref 47), some (.int a2), some (.int 0), some (.int 10)]) dJ7_fill_53178_4 rfl (by decide) rfl rfl ?_
  skip
  exact H
abbrev LJ7_fill_53178_53_5 (l1 l2 l3 : Int32) (I : MI) (Q : MI → Prop) : Prop := WP mJ7_fill_53178 286 Rf0 5 [some (.ref 53), some (.int l1), some (.int l2), some (.int l3)] [] I (qv Q)
set_option maxRecDepth 20000 in
theorem rJ7_fill_53178_53_5 {l1 l2 l3 : Int32} {I : MI} {Q : MI → Prop} (H : ((l3 ≤ l2 → (Q I)) ∧ (¬ l3 ≤ l2 → (vp_in l2 10 ∧ ∀ I1 : MI, I1 = up2 I 53 l2.toNatClampNeg l1 → LJ7_fill_53178_53_5 l1 (l2 + 1) l3 I1 Q)))) : LJ7_fill_53178_53_5 l1 l2 l3 I Q := by
  show WP mJ7_fill_53178 286 Rf0 5 [some (.ref 53), some (.int l1), some (.int l2), some (.int l3)] [] I (qv Q)
  refine w_iload_n dJ7_fill_53178_5 rfl rfl ?_
  refine w_iload_n dJ7_fill_53178_6 rfl rfl ?_
  refine w_icmp_ge (t := 20) dJ7_fill_53178_7 (by decide) (fun h => ?_) (fun h => ?_)
  · replace H := H.1 h
    exact w_vret dJ7_fill_53178_20 rfl ⟨rfl, H⟩
  · replace H := H.2 h
    refine w_aload_n dJ7_fill_53178_10 rfl rfl ?_
    refine w_iload_n dJ7_fill_53178_11 rfl rfl ?_
    refine w_iload_n dJ7_fill_53178_12 rfl rfl ?_
    refine w_iast dJ7_fill_53178_13 kd_53 (by decide) H.1 (w_up fun I1 hI => ?_)
    replace H := H.2 I1 hI
    refine w_iinc (v := l2 + 1) (ls' := [some (.ref 53), some (.int l1), some (.int (l2 + 1)), some (.int l3)]) dJ7_fill_53178_14 rfl rfl (by decide) rfl rfl ?_
    refine w_goto (t := 5) dJ7_fill_53178_17 (by decide) ?_
    skip
    exact H
set_option maxRecDepth 20000 in
theorem rJ7_fill_53178_53 {a2 : Int32} {I : MI} {Q : MI → Prop} (H : (LJ7_fill_53178_53_5 a2 0 10 I Q)) : Wv mJ7_fill_53178 [.ref 53, .int a2] I Q := by
  show WP mJ7_fill_53178 286 Rf0 0 [some (.ref 53), some (.int a2), none, none] [] I (qv Q)
  refine w_iconst (v := 0) dJ7_fill_53178_0 (by decide) ?_
  refine w_istore_n (ls' := [some (.ref 53), some (.int a2), some (.int 0), none]) dJ7_fill_53178_1 rfl (by decide) rfl rfl ?_
  refine w_aload_n dJ7_fill_53178_2 rfl rfl ?_
  refine w_alen (v := 10) dJ7_fill_53178_3 kd_53 (by decide) (by decide) ?_
  refine w_istore_n (ls' := [some (.ref 53), some (.int a2), some (.int 0), some (.int 10)]) dJ7_fill_53178_4 rfl (by decide) rfl rfl ?_
  skip
  exact H
abbrev LJ7_fill_53178_54_5 (l1 l2 l3 : Int32) (I : MI) (Q : MI → Prop) : Prop := WP mJ7_fill_53178 286 Rf0 5 [some (.ref 54), some (.int l1), some (.int l2), some (.int l3)] [] I (qv Q)
set_option maxRecDepth 20000 in
theorem rJ7_fill_53178_54_5 {l1 l2 l3 : Int32} {I : MI} {Q : MI → Prop} (H : ((l3 ≤ l2 → (Q I)) ∧ (¬ l3 ≤ l2 → (vp_in l2 5120 ∧ ∀ I1 : MI, I1 = up2 I 54 l2.toNatClampNeg l1 → LJ7_fill_53178_54_5 l1 (l2 + 1) l3 I1 Q)))) : LJ7_fill_53178_54_5 l1 l2 l3 I Q := by
  show WP mJ7_fill_53178 286 Rf0 5 [some (.ref 54), some (.int l1), some (.int l2), some (.int l3)] [] I (qv Q)
  refine w_iload_n dJ7_fill_53178_5 rfl rfl ?_
  refine w_iload_n dJ7_fill_53178_6 rfl rfl ?_
  refine w_icmp_ge (t := 20) dJ7_fill_53178_7 (by decide) (fun h => ?_) (fun h => ?_)
  · replace H := H.1 h
    exact w_vret dJ7_fill_53178_20 rfl ⟨rfl, H⟩
  · replace H := H.2 h
    refine w_aload_n dJ7_fill_53178_10 rfl rfl ?_
    refine w_iload_n dJ7_fill_53178_11 rfl rfl ?_
    refine w_iload_n dJ7_fill_53178_12 rfl rfl ?_
    refine w_iast dJ7_fill_53178_13 kd_54 (by decide) H.1 (w_up fun I1 hI => ?_)
    replace H := H.2 I1 hI
    refine w_iinc (v := l2 + 1) (ls' := [some (.ref 54), some (.int l1), some (.int (l2 + 1)), some (.int l3)]) dJ7_fill_53178_14 rfl rfl (by decide) rfl rfl ?_
    refine w_goto (t := 5) dJ7_fill_53178_17 (by decide) ?_
    skip
    exact H
set_option maxRecDepth 20000 in
theorem rJ7_fill_53178_54 {a2 : Int32} {I : MI} {Q : MI → Prop} (H : (LJ7_fill_53178_54_5 a2 0 5120 I Q)) : Wv mJ7_fill_53178 [.ref 54, .int a2] I Q := by
  show WP mJ7_fill_53178 286 Rf0 0 [some (.ref 54), some (.int a2), none, none] [] I (qv Q)
  refine w_iconst (v := 0) dJ7_fill_53178_0 (by decide) ?_
  refine w_istore_n (ls' := [some (.ref 54), some (.int a2), some (.int 0), none]) dJ7_fill_53178_1 rfl (by decide) rfl rfl ?_
  refine w_aload_n dJ7_fill_53178_2 rfl rfl ?_
  refine w_alen (v := 5120) dJ7_fill_53178_3 kd_54 (by decide) (by decide) ?_
  refine w_istore_n (ls' := [some (.ref 54), some (.int a2), some (.int 0), some (.int 5120)]) dJ7_fill_53178_4 rfl (by decide) rfl rfl ?_
  skip
  exact H
abbrev LJ7_fill_53178_55_5 (l1 l2 l3 : Int32) (I : MI) (Q : MI → Prop) : Prop := WP mJ7_fill_53178 286 Rf0 5 [some (.ref 55), some (.int l1), some (.int l2), some (.int l3)] [] I (qv Q)
set_option maxRecDepth 20000 in
theorem rJ7_fill_53178_55_5 {l1 l2 l3 : Int32} {I : MI} {Q : MI → Prop} (H : ((l3 ≤ l2 → (Q I)) ∧ (¬ l3 ≤ l2 → (vp_in l2 5120 ∧ ∀ I1 : MI, I1 = up2 I 55 l2.toNatClampNeg l1 → LJ7_fill_53178_55_5 l1 (l2 + 1) l3 I1 Q)))) : LJ7_fill_53178_55_5 l1 l2 l3 I Q := by
  show WP mJ7_fill_53178 286 Rf0 5 [some (.ref 55), some (.int l1), some (.int l2), some (.int l3)] [] I (qv Q)
  refine w_iload_n dJ7_fill_53178_5 rfl rfl ?_
  refine w_iload_n dJ7_fill_53178_6 rfl rfl ?_
  refine w_icmp_ge (t := 20) dJ7_fill_53178_7 (by decide) (fun h => ?_) (fun h => ?_)
  · replace H := H.1 h
    exact w_vret dJ7_fill_53178_20 rfl ⟨rfl, H⟩
  · replace H := H.2 h
    refine w_aload_n dJ7_fill_53178_10 rfl rfl ?_
    refine w_iload_n dJ7_fill_53178_11 rfl rfl ?_
    refine w_iload_n dJ7_fill_53178_12 rfl rfl ?_
    refine w_iast dJ7_fill_53178_13 kd_55 (by decide) H.1 (w_up fun I1 hI => ?_)
    replace H := H.2 I1 hI
    refine w_iinc (v := l2 + 1) (ls' := [some (.ref 55), some (.int l1), some (.int (l2 + 1)), some (.int l3)]) dJ7_fill_53178_14 rfl rfl (by decide) rfl rfl ?_
    refine w_goto (t := 5) dJ7_fill_53178_17 (by decide) ?_
    skip
    exact H
set_option maxRecDepth 20000 in
theorem rJ7_fill_53178_55 {a2 : Int32} {I : MI} {Q : MI → Prop} (H : (LJ7_fill_53178_55_5 a2 0 5120 I Q)) : Wv mJ7_fill_53178 [.ref 55, .int a2] I Q := by
  show WP mJ7_fill_53178 286 Rf0 0 [some (.ref 55), some (.int a2), none, none] [] I (qv Q)
  refine w_iconst (v := 0) dJ7_fill_53178_0 (by decide) ?_
  refine w_istore_n (ls' := [some (.ref 55), some (.int a2), some (.int 0), none]) dJ7_fill_53178_1 rfl (by decide) rfl rfl ?_
  refine w_aload_n dJ7_fill_53178_2 rfl rfl ?_
  refine w_alen (v := 5120) dJ7_fill_53178_3 kd_55 (by decide) (by decide) ?_
  refine w_istore_n (ls' := [some (.ref 55), some (.int a2), some (.int 0), some (.int 5120)]) dJ7_fill_53178_4 rfl (by decide) rfl rfl ?_
  skip
  exact H
end
