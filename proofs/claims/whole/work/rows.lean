section
-- ===== PART A: goes FIRST, ahead of the names: the tables' words, and 'selects' of the private methods out of them =====
/-- a private method of a class that the tables say can be made, by its rows of tables_1 -/
def lw_okq (q : MethodName × Nat) : Prop := (q.1.cls ≠ "java/lang/invoke/MethodHandle" ∧ q.1.cls ≠ "java/lang/invoke/VarHandle") ∧ Cond.instantiable q.1.cls q.2 ∈ tables_1 ∧ Cond.privateMethod q.1 ∈ tables_1 ∧ Cond.instanceMethod q.1 ∈ tables_1
theorem lw_p0 : lw_okq (⟨"java/lang/Throwable", "fillInStackTrace", "(I)Ljava/lang/Throwable;"⟩, 6) := ⟨⟨by decide +kernel, by decide +kernel⟩, List.mem_of_getElem? (i := 396) (by decide +kernel), List.mem_of_getElem? (i := 394) (by decide +kernel), List.mem_of_getElem? (i := 395) (by decide +kernel)⟩
theorem lw_p1 : lw_okq (⟨"LotSales", "needRoomForLots", "(I)V"⟩, 7) := ⟨⟨by decide +kernel, by decide +kernel⟩, List.mem_of_getElem? (i := 24) (by decide +kernel), List.mem_of_getElem? (i := 427) (by decide +kernel), List.mem_of_getElem? (i := 428) (by decide +kernel)⟩
theorem lw_p2 : lw_okq (⟨"LotSales", "needLot", "(I)V"⟩, 7) := ⟨⟨by decide +kernel, by decide +kernel⟩, List.mem_of_getElem? (i := 24) (by decide +kernel), List.mem_of_getElem? (i := 511) (by decide +kernel), List.mem_of_getElem? (i := 512) (by decide +kernel)⟩
theorem lw_p3 : lw_okq (⟨"LotSales", "tryOrder", "(III)I"⟩, 7) := ⟨⟨by decide +kernel, by decide +kernel⟩, List.mem_of_getElem? (i := 24) (by decide +kernel), List.mem_of_getElem? (i := 616) (by decide +kernel), List.mem_of_getElem? (i := 617) (by decide +kernel)⟩
theorem lw_p4 : lw_okq (⟨"LotSales", "orderReason", "(LLotSales$Lot;II)I"⟩, 7) := ⟨⟨by decide +kernel, by decide +kernel⟩, List.mem_of_getElem? (i := 24) (by decide +kernel), List.mem_of_getElem? (i := 620) (by decide +kernel), List.mem_of_getElem? (i := 621) (by decide +kernel)⟩
theorem lw_p5 : lw_okq (⟨"LotSales", "tryCancel", "(II)I"⟩, 7) := ⟨⟨by decide +kernel, by decide +kernel⟩, List.mem_of_getElem? (i := 24) (by decide +kernel), List.mem_of_getElem? (i := 686) (by decide +kernel), List.mem_of_getElem? (i := 687) (by decide +kernel)⟩
theorem lw_p6 : lw_okq (⟨"LotSales", "tryOpen", "(I)I"⟩, 7) := ⟨⟨by decide +kernel, by decide +kernel⟩, List.mem_of_getElem? (i := 24) (by decide +kernel), List.mem_of_getElem? (i := 712) (by decide +kernel), List.mem_of_getElem? (i := 713) (by decide +kernel)⟩
theorem lw_p7 : lw_okq (⟨"LotSales", "tryBid", "(III)I"⟩, 7) := ⟨⟨by decide +kernel, by decide +kernel⟩, List.mem_of_getElem? (i := 24) (by decide +kernel), List.mem_of_getElem? (i := 744) (by decide +kernel), List.mem_of_getElem? (i := 745) (by decide +kernel)⟩
theorem lw_p8 : lw_okq (⟨"LotSales", "bidReason", "(LLotSales$Lot;II)I"⟩, 7) := ⟨⟨by decide +kernel, by decide +kernel⟩, List.mem_of_getElem? (i := 24) (by decide +kernel), List.mem_of_getElem? (i := 748) (by decide +kernel), List.mem_of_getElem? (i := 749) (by decide +kernel)⟩
theorem lw_p9 : lw_okq (⟨"LotSales", "exposureOf", "(I)I"⟩, 7) := ⟨⟨by decide +kernel, by decide +kernel⟩, List.mem_of_getElem? (i := 24) (by decide +kernel), List.mem_of_getElem? (i := 756) (by decide +kernel), List.mem_of_getElem? (i := 757) (by decide +kernel)⟩
theorem lw_p10 : lw_okq (⟨"LotSales", "tryClose", "(I)I"⟩, 7) := ⟨⟨by decide +kernel, by decide +kernel⟩, List.mem_of_getElem? (i := 24) (by decide +kernel), List.mem_of_getElem? (i := 830) (by decide +kernel), List.mem_of_getElem? (i := 831) (by decide +kernel)⟩
theorem lw_p11 : lw_okq (⟨"LotSales", "buyIn", "(ILLotSales$Lot;)V"⟩, 7) := ⟨⟨by decide +kernel, by decide +kernel⟩, List.mem_of_getElem? (i := 24) (by decide +kernel), List.mem_of_getElem? (i := 835) (by decide +kernel), List.mem_of_getElem? (i := 836) (by decide +kernel)⟩
theorem lw_p12 : lw_okq (⟨"LotSales", "tryWithdraw", "(I)I"⟩, 7) := ⟨⟨by decide +kernel, by decide +kernel⟩, List.mem_of_getElem? (i := 24) (by decide +kernel), List.mem_of_getElem? (i := 857) (by decide +kernel), List.mem_of_getElem? (i := 858) (by decide +kernel)⟩
theorem lw_p13 : lw_okq (⟨"LotSales", "leadsOf", "(I)I"⟩, 7) := ⟨⟨by decide +kernel, by decide +kernel⟩, List.mem_of_getElem? (i := 24) (by decide +kernel), List.mem_of_getElem? (i := 954) (by decide +kernel), List.mem_of_getElem? (i := 955) (by decide +kernel)⟩
theorem lw_p14 : lw_okq (⟨"LotSales", "carryOut", "()I"⟩, 7) := ⟨⟨by decide +kernel, by decide +kernel⟩, List.mem_of_getElem? (i := 24) (by decide +kernel), List.mem_of_getElem? (i := 1085) (by decide +kernel), List.mem_of_getElem? (i := 1086) (by decide +kernel)⟩
theorem lw_p15 : lw_okq (⟨"LotSalesModel", "keep", "()V"⟩, 18) := ⟨⟨by decide +kernel, by decide +kernel⟩, List.mem_of_getElem? (i := 1117) (by decide +kernel), List.mem_of_getElem? (i := 1186) (by decide +kernel), List.mem_of_getElem? (i := 1187) (by decide +kernel)⟩
def lw_privs_1 : List (MethodName × Nat) := [(⟨"java/lang/Throwable", "fillInStackTrace", "(I)Ljava/lang/Throwable;"⟩, 6), (⟨"LotSales", "needRoomForLots", "(I)V"⟩, 7), (⟨"LotSales", "needLot", "(I)V"⟩, 7), (⟨"LotSales", "tryOrder", "(III)I"⟩, 7), (⟨"LotSales", "orderReason", "(LLotSales$Lot;II)I"⟩, 7), (⟨"LotSales", "tryCancel", "(II)I"⟩, 7), (⟨"LotSales", "tryOpen", "(I)I"⟩, 7), (⟨"LotSales", "tryBid", "(III)I"⟩, 7), (⟨"LotSales", "bidReason", "(LLotSales$Lot;II)I"⟩, 7), (⟨"LotSales", "exposureOf", "(I)I"⟩, 7), (⟨"LotSales", "tryClose", "(I)I"⟩, 7), (⟨"LotSales", "buyIn", "(ILLotSales$Lot;)V"⟩, 7), (⟨"LotSales", "tryWithdraw", "(I)I"⟩, 7), (⟨"LotSales", "leadsOf", "(I)I"⟩, 7), (⟨"LotSales", "carryOut", "()I"⟩, 7), (⟨"LotSalesModel", "keep", "()V"⟩, 18)]
theorem lw_r1 : ∀ q ∈ lw_privs_1, lw_okq q := List.forall_mem_cons.mpr ⟨lw_p0, List.forall_mem_cons.mpr ⟨lw_p1, List.forall_mem_cons.mpr ⟨lw_p2, List.forall_mem_cons.mpr ⟨lw_p3, List.forall_mem_cons.mpr ⟨lw_p4, List.forall_mem_cons.mpr ⟨lw_p5, List.forall_mem_cons.mpr ⟨lw_p6, List.forall_mem_cons.mpr ⟨lw_p7, List.forall_mem_cons.mpr ⟨lw_p8, List.forall_mem_cons.mpr ⟨lw_p9, List.forall_mem_cons.mpr ⟨lw_p10, List.forall_mem_cons.mpr ⟨lw_p11, List.forall_mem_cons.mpr ⟨lw_p12, List.forall_mem_cons.mpr ⟨lw_p13, List.forall_mem_cons.mpr ⟨lw_p14, List.forall_mem_cons.mpr ⟨lw_p15, fun _ h => absurd h List.not_mem_nil⟩⟩⟩⟩⟩⟩⟩⟩⟩⟩⟩⟩⟩⟩⟩⟩
theorem lw_p16 : lw_okq (⟨"LotSalesModel", "makeLot", "(III)I"⟩, 18) := ⟨⟨by decide +kernel, by decide +kernel⟩, List.mem_of_getElem? (i := 1117) (by decide +kernel), List.mem_of_getElem? (i := 1190) (by decide +kernel), List.mem_of_getElem? (i := 1191) (by decide +kernel)⟩
theorem lw_p17 : lw_okq (⟨"LotSalesModel", "set", "(III)V"⟩, 18) := ⟨⟨by decide +kernel, by decide +kernel⟩, List.mem_of_getElem? (i := 1117) (by decide +kernel), List.mem_of_getElem? (i := 1194) (by decide +kernel), List.mem_of_getElem? (i := 1195) (by decide +kernel)⟩
theorem lw_p18 : lw_okq (⟨"LotSalesModel", "putOrder", "(IIII)V"⟩, 18) := ⟨⟨by decide +kernel, by decide +kernel⟩, List.mem_of_getElem? (i := 1117) (by decide +kernel), List.mem_of_getElem? (i := 1198) (by decide +kernel), List.mem_of_getElem? (i := 1199) (by decide +kernel)⟩
theorem lw_p19 : lw_okq (⟨"LotSalesModel", "putBid", "(IIII)V"⟩, 18) := ⟨⟨by decide +kernel, by decide +kernel⟩, List.mem_of_getElem? (i := 1117) (by decide +kernel), List.mem_of_getElem? (i := 1202) (by decide +kernel), List.mem_of_getElem? (i := 1203) (by decide +kernel)⟩
theorem lw_p20 : lw_okq (⟨"LotSalesModel", "isLot", "(I)Z"⟩, 18) := ⟨⟨by decide +kernel, by decide +kernel⟩, List.mem_of_getElem? (i := 1117) (by decide +kernel), List.mem_of_getElem? (i := 1210) (by decide +kernel), List.mem_of_getElem? (i := 1211) (by decide +kernel)⟩
theorem lw_p21 : lw_okq (⟨"LotSalesModel", "at", "(II)I"⟩, 18) := ⟨⟨by decide +kernel, by decide +kernel⟩, List.mem_of_getElem? (i := 1117) (by decide +kernel), List.mem_of_getElem? (i := 1214) (by decide +kernel), List.mem_of_getElem? (i := 1215) (by decide +kernel)⟩
theorem lw_p22 : lw_okq (⟨"LotSalesModel", "fail", "(I)I"⟩, 18) := ⟨⟨by decide +kernel, by decide +kernel⟩, List.mem_of_getElem? (i := 1117) (by decide +kernel), List.mem_of_getElem? (i := 1222) (by decide +kernel), List.mem_of_getElem? (i := 1223) (by decide +kernel)⟩
theorem lw_p23 : lw_okq (⟨"LotSalesModel", "hasOpenLot", "()Z"⟩, 18) := ⟨⟨by decide +kernel, by decide +kernel⟩, List.mem_of_getElem? (i := 1117) (by decide +kernel), List.mem_of_getElem? (i := 1230) (by decide +kernel), List.mem_of_getElem? (i := 1231) (by decide +kernel)⟩
theorem lw_p24 : lw_okq (⟨"LotSalesModel", "stepBelow", "(I)I"⟩, 18) := ⟨⟨by decide +kernel, by decide +kernel⟩, List.mem_of_getElem? (i := 1117) (by decide +kernel), List.mem_of_getElem? (i := 1243) (by decide +kernel), List.mem_of_getElem? (i := 1244) (by decide +kernel)⟩
theorem lw_p25 : lw_okq (⟨"LotSalesModel", "rowOf", "(I)I"⟩, 18) := ⟨⟨by decide +kernel, by decide +kernel⟩, List.mem_of_getElem? (i := 1117) (by decide +kernel), List.mem_of_getElem? (i := 1247) (by decide +kernel), List.mem_of_getElem? (i := 1248) (by decide +kernel)⟩
theorem lw_p26 : lw_okq (⟨"LotSalesModel", "stepAbove", "(I)I"⟩, 18) := ⟨⟨by decide +kernel, by decide +kernel⟩, List.mem_of_getElem? (i := 1117) (by decide +kernel), List.mem_of_getElem? (i := 1256) (by decide +kernel), List.mem_of_getElem? (i := 1257) (by decide +kernel)⟩
theorem lw_p27 : lw_okq (⟨"LotSalesModel", "orderRefusal", "(III)I"⟩, 18) := ⟨⟨by decide +kernel, by decide +kernel⟩, List.mem_of_getElem? (i := 1117) (by decide +kernel), List.mem_of_getElem? (i := 1272) (by decide +kernel), List.mem_of_getElem? (i := 1273) (by decide +kernel)⟩
theorem lw_p28 : lw_okq (⟨"LotSalesModel", "allOrders", "()I"⟩, 18) := ⟨⟨by decide +kernel, by decide +kernel⟩, List.mem_of_getElem? (i := 1117) (by decide +kernel), List.mem_of_getElem? (i := 1276) (by decide +kernel), List.mem_of_getElem? (i := 1277) (by decide +kernel)⟩
theorem lw_p29 : lw_okq (⟨"LotSalesModel", "ordersOf", "(I)I"⟩, 18) := ⟨⟨by decide +kernel, by decide +kernel⟩, List.mem_of_getElem? (i := 1117) (by decide +kernel), List.mem_of_getElem? (i := 1280) (by decide +kernel), List.mem_of_getElem? (i := 1281) (by decide +kernel)⟩
theorem lw_p30 : lw_okq (⟨"LotSalesModel", "orderOf", "(II)I"⟩, 18) := ⟨⟨by decide +kernel, by decide +kernel⟩, List.mem_of_getElem? (i := 1117) (by decide +kernel), List.mem_of_getElem? (i := 1284) (by decide +kernel), List.mem_of_getElem? (i := 1285) (by decide +kernel)⟩
theorem lw_p31 : lw_okq (⟨"LotSalesModel", "nextNumber", "()I"⟩, 18) := ⟨⟨by decide +kernel, by decide +kernel⟩, List.mem_of_getElem? (i := 1117) (by decide +kernel), List.mem_of_getElem? (i := 1288) (by decide +kernel), List.mem_of_getElem? (i := 1289) (by decide +kernel)⟩
def lw_privs_2 : List (MethodName × Nat) := [(⟨"LotSalesModel", "makeLot", "(III)I"⟩, 18), (⟨"LotSalesModel", "set", "(III)V"⟩, 18), (⟨"LotSalesModel", "putOrder", "(IIII)V"⟩, 18), (⟨"LotSalesModel", "putBid", "(IIII)V"⟩, 18), (⟨"LotSalesModel", "isLot", "(I)Z"⟩, 18), (⟨"LotSalesModel", "at", "(II)I"⟩, 18), (⟨"LotSalesModel", "fail", "(I)I"⟩, 18), (⟨"LotSalesModel", "hasOpenLot", "()Z"⟩, 18), (⟨"LotSalesModel", "stepBelow", "(I)I"⟩, 18), (⟨"LotSalesModel", "rowOf", "(I)I"⟩, 18), (⟨"LotSalesModel", "stepAbove", "(I)I"⟩, 18), (⟨"LotSalesModel", "orderRefusal", "(III)I"⟩, 18), (⟨"LotSalesModel", "allOrders", "()I"⟩, 18), (⟨"LotSalesModel", "ordersOf", "(I)I"⟩, 18), (⟨"LotSalesModel", "orderOf", "(II)I"⟩, 18), (⟨"LotSalesModel", "nextNumber", "()I"⟩, 18)]
theorem lw_r2 : ∀ q ∈ lw_privs_2, lw_okq q := List.forall_mem_cons.mpr ⟨lw_p16, List.forall_mem_cons.mpr ⟨lw_p17, List.forall_mem_cons.mpr ⟨lw_p18, List.forall_mem_cons.mpr ⟨lw_p19, List.forall_mem_cons.mpr ⟨lw_p20, List.forall_mem_cons.mpr ⟨lw_p21, List.forall_mem_cons.mpr ⟨lw_p22, List.forall_mem_cons.mpr ⟨lw_p23, List.forall_mem_cons.mpr ⟨lw_p24, List.forall_mem_cons.mpr ⟨lw_p25, List.forall_mem_cons.mpr ⟨lw_p26, List.forall_mem_cons.mpr ⟨lw_p27, List.forall_mem_cons.mpr ⟨lw_p28, List.forall_mem_cons.mpr ⟨lw_p29, List.forall_mem_cons.mpr ⟨lw_p30, List.forall_mem_cons.mpr ⟨lw_p31, fun _ h => absurd h List.not_mem_nil⟩⟩⟩⟩⟩⟩⟩⟩⟩⟩⟩⟩⟩⟩⟩⟩
theorem lw_p32 : lw_okq (⟨"LotSalesModel", "note", "(IIII)V"⟩, 18) := ⟨⟨by decide +kernel, by decide +kernel⟩, List.mem_of_getElem? (i := 1117) (by decide +kernel), List.mem_of_getElem? (i := 1292) (by decide +kernel), List.mem_of_getElem? (i := 1293) (by decide +kernel)⟩
theorem lw_p33 : lw_okq (⟨"LotSalesModel", "stand", "(I)V"⟩, 18) := ⟨⟨by decide +kernel, by decide +kernel⟩, List.mem_of_getElem? (i := 1117) (by decide +kernel), List.mem_of_getElem? (i := 1312) (by decide +kernel), List.mem_of_getElem? (i := 1313) (by decide +kernel)⟩
theorem lw_p34 : lw_okq (⟨"LotSalesModel", "houseLimit", "(I)I"⟩, 18) := ⟨⟨by decide +kernel, by decide +kernel⟩, List.mem_of_getElem? (i := 1117) (by decide +kernel), List.mem_of_getElem? (i := 1316) (by decide +kernel), List.mem_of_getElem? (i := 1317) (by decide +kernel)⟩
theorem lw_p35 : lw_okq (⟨"LotSalesModel", "ranked", "(II)I"⟩, 18) := ⟨⟨by decide +kernel, by decide +kernel⟩, List.mem_of_getElem? (i := 1117) (by decide +kernel), List.mem_of_getElem? (i := 1320) (by decide +kernel), List.mem_of_getElem? (i := 1321) (by decide +kernel)⟩
theorem lw_p36 : lw_okq (⟨"LotSalesModel", "limitOf", "(II)I"⟩, 18) := ⟨⟨by decide +kernel, by decide +kernel⟩, List.mem_of_getElem? (i := 1117) (by decide +kernel), List.mem_of_getElem? (i := 1324) (by decide +kernel), List.mem_of_getElem? (i := 1325) (by decide +kernel)⟩
theorem lw_p37 : lw_okq (⟨"LotSalesModel", "isAhead", "(III)Z"⟩, 18) := ⟨⟨by decide +kernel, by decide +kernel⟩, List.mem_of_getElem? (i := 1117) (by decide +kernel), List.mem_of_getElem? (i := 1329) (by decide +kernel), List.mem_of_getElem? (i := 1330) (by decide +kernel)⟩
theorem lw_p38 : lw_okq (⟨"LotSalesModel", "timeOf", "(II)I"⟩, 18) := ⟨⟨by decide +kernel, by decide +kernel⟩, List.mem_of_getElem? (i := 1117) (by decide +kernel), List.mem_of_getElem? (i := 1333) (by decide +kernel), List.mem_of_getElem? (i := 1334) (by decide +kernel)⟩
theorem lw_p39 : lw_okq (⟨"LotSalesModel", "bidRefusal", "(III)I"⟩, 18) := ⟨⟨by decide +kernel, by decide +kernel⟩, List.mem_of_getElem? (i := 1117) (by decide +kernel), List.mem_of_getElem? (i := 1342) (by decide +kernel), List.mem_of_getElem? (i := 1343) (by decide +kernel)⟩
theorem lw_p40 : lw_okq (⟨"LotSalesModel", "isLeading", "(II)Z"⟩, 18) := ⟨⟨by decide +kernel, by decide +kernel⟩, List.mem_of_getElem? (i := 1117) (by decide +kernel), List.mem_of_getElem? (i := 1346) (by decide +kernel), List.mem_of_getElem? (i := 1347) (by decide +kernel)⟩
theorem lw_p41 : lw_okq (⟨"LotSalesModel", "isStep", "(I)Z"⟩, 18) := ⟨⟨by decide +kernel, by decide +kernel⟩, List.mem_of_getElem? (i := 1117) (by decide +kernel), List.mem_of_getElem? (i := 1350) (by decide +kernel), List.mem_of_getElem? (i := 1351) (by decide +kernel)⟩
theorem lw_p42 : lw_okq (⟨"LotSalesModel", "exposureOf", "(I)I"⟩, 18) := ⟨⟨by decide +kernel, by decide +kernel⟩, List.mem_of_getElem? (i := 1117) (by decide +kernel), List.mem_of_getElem? (i := 1354) (by decide +kernel), List.mem_of_getElem? (i := 1355) (by decide +kernel)⟩
theorem lw_p43 : lw_okq (⟨"LotSalesModel", "boughtBy", "(II)I"⟩, 18) := ⟨⟨by decide +kernel, by decide +kernel⟩, List.mem_of_getElem? (i := 1117) (by decide +kernel), List.mem_of_getElem? (i := 1358) (by decide +kernel), List.mem_of_getElem? (i := 1359) (by decide +kernel)⟩
theorem lw_p44 : lw_okq (⟨"LotSalesModel", "isMet", "(I)Z"⟩, 18) := ⟨⟨by decide +kernel, by decide +kernel⟩, List.mem_of_getElem? (i := 1117) (by decide +kernel), List.mem_of_getElem? (i := 1377) (by decide +kernel), List.mem_of_getElem? (i := 1378) (by decide +kernel)⟩
theorem lw_p45 : lw_okq (⟨"LotSalesModel", "countingLimits", "(I)I"⟩, 18) := ⟨⟨by decide +kernel, by decide +kernel⟩, List.mem_of_getElem? (i := 1117) (by decide +kernel), List.mem_of_getElem? (i := 1381) (by decide +kernel), List.mem_of_getElem? (i := 1382) (by decide +kernel)⟩
theorem lw_p46 : lw_okq (⟨"LotSalesModel", "removeOrders", "(I)I"⟩, 18) := ⟨⟨by decide +kernel, by decide +kernel⟩, List.mem_of_getElem? (i := 1117) (by decide +kernel), List.mem_of_getElem? (i := 1397) (by decide +kernel), List.mem_of_getElem? (i := 1398) (by decide +kernel)⟩
theorem lw_p47 : lw_okq (⟨"LotSalesModel", "splitOrders", "(II)I"⟩, 18) := ⟨⟨by decide +kernel, by decide +kernel⟩, List.mem_of_getElem? (i := 1117) (by decide +kernel), List.mem_of_getElem? (i := 1413) (by decide +kernel), List.mem_of_getElem? (i := 1414) (by decide +kernel)⟩
def lw_privs_3 : List (MethodName × Nat) := [(⟨"LotSalesModel", "note", "(IIII)V"⟩, 18), (⟨"LotSalesModel", "stand", "(I)V"⟩, 18), (⟨"LotSalesModel", "houseLimit", "(I)I"⟩, 18), (⟨"LotSalesModel", "ranked", "(II)I"⟩, 18), (⟨"LotSalesModel", "limitOf", "(II)I"⟩, 18), (⟨"LotSalesModel", "isAhead", "(III)Z"⟩, 18), (⟨"LotSalesModel", "timeOf", "(II)I"⟩, 18), (⟨"LotSalesModel", "bidRefusal", "(III)I"⟩, 18), (⟨"LotSalesModel", "isLeading", "(II)Z"⟩, 18), (⟨"LotSalesModel", "isStep", "(I)Z"⟩, 18), (⟨"LotSalesModel", "exposureOf", "(I)I"⟩, 18), (⟨"LotSalesModel", "boughtBy", "(II)I"⟩, 18), (⟨"LotSalesModel", "isMet", "(I)Z"⟩, 18), (⟨"LotSalesModel", "countingLimits", "(I)I"⟩, 18), (⟨"LotSalesModel", "removeOrders", "(I)I"⟩, 18), (⟨"LotSalesModel", "splitOrders", "(II)I"⟩, 18)]
theorem lw_r3 : ∀ q ∈ lw_privs_3, lw_okq q := List.forall_mem_cons.mpr ⟨lw_p32, List.forall_mem_cons.mpr ⟨lw_p33, List.forall_mem_cons.mpr ⟨lw_p34, List.forall_mem_cons.mpr ⟨lw_p35, List.forall_mem_cons.mpr ⟨lw_p36, List.forall_mem_cons.mpr ⟨lw_p37, List.forall_mem_cons.mpr ⟨lw_p38, List.forall_mem_cons.mpr ⟨lw_p39, List.forall_mem_cons.mpr ⟨lw_p40, List.forall_mem_cons.mpr ⟨lw_p41, List.forall_mem_cons.mpr ⟨lw_p42, List.forall_mem_cons.mpr ⟨lw_p43, List.forall_mem_cons.mpr ⟨lw_p44, List.forall_mem_cons.mpr ⟨lw_p45, List.forall_mem_cons.mpr ⟨lw_p46, List.forall_mem_cons.mpr ⟨lw_p47, fun _ h => absurd h List.not_mem_nil⟩⟩⟩⟩⟩⟩⟩⟩⟩⟩⟩⟩⟩⟩⟩⟩
theorem lw_p48 : lw_okq (⟨"LotSalesModel", "leads", "(I)I"⟩, 18) := ⟨⟨by decide +kernel, by decide +kernel⟩, List.mem_of_getElem? (i := 1117) (by decide +kernel), List.mem_of_getElem? (i := 1443) (by decide +kernel), List.mem_of_getElem? (i := 1444) (by decide +kernel)⟩
theorem lw_p49 : lw_okq (⟨"LotSalesModel", "gets", "(I)I"⟩, 18) := ⟨⟨by decide +kernel, by decide +kernel⟩, List.mem_of_getElem? (i := 1117) (by decide +kernel), List.mem_of_getElem? (i := 1451) (by decide +kernel), List.mem_of_getElem? (i := 1452) (by decide +kernel)⟩
theorem lw_p50 : lw_okq (⟨"LotSalesModel", "soldBy", "(II)I"⟩, 18) := ⟨⟨by decide +kernel, by decide +kernel⟩, List.mem_of_getElem? (i := 1117) (by decide +kernel), List.mem_of_getElem? (i := 1455) (by decide +kernel), List.mem_of_getElem? (i := 1456) (by decide +kernel)⟩
theorem lw_p51 : lw_okq (⟨"LotSalesModel", "eventsOf", "(I)I"⟩, 18) := ⟨⟨by decide +kernel, by decide +kernel⟩, List.mem_of_getElem? (i := 1117) (by decide +kernel), List.mem_of_getElem? (i := 1470) (by decide +kernel), List.mem_of_getElem? (i := 1471) (by decide +kernel)⟩
theorem lw_p52 : lw_okq (⟨"LotSalesModel", "sumOf", "(III)I"⟩, 18) := ⟨⟨by decide +kernel, by decide +kernel⟩, List.mem_of_getElem? (i := 1117) (by decide +kernel), List.mem_of_getElem? (i := 1486) (by decide +kernel), List.mem_of_getElem? (i := 1487) (by decide +kernel)⟩
theorem lw_p53 : lw_okq (⟨"LotSalesModel", "command", "()V"⟩, 18) := ⟨⟨by decide +kernel, by decide +kernel⟩, List.mem_of_getElem? (i := 1117) (by decide +kernel), List.mem_of_getElem? (i := 1498) (by decide +kernel), List.mem_of_getElem? (i := 1499) (by decide +kernel)⟩
theorem lw_p54 : lw_okq (⟨"LotSalesModel", "sign", "()I"⟩, 18) := ⟨⟨by decide +kernel, by decide +kernel⟩, List.mem_of_getElem? (i := 1117) (by decide +kernel), List.mem_of_getElem? (i := 1502) (by decide +kernel), List.mem_of_getElem? (i := 1503) (by decide +kernel)⟩
theorem lw_p55 : lw_okq (⟨"LotSalesModel", "faultHere", "()V"⟩, 18) := ⟨⟨by decide +kernel, by decide +kernel⟩, List.mem_of_getElem? (i := 1117) (by decide +kernel), List.mem_of_getElem? (i := 1509) (by decide +kernel), List.mem_of_getElem? (i := 1510) (by decide +kernel)⟩
theorem lw_p56 : lw_okq (⟨"LotSalesModel", "goes", "(C)Z"⟩, 18) := ⟨⟨by decide +kernel, by decide +kernel⟩, List.mem_of_getElem? (i := 1117) (by decide +kernel), List.mem_of_getElem? (i := 1513) (by decide +kernel), List.mem_of_getElem? (i := 1514) (by decide +kernel)⟩
theorem lw_p57 : lw_okq (⟨"LotSalesModel", "number", "()I"⟩, 18) := ⟨⟨by decide +kernel, by decide +kernel⟩, List.mem_of_getElem? (i := 1117) (by decide +kernel), List.mem_of_getElem? (i := 1517) (by decide +kernel), List.mem_of_getElem? (i := 1518) (by decide +kernel)⟩
theorem lw_p58 : lw_okq (⟨"LotSalesModel", "carryOut", "(I)V"⟩, 18) := ⟨⟨by decide +kernel, by decide +kernel⟩, List.mem_of_getElem? (i := 1117) (by decide +kernel), List.mem_of_getElem? (i := 1521) (by decide +kernel), List.mem_of_getElem? (i := 1522) (by decide +kernel)⟩
def lw_privs_4 : List (MethodName × Nat) := [(⟨"LotSalesModel", "leads", "(I)I"⟩, 18), (⟨"LotSalesModel", "gets", "(I)I"⟩, 18), (⟨"LotSalesModel", "soldBy", "(II)I"⟩, 18), (⟨"LotSalesModel", "eventsOf", "(I)I"⟩, 18), (⟨"LotSalesModel", "sumOf", "(III)I"⟩, 18), (⟨"LotSalesModel", "command", "()V"⟩, 18), (⟨"LotSalesModel", "sign", "()I"⟩, 18), (⟨"LotSalesModel", "faultHere", "()V"⟩, 18), (⟨"LotSalesModel", "goes", "(C)Z"⟩, 18), (⟨"LotSalesModel", "number", "()I"⟩, 18), (⟨"LotSalesModel", "carryOut", "(I)V"⟩, 18)]
theorem lw_r4 : ∀ q ∈ lw_privs_4, lw_okq q := List.forall_mem_cons.mpr ⟨lw_p48, List.forall_mem_cons.mpr ⟨lw_p49, List.forall_mem_cons.mpr ⟨lw_p50, List.forall_mem_cons.mpr ⟨lw_p51, List.forall_mem_cons.mpr ⟨lw_p52, List.forall_mem_cons.mpr ⟨lw_p53, List.forall_mem_cons.mpr ⟨lw_p54, List.forall_mem_cons.mpr ⟨lw_p55, List.forall_mem_cons.mpr ⟨lw_p56, List.forall_mem_cons.mpr ⟨lw_p57, List.forall_mem_cons.mpr ⟨lw_p58, fun _ h => absurd h List.not_mem_nil⟩⟩⟩⟩⟩⟩⟩⟩⟩⟩⟩
def lw_privs : List (MethodName × Nat) := lw_privs_1 ++ (lw_privs_2 ++ (lw_privs_3 ++ (lw_privs_4)))
def lw_tbl : List Cond := k2_sels lw_privs ++ tables_1
theorem lw_privs_ok : ∀ q ∈ lw_privs, lw_okq q := by
  show ∀ q ∈ lw_privs_1 ++ (lw_privs_2 ++ (lw_privs_3 ++ (lw_privs_4))), lw_okq q
  exact List.forall_mem_append.mpr ⟨lw_r1, List.forall_mem_append.mpr ⟨lw_r2, List.forall_mem_append.mpr ⟨lw_r3, lw_r4⟩⟩⟩
/-- the streams that the claim lets the run draw from -/
abbrev lw_cs : List Choice := [Jvm.Choice.named "NaN.bits"]
theorem lw_bits : nanBits ∈ lw_cs := by first | decide | exact List.mem_cons_self | simp [lw_cs, nanBits]
-- ===== end of PART A; then your names; then what follows =====
end
section
def RX0 : String := "LotSales$History"
def TX0 : u_T := fun k => match k with
  | 0 => ("LotSales$History", "kept", "[LLotSales$Sale;", true)
  | 1 => ("LotSales$History", "next", "I", false)
  | _ => ("LotSales$History", "count", "I", false)
def tyX0 : Nat → FieldType := fun k => match k with
  | 0 => .array (.object "LotSales$Sale")
  | 1 => .int
  | _ => .int
theorem nmX0 : ∀ a, a < 3 → ∀ b, b < 3 → a ≠ b → (TX0 a).2.1 ≠ (TX0 b).2.1 := by decide +kernel
theorem tyX0_ok : ∀ k, k < 3 → parseFieldDescriptor (TX0 k).2.2.1 = some (tyX0 k) := by decide +kernel
abbrev cX0_init : ByteArray := prog_2_method_1_code
def yX0_init : MethodName := ⟨RX0, "<init>", "()V"⟩
abbrev cX0_keep : ByteArray := prog_2_method_2_code
def yX0_keep : MethodName := ⟨RX0, "keep", "(LLotSales$Sale;)V"⟩
abbrev cX0_giveBack : ByteArray := prog_2_method_3_code
def yX0_giveBack : MethodName := ⟨RX0, "giveBack", "(LLotSales$Sale;)V"⟩
abbrev cX0_forget : ByteArray := prog_2_method_4_code
def yX0_forget : MethodName := ⟨RX0, "forget", "()V"⟩
def RX1 : String := "LotSales$Ledger"
def TX1 : u_T := fun k => match k with
  | 0 => ("LotSales$Ledger", "kinds", "[I", true)
  | 1 => ("LotSales$Ledger", "lots", "[I", true)
  | 2 => ("LotSales$Ledger", "bidders", "[I", true)
  | 3 => ("LotSales$Ledger", "amounts", "[I", true)
  | _ => ("LotSales$Ledger", "count", "I", false)
def tyX1 : Nat → FieldType := fun k => match k with
  | 0 => .array .int
  | 1 => .array .int
  | 2 => .array .int
  | 3 => .array .int
  | _ => .int
theorem nmX1 : ∀ a, a < 5 → ∀ b, b < 5 → a ≠ b → (TX1 a).2.1 ≠ (TX1 b).2.1 := by decide +kernel
theorem tyX1_ok : ∀ k, k < 5 → parseFieldDescriptor (TX1 k).2.2.1 = some (tyX1 k) := by decide +kernel
abbrev cX1_init : ByteArray := prog_3_method_1_code
def yX1_init : MethodName := ⟨RX1, "<init>", "()V"⟩
abbrev cX1_take : ByteArray := prog_3_method_2_code
def yX1_take : MethodName := ⟨RX1, "take", "(LLotSales$Ledger;)V"⟩
abbrev cX1_note : ByteArray := prog_3_method_3_code
def yX1_note : MethodName := ⟨RX1, "note", "(IIII)V"⟩
abbrev cX1_countOf : ByteArray := prog_3_method_4_code
def yX1_countOf : MethodName := ⟨RX1, "countOf", "(I)I"⟩
abbrev cX1_pricesTo : ByteArray := prog_3_method_5_code
def yX1_pricesTo : MethodName := ⟨RX1, "pricesTo", "(I)I"⟩
def RX2 : String := "LotSales$Lot"
def TX2 : u_T := fun k => match k with
  | 0 => ("LotSales$Lot", "maximums", "[I", true)
  | 1 => ("LotSales$Lot", "orderNumbers", "[I", true)
  | 2 => ("LotSales$Lot", "bids", "[I", true)
  | 3 => ("LotSales$Lot", "bidNumbers", "[I", true)
  | 4 => ("LotSales$Lot", "state", "I", false)
  | 5 => ("LotSales$Lot", "seller", "I", false)
  | 6 => ("LotSales$Lot", "quantity", "I", false)
  | 7 => ("LotSales$Lot", "reserve", "I", false)
  | 8 => ("LotSales$Lot", "openings", "I", false)
  | 9 => ("LotSales$Lot", "closing", "I", false)
  | 10 => ("LotSales$Lot", "buyer", "I", false)
  | _ => ("LotSales$Lot", "price", "I", false)
def tyX2 : Nat → FieldType := fun k => match k with
  | 0 => .array .int
  | 1 => .array .int
  | 2 => .array .int
  | 3 => .array .int
  | 4 => .int
  | 5 => .int
  | 6 => .int
  | 7 => .int
  | 8 => .int
  | 9 => .int
  | 10 => .int
  | _ => .int
theorem nmX2 : ∀ a, a < 12 → ∀ b, b < 12 → a ≠ b → (TX2 a).2.1 ≠ (TX2 b).2.1 := by decide +kernel
theorem tyX2_ok : ∀ k, k < 12 → parseFieldDescriptor (TX2 k).2.2.1 = some (tyX2 k) := by decide +kernel
abbrev cX2_init : ByteArray := prog_4_method_1_code
def yX2_init : MethodName := ⟨RX2, "<init>", "()V"⟩
abbrev cX2_begin : ByteArray := prog_4_method_2_code
def yX2_begin : MethodName := ⟨RX2, "begin", "(III)V"⟩
abbrev cX2_take : ByteArray := prog_4_method_3_code
def yX2_take : MethodName := ⟨RX2, "take", "(LLotSales$Lot;)V"⟩
abbrev cX2_putOrder : ByteArray := prog_4_method_4_code
def yX2_putOrder : MethodName := ⟨RX2, "putOrder", "(III)V"⟩
abbrev cX2_putBid : ByteArray := prog_4_method_5_code
def yX2_putBid : MethodName := ⟨RX2, "putBid", "(III)V"⟩
abbrev cX2_orderCount : ByteArray := prog_4_method_6_code
def yX2_orderCount : MethodName := ⟨RX2, "orderCount", "()I"⟩
abbrev cX2_removeOrders : ByteArray := prog_4_method_7_code
def yX2_removeOrders : MethodName := ⟨RX2, "removeOrders", "()V"⟩
abbrev cX2_removeBids : ByteArray := prog_4_method_8_code
def yX2_removeBids : MethodName := ⟨RX2, "removeBids", "()V"⟩
abbrev cX2_sell : ByteArray := prog_4_method_9_code
def yX2_sell : MethodName := ⟨RX2, "sell", "(II)V"⟩
abbrev cX2_quantityOfPart : ByteArray := prog_4_method_10_code
def yX2_quantityOfPart : MethodName := ⟨RX2, "quantityOfPart", "(II)I"⟩
abbrev cX2_share : ByteArray := prog_4_method_11_code
def yX2_share : MethodName := ⟨RX2, "share", "(II)I"⟩
abbrev cX2_ordersOfParts : ByteArray := prog_4_method_12_code
def yX2_ordersOfParts : MethodName := ⟨RX2, "ordersOfParts", "(I)I"⟩
def RX3 : String := "LotSales$Sale"
def TX3 : u_T := fun k => match k with
  | 0 => ("LotSales$Sale", "table", "LLotSales$Table;", true)
  | 1 => ("LotSales$Sale", "credits", "[I", true)
  | 2 => ("LotSales$Sale", "fees", "[I", true)
  | 3 => ("LotSales$Sale", "lots", "[LLotSales$Lot;", true)
  | 4 => ("LotSales$Sale", "ledger", "LLotSales$Ledger;", true)
  | 5 => ("LotSales$Sale", "lotCount", "I", false)
  | _ => ("LotSales$Sale", "numbers", "I", false)
def tyX3 : Nat → FieldType := fun k => match k with
  | 0 => .object "LotSales$Table"
  | 1 => .array .int
  | 2 => .array .int
  | 3 => .array (.object "LotSales$Lot")
  | 4 => .object "LotSales$Ledger"
  | 5 => .int
  | _ => .int
theorem nmX3 : ∀ a, a < 7 → ∀ b, b < 7 → a ≠ b → (TX3 a).2.1 ≠ (TX3 b).2.1 := by decide +kernel
theorem tyX3_ok : ∀ k, k < 7 → parseFieldDescriptor (TX3 k).2.2.1 = some (tyX3 k) := by decide +kernel
abbrev cX3_init : ByteArray := prog_5_method_1_code
def yX3_init : MethodName := ⟨RX3, "<init>", "()V"⟩
abbrev cX3_take : ByteArray := prog_5_method_2_code
def yX3_take : MethodName := ⟨RX3, "take", "(LLotSales$Sale;)V"⟩
abbrev cX3_has : ByteArray := prog_5_method_3_code
def yX3_has : MethodName := ⟨RX3, "has", "(I)Z"⟩
abbrev cX3_nextNumber : ByteArray := prog_5_method_4_code
def yX3_nextNumber : MethodName := ⟨RX3, "nextNumber", "()I"⟩
abbrev cX3_makeLot : ByteArray := prog_5_method_5_code
def yX3_makeLot : MethodName := ⟨RX3, "makeLot", "(III)I"⟩
abbrev cX3_makePart : ByteArray := prog_5_method_6_code
def yX3_makePart : MethodName := ⟨RX3, "makePart", "(LLotSales$Lot;I)V"⟩
abbrev cX3_makeGroup : ByteArray := prog_5_method_7_code
def yX3_makeGroup : MethodName := ⟨RX3, "makeGroup", "(LLotSales$Lot;LLotSales$Lot;)I"⟩
abbrev cX3_orderCount : ByteArray := prog_5_method_8_code
def yX3_orderCount : MethodName := ⟨RX3, "orderCount", "()I"⟩
abbrev cX3_lotsIn : ByteArray := prog_5_method_9_code
def yX3_lotsIn : MethodName := ⟨RX3, "lotsIn", "(I)I"⟩
abbrev cX3_lotsTo : ByteArray := prog_5_method_10_code
def yX3_lotsTo : MethodName := ⟨RX3, "lotsTo", "(I)I"⟩
abbrev cX3_pricesTo : ByteArray := prog_5_method_11_code
def yX3_pricesTo : MethodName := ⟨RX3, "pricesTo", "(I)I"⟩
abbrev cX3_premiumsOf : ByteArray := prog_5_method_12_code
def yX3_premiumsOf : MethodName := ⟨RX3, "premiumsOf", "(I)I"⟩
abbrev cX3_isSoldTo : ByteArray := prog_5_method_13_code
def yX3_isSoldTo : MethodName := ⟨RX3, "isSoldTo", "(II)Z"⟩
abbrev cX3_lotsOf : ByteArray := prog_5_method_14_code
def yX3_lotsOf : MethodName := ⟨RX3, "lotsOf", "(II)I"⟩
abbrev cX3_pricesFor : ByteArray := prog_5_method_15_code
def yX3_pricesFor : MethodName := ⟨RX3, "pricesFor", "(I)I"⟩
abbrev cX3_commissionsOf : ByteArray := prog_5_method_16_code
def yX3_commissionsOf : MethodName := ⟨RX3, "commissionsOf", "(I)I"⟩
abbrev cX3_proceedsOf : ByteArray := prog_5_method_17_code
def yX3_proceedsOf : MethodName := ⟨RX3, "proceedsOf", "(I)I"⟩
abbrev cX3_feesInLedger : ByteArray := prog_5_method_18_code
def yX3_feesInLedger : MethodName := ⟨RX3, "feesInLedger", "(I)I"⟩
def RX4 : String := "LotSales$Standing"
def TX4 : u_T := fun k => match k with
  | 0 => ("LotSales$Standing", "limits", "[I", true)
  | 1 => ("LotSales$Standing", "times", "[I", true)
  | 2 => ("LotSales$Standing", "houseLimit", "I", false)
  | 3 => ("LotSales$Standing", "leader", "I", false)
  | 4 => ("LotSales$Standing", "leaderLimit", "I", false)
  | _ => ("LotSales$Standing", "secondLimit", "I", false)
def tyX4 : Nat → FieldType := fun k => match k with
  | 0 => .array .int
  | 1 => .array .int
  | 2 => .int
  | 3 => .int
  | 4 => .int
  | _ => .int
theorem nmX4 : ∀ a, a < 6 → ∀ b, b < 6 → a ≠ b → (TX4 a).2.1 ≠ (TX4 b).2.1 := by decide +kernel
theorem tyX4_ok : ∀ k, k < 6 → parseFieldDescriptor (TX4 k).2.2.1 = some (tyX4 k) := by decide +kernel
abbrev cX4_init : ByteArray := prog_6_method_1_code
def yX4_init : MethodName := ⟨RX4, "<init>", "()V"⟩
abbrev cX4_settle : ByteArray := prog_6_method_2_code
def yX4_settle : MethodName := ⟨RX4, "settle", "(LLotSales$Lot;LLotSales$Table;)V"⟩
abbrev cX4_raise : ByteArray := prog_6_method_3_code
def yX4_raise : MethodName := ⟨RX4, "raise", "(III)V"⟩
abbrev cX4_findLeader : ByteArray := prog_6_method_4_code
def yX4_findLeader : MethodName := ⟨RX4, "findLeader", "()V"⟩
abbrev cX4_isAhead : ByteArray := prog_6_method_5_code
def yX4_isAhead : MethodName := ⟨RX4, "isAhead", "(II)Z"⟩
abbrev cX4_price : ByteArray := prog_6_method_6_code
def yX4_price : MethodName := ⟨RX4, "price", "(LLotSales$Table;)I"⟩
abbrev cX4_meets : ByteArray := prog_6_method_7_code
def yX4_meets : MethodName := ⟨RX4, "meets", "(ILLotSales$Table;)Z"⟩
abbrev cX4_reasonBelowReserve : ByteArray := prog_6_method_8_code
def yX4_reasonBelowReserve : MethodName := ⟨RX4, "reasonBelowReserve", "()I"⟩
abbrev cX4_counting : ByteArray := prog_6_method_9_code
def yX4_counting : MethodName := ⟨RX4, "counting", "()I"⟩
abbrev cX4_bidderAt : ByteArray := prog_6_method_10_code
def yX4_bidderAt : MethodName := ⟨RX4, "bidderAt", "(I)I"⟩
abbrev cX4_aheadOf : ByteArray := prog_6_method_11_code
def yX4_aheadOf : MethodName := ⟨RX4, "aheadOf", "(I)I"⟩
def RX5 : String := "LotSales$Table"
def TX5 : u_T := fun k => match k with
  | 0 => ("LotSales$Table", "bounds", "[I", true)
  | 1 => ("LotSales$Table", "increments", "[I", true)
  | _ => ("LotSales$Table", "rows", "I", false)
def tyX5 : Nat → FieldType := fun k => match k with
  | 0 => .array .int
  | 1 => .array .int
  | _ => .int
theorem nmX5 : ∀ a, a < 3 → ∀ b, b < 3 → a ≠ b → (TX5 a).2.1 ≠ (TX5 b).2.1 := by decide +kernel
theorem tyX5_ok : ∀ k, k < 3 → parseFieldDescriptor (TX5 k).2.2.1 = some (tyX5 k) := by decide +kernel
abbrev cX5_init : ByteArray := prog_7_method_1_code
def yX5_init : MethodName := ⟨RX5, "<init>", "()V"⟩
abbrev cX5_take : ByteArray := prog_7_method_2_code
def yX5_take : MethodName := ⟨RX5, "take", "(LLotSales$Table;)V"⟩
abbrev cX5_canFollow : ByteArray := prog_7_method_3_code
def yX5_canFollow : MethodName := ⟨RX5, "canFollow", "(II)Z"⟩
abbrev cX5_putLast : ByteArray := prog_7_method_4_code
def yX5_putLast : MethodName := ⟨RX5, "putLast", "(III)V"⟩
abbrev cX5_stepAt : ByteArray := prog_7_method_5_code
def yX5_stepAt : MethodName := ⟨RX5, "stepAt", "(I)I"⟩
abbrev cX5_stepAfter : ByteArray := prog_7_method_6_code
def yX5_stepAfter : MethodName := ⟨RX5, "stepAfter", "(I)I"⟩
abbrev cX5_isStep : ByteArray := prog_7_method_7_code
def yX5_isStep : MethodName := ⟨RX5, "isStep", "(I)Z"⟩
def RX6 : String := "LotSales$Text"
def TX6 : u_T := fun k => match k with
  | 0 => ("LotSales$Text", "signs", "[C", true)
  | 1 => ("LotSales$Text", "numbers", "[I", true)
  | 2 => ("LotSales$Text", "length", "I", false)
  | 3 => ("LotSales$Text", "at", "I", false)
  | 4 => ("LotSales$Text", "commands", "I", false)
  | _ => ("LotSales$Text", "command", "C", false)
def tyX6 : Nat → FieldType := fun k => match k with
  | 0 => .array .char
  | 1 => .array .int
  | 2 => .int
  | 3 => .int
  | 4 => .int
  | _ => .char
theorem nmX6 : ∀ a, a < 6 → ∀ b, b < 6 → a ≠ b → (TX6 a).2.1 ≠ (TX6 b).2.1 := by decide +kernel
theorem tyX6_ok : ∀ k, k < 6 → parseFieldDescriptor (TX6 k).2.2.1 = some (tyX6 k) := by decide +kernel
abbrev cX6_init : ByteArray := prog_8_method_1_code
def yX6_init : MethodName := ⟨RX6, "<init>", "()V"⟩
abbrev cX6_add : ByteArray := prog_8_method_2_code
def yX6_add : MethodName := ⟨RX6, "add", "(C)V"⟩
abbrev cX6_empty : ByteArray := prog_8_method_3_code
def yX6_empty : MethodName := ⟨RX6, "empty", "()V"⟩
abbrev cX6_findFault : ByteArray := prog_8_method_4_code
def yX6_findFault : MethodName := ⟨RX6, "findFault", "()I"⟩
abbrev cX6_readNext : ByteArray := prog_8_method_5_code
def yX6_readNext : MethodName := ⟨RX6, "readNext", "(I)Z"⟩
abbrev cX6_readCommand : ByteArray := prog_8_method_6_code
def yX6_readCommand : MethodName := ⟨RX6, "readCommand", "()Z"⟩
abbrev cX6_readNumber : ByteArray := prog_8_method_7_code
def yX6_readNumber : MethodName := ⟨RX6, "readNumber", "(I)Z"⟩
abbrev cX6_passes : ByteArray := prog_8_method_8_code
def yX6_passes : MethodName := ⟨RX6, "passes", "(C)Z"⟩
abbrev cX6_numbersBehind : ByteArray := prog_8_method_9_code
def yX6_numbersBehind : MethodName := ⟨RX6, "numbersBehind", "(C)I"⟩
def RX7 : String := "LotSales"
def TX7 : u_T := fun k => match k with
  | 0 => ("LotSales", "sale", "LLotSales$Sale;", true)
  | 1 => ("LotSales", "view", "LLotSales$Standing;", true)
  | 2 => ("LotSales", "history", "LLotSales$History;", true)
  | 3 => ("LotSales", "text", "LLotSales$Text;", true)
  | 4 => ("LotSales", "snapshot", "LLotSales$Sale;", false)
  | 5 => ("LotSales", "latestReason", "I", false)
  | _ => ("LotSales", "latestFault", "I", false)
def tyX7 : Nat → FieldType := fun k => match k with
  | 0 => .object "LotSales$Sale"
  | 1 => .object "LotSales$Standing"
  | 2 => .object "LotSales$History"
  | 3 => .object "LotSales$Text"
  | 4 => .object "LotSales$Sale"
  | 5 => .int
  | _ => .int
theorem nmX7 : ∀ a, a < 7 → ∀ b, b < 7 → a ≠ b → (TX7 a).2.1 ≠ (TX7 b).2.1 := by decide +kernel
theorem tyX7_ok : ∀ k, k < 7 → parseFieldDescriptor (TX7 k).2.2.1 = some (tyX7 k) := by decide +kernel
abbrev cX7_init : ByteArray := prog_1_method_1_code
def yX7_init : MethodName := ⟨RX7, "<init>", "()V"⟩
abbrev cX7_addLot : ByteArray := prog_1_method_2_code
def yX7_addLot : MethodName := ⟨RX7, "addLot", "(III)I"⟩
abbrev cX7_lot : ByteArray := prog_1_method_3_code
def yX7_lot : MethodName := ⟨RX7, "lot", "(II)I"⟩
abbrev cX7_lots : ByteArray := prog_1_method_4_code
def yX7_lots : MethodName := ⟨RX7, "lots", "(I)I"⟩
abbrev cX7_setRows : ByteArray := prog_1_method_5_code
def yX7_setRows : MethodName := ⟨RX7, "setRows", "(III)I"⟩
abbrev cX7_row : ByteArray := prog_1_method_6_code
def yX7_row : MethodName := ⟨RX7, "row", "(II)I"⟩
abbrev cX7_step : ByteArray := prog_1_method_7_code
def yX7_step : MethodName := ⟨RX7, "step", "(I)I"⟩
abbrev cX7_nextStep : ByteArray := prog_1_method_8_code
def yX7_nextStep : MethodName := ⟨RX7, "nextStep", "(I)I"⟩
abbrev cX7_setCredit : ByteArray := prog_1_method_9_code
def yX7_setCredit : MethodName := ⟨RX7, "setCredit", "(II)I"⟩
abbrev cX7_order : ByteArray := prog_1_method_10_code
def yX7_order : MethodName := ⟨RX7, "order", "(III)I"⟩
abbrev cX7_cancel : ByteArray := prog_1_method_11_code
def yX7_cancel : MethodName := ⟨RX7, "cancel", "(II)I"⟩
abbrev cX7_maximum : ByteArray := prog_1_method_12_code
def yX7_maximum : MethodName := ⟨RX7, "maximum", "(II)I"⟩
abbrev cX7_orders : ByteArray := prog_1_method_13_code
def yX7_orders : MethodName := ⟨RX7, "orders", "(I)I"⟩
abbrev cX7_open : ByteArray := prog_1_method_14_code
def yX7_open : MethodName := ⟨RX7, "open", "(I)I"⟩
abbrev cX7_bid : ByteArray := prog_1_method_15_code
def yX7_bid : MethodName := ⟨RX7, "bid", "(III)I"⟩
abbrev cX7_refusal : ByteArray := prog_1_method_16_code
def yX7_refusal : MethodName := ⟨RX7, "refusal", "()I"⟩
abbrev cX7_wouldRefuse : ByteArray := prog_1_method_17_code
def yX7_wouldRefuse : MethodName := ⟨RX7, "wouldRefuse", "(ZIII)I"⟩
abbrev cX7_standing : ByteArray := prog_1_method_18_code
def yX7_standing : MethodName := ⟨RX7, "standing", "(II)I"⟩
abbrev cX7_limit : ByteArray := prog_1_method_19_code
def yX7_limit : MethodName := ⟨RX7, "limit", "(III)I"⟩
abbrev cX7_priceIf : ByteArray := prog_1_method_20_code
def yX7_priceIf : MethodName := ⟨RX7, "priceIf", "(III)I"⟩
abbrev cX7_close : ByteArray := prog_1_method_21_code
def yX7_close : MethodName := ⟨RX7, "close", "(I)I"⟩
abbrev cX7_withdraw : ByteArray := prog_1_method_22_code
def yX7_withdraw : MethodName := ⟨RX7, "withdraw", "(I)I"⟩
abbrev cX7_offer : ByteArray := prog_1_method_23_code
def yX7_offer : MethodName := ⟨RX7, "offer", "(II)I"⟩
abbrev cX7_split : ByteArray := prog_1_method_24_code
def yX7_split : MethodName := ⟨RX7, "split", "(II)I"⟩
abbrev cX7_group : ByteArray := prog_1_method_25_code
def yX7_group : MethodName := ⟨RX7, "group", "(II)I"⟩
abbrev cX7_why : ByteArray := prog_1_method_26_code
def yX7_why : MethodName := ⟨RX7, "why", "(I)I"⟩
abbrev cX7_sold : ByteArray := prog_1_method_27_code
def yX7_sold : MethodName := ⟨RX7, "sold", "(IZ)I"⟩
abbrev cX7_premium : ByteArray := prog_1_method_28_code
def yX7_premium : MethodName := ⟨RX7, "premium", "(I)I"⟩
abbrev cX7_bidder : ByteArray := prog_1_method_29_code
def yX7_bidder : MethodName := ⟨RX7, "bidder", "(II)I"⟩
abbrev cX7_seller : ByteArray := prog_1_method_30_code
def yX7_seller : MethodName := ⟨RX7, "seller", "(II)I"⟩
abbrev cX7_house : ByteArray := prog_1_method_31_code
def yX7_house : MethodName := ⟨RX7, "house", "(I)I"⟩
abbrev cX7_soldShare : ByteArray := prog_1_method_32_code
def yX7_soldShare : MethodName := ⟨RX7, "soldShare", "()D"⟩
abbrev cX7_events : ByteArray := prog_1_method_33_code
def yX7_events : MethodName := ⟨RX7, "events", "(I)I"⟩
abbrev cX7_event : ByteArray := prog_1_method_34_code
def yX7_event : MethodName := ⟨RX7, "event", "(II)I"⟩
abbrev cX7_audit : ByteArray := prog_1_method_35_code
def yX7_audit : MethodName := ⟨RX7, "audit", "()I"⟩
abbrev cX7_append : ByteArray := prog_1_method_36_code
def yX7_append : MethodName := ⟨RX7, "append", "(C)V"⟩
abbrev cX7_read : ByteArray := prog_1_method_37_code
def yX7_read : MethodName := ⟨RX7, "read", "()I"⟩
abbrev cX7_faultPosition : ByteArray := prog_1_method_38_code
def yX7_faultPosition : MethodName := ⟨RX7, "faultPosition", "()I"⟩
abbrev cX7_undo : ByteArray := prog_1_method_39_code
def yX7_undo : MethodName := ⟨RX7, "undo", "()I"⟩
abbrev cX7_save : ByteArray := prog_1_method_40_code
def yX7_save : MethodName := ⟨RX7, "save", "()V"⟩
abbrev cX7_restore : ByteArray := prog_1_method_41_code
def yX7_restore : MethodName := ⟨RX7, "restore", "()V"⟩
abbrev cX7_needLot : ByteArray := prog_1_method_42_code
def yX7_needLot : MethodName := ⟨RX7, "needLot", "(I)V"⟩
abbrev cX7_needBidder : ByteArray := prog_1_method_43_code
def yX7_needBidder : MethodName := ⟨RX7, "needBidder", "(I)V"⟩
abbrev cX7_needWithin : ByteArray := prog_1_method_44_code
def yX7_needWithin : MethodName := ⟨RX7, "needWithin", "(III)V"⟩
abbrev cX7_needState : ByteArray := prog_1_method_45_code
def yX7_needState : MethodName := ⟨RX7, "needState", "(LLotSales$Lot;I)V"⟩
abbrev cX7_needRoomForLots : ByteArray := prog_1_method_46_code
def yX7_needRoomForLots : MethodName := ⟨RX7, "needRoomForLots", "(I)V"⟩
abbrev cX7_isBidder : ByteArray := prog_1_method_47_code
def yX7_isBidder : MethodName := ⟨RX7, "isBidder", "(I)Z"⟩
abbrev cX7_answered : ByteArray := prog_1_method_48_code
def yX7_answered : MethodName := ⟨RX7, "answered", "(I)I"⟩
abbrev cX7_carryOut : ByteArray := prog_1_method_49_code
def yX7_carryOut : MethodName := ⟨RX7, "carryOut", "()I"⟩
abbrev cX7_tryOrder : ByteArray := prog_1_method_50_code
def yX7_tryOrder : MethodName := ⟨RX7, "tryOrder", "(III)I"⟩
abbrev cX7_tryCancel : ByteArray := prog_1_method_51_code
def yX7_tryCancel : MethodName := ⟨RX7, "tryCancel", "(II)I"⟩
abbrev cX7_tryOpen : ByteArray := prog_1_method_52_code
def yX7_tryOpen : MethodName := ⟨RX7, "tryOpen", "(I)I"⟩
abbrev cX7_tryBid : ByteArray := prog_1_method_53_code
def yX7_tryBid : MethodName := ⟨RX7, "tryBid", "(III)I"⟩
abbrev cX7_tryClose : ByteArray := prog_1_method_54_code
def yX7_tryClose : MethodName := ⟨RX7, "tryClose", "(I)I"⟩
abbrev cX7_tryWithdraw : ByteArray := prog_1_method_55_code
def yX7_tryWithdraw : MethodName := ⟨RX7, "tryWithdraw", "(I)I"⟩
abbrev cX7_buyIn : ByteArray := prog_1_method_56_code
def yX7_buyIn : MethodName := ⟨RX7, "buyIn", "(ILLotSales$Lot;)V"⟩
abbrev cX7_orderReason : ByteArray := prog_1_method_57_code
def yX7_orderReason : MethodName := ⟨RX7, "orderReason", "(LLotSales$Lot;II)I"⟩
abbrev cX7_bidReason : ByteArray := prog_1_method_58_code
def yX7_bidReason : MethodName := ⟨RX7, "bidReason", "(LLotSales$Lot;II)I"⟩
abbrev cX7_exposureOf : ByteArray := prog_1_method_59_code
def yX7_exposureOf : MethodName := ⟨RX7, "exposureOf", "(I)I"⟩
abbrev cX7_leadsOf : ByteArray := prog_1_method_60_code
def yX7_leadsOf : MethodName := ⟨RX7, "leadsOf", "(I)I"⟩
abbrev cX7_premiumOf : ByteArray := prog_1_method_61_code
def yX7_premiumOf : MethodName := ⟨RX7, "premiumOf", "(I)I"⟩
abbrev cX7_commissionOf : ByteArray := prog_1_method_62_code
def yX7_commissionOf : MethodName := ⟨RX7, "commissionOf", "(I)I"⟩
abbrev cX7_feeOf : ByteArray := prog_1_method_63_code
def yX7_feeOf : MethodName := ⟨RX7, "feeOf", "(I)I"⟩
def RX8 : String := "LotSalesModel"
def TX8 : u_T := fun k => match k with
  | 0 => ("LotSalesModel", "thrown", "I", false)
  | 1 => ("LotSalesModel", "now", "[I", true)
  | 2 => ("LotSalesModel", "past", "[I", true)
  | 3 => ("LotSalesModel", "pastMany", "I", false)
  | 4 => ("LotSalesModel", "saved", "[I", true)
  | 5 => ("LotSalesModel", "isSaved", "Z", false)
  | 6 => ("LotSalesModel", "reason", "I", false)
  | 7 => ("LotSalesModel", "leader", "I", false)
  | 8 => ("LotSalesModel", "leaderLimit", "I", false)
  | 9 => ("LotSalesModel", "second", "I", false)
  | 10 => ("LotSalesModel", "price", "I", false)
  | 11 => ("LotSalesModel", "buffer", "[C", true)
  | 12 => ("LotSalesModel", "fed", "I", false)
  | 13 => ("LotSalesModel", "end", "I", false)
  | 14 => ("LotSalesModel", "cursor", "I", false)
  | 15 => ("LotSalesModel", "fault", "I", false)
  | 16 => ("LotSalesModel", "commands", "[I", true)
  | _ => ("LotSalesModel", "commandMany", "I", false)
def tyX8 : Nat → FieldType := fun k => match k with
  | 0 => .int
  | 1 => .array .int
  | 2 => .array .int
  | 3 => .int
  | 4 => .array .int
  | 5 => .boolean
  | 6 => .int
  | 7 => .int
  | 8 => .int
  | 9 => .int
  | 10 => .int
  | 11 => .array .char
  | 12 => .int
  | 13 => .int
  | 14 => .int
  | 15 => .int
  | 16 => .array .int
  | _ => .int
theorem nmX8 : ∀ a, a < 18 → ∀ b, b < 18 → a ≠ b → (TX8 a).2.1 ≠ (TX8 b).2.1 := by decide +kernel
theorem tyX8_ok : ∀ k, k < 18 → parseFieldDescriptor (TX8 k).2.2.1 = some (tyX8 k) := by decide +kernel
abbrev cX8_isIn : ByteArray := prog_10_method_1_code
def yX8_isIn : MethodName := ⟨RX8, "isIn", "(III)Z"⟩
abbrev cX8_thrown : ByteArray := prog_10_method_2_code
def yX8_thrown : MethodName := ⟨RX8, "thrown", "()I"⟩
abbrev cX8_fail : ByteArray := prog_10_method_3_code
def yX8_fail : MethodName := ⟨RX8, "fail", "(I)I"⟩
abbrev cX8_init : ByteArray := prog_10_method_4_code
def yX8_init : MethodName := ⟨RX8, "<init>", "()V"⟩
abbrev cX8_keep : ByteArray := prog_10_method_5_code
def yX8_keep : MethodName := ⟨RX8, "keep", "()V"⟩
abbrev cX8_note : ByteArray := prog_10_method_6_code
def yX8_note : MethodName := ⟨RX8, "note", "(IIII)V"⟩
abbrev cX8_isLot : ByteArray := prog_10_method_7_code
def yX8_isLot : MethodName := ⟨RX8, "isLot", "(I)Z"⟩
abbrev cX8_isBidder : ByteArray := prog_10_method_8_code
def yX8_isBidder : MethodName := ⟨RX8, "isBidder", "(I)Z"⟩
abbrev cX8_at : ByteArray := prog_10_method_9_code
def yX8_at : MethodName := ⟨RX8, "at", "(II)I"⟩
abbrev cX8_set : ByteArray := prog_10_method_10_code
def yX8_set : MethodName := ⟨RX8, "set", "(III)V"⟩
abbrev cX8_makeLot : ByteArray := prog_10_method_11_code
def yX8_makeLot : MethodName := ⟨RX8, "makeLot", "(III)I"⟩
abbrev cX8_orderOf : ByteArray := prog_10_method_12_code
def yX8_orderOf : MethodName := ⟨RX8, "orderOf", "(II)I"⟩
abbrev cX8_putOrder : ByteArray := prog_10_method_13_code
def yX8_putOrder : MethodName := ⟨RX8, "putOrder", "(IIII)V"⟩
abbrev cX8_putBid : ByteArray := prog_10_method_14_code
def yX8_putBid : MethodName := ⟨RX8, "putBid", "(IIII)V"⟩
abbrev cX8_nextNumber : ByteArray := prog_10_method_15_code
def yX8_nextNumber : MethodName := ⟨RX8, "nextNumber", "()I"⟩
abbrev cX8_ordersOf : ByteArray := prog_10_method_16_code
def yX8_ordersOf : MethodName := ⟨RX8, "ordersOf", "(I)I"⟩
abbrev cX8_allOrders : ByteArray := prog_10_method_17_code
def yX8_allOrders : MethodName := ⟨RX8, "allOrders", "()I"⟩
abbrev cX8_removeOrders : ByteArray := prog_10_method_18_code
def yX8_removeOrders : MethodName := ⟨RX8, "removeOrders", "(I)I"⟩
abbrev cX8_addLot : ByteArray := prog_10_method_19_code
def yX8_addLot : MethodName := ⟨RX8, "addLot", "(III)I"⟩
abbrev cX8_lot : ByteArray := prog_10_method_20_code
def yX8_lot : MethodName := ⟨RX8, "lot", "(II)I"⟩
abbrev cX8_lots : ByteArray := prog_10_method_21_code
def yX8_lots : MethodName := ⟨RX8, "lots", "(I)I"⟩
abbrev cX8_rowOf : ByteArray := prog_10_method_22_code
def yX8_rowOf : MethodName := ⟨RX8, "rowOf", "(I)I"⟩
abbrev cX8_stepBelow : ByteArray := prog_10_method_23_code
def yX8_stepBelow : MethodName := ⟨RX8, "stepBelow", "(I)I"⟩
abbrev cX8_stepAbove : ByteArray := prog_10_method_24_code
def yX8_stepAbove : MethodName := ⟨RX8, "stepAbove", "(I)I"⟩
abbrev cX8_isStep : ByteArray := prog_10_method_25_code
def yX8_isStep : MethodName := ⟨RX8, "isStep", "(I)Z"⟩
abbrev cX8_hasOpenLot : ByteArray := prog_10_method_26_code
def yX8_hasOpenLot : MethodName := ⟨RX8, "hasOpenLot", "()Z"⟩
abbrev cX8_setRows : ByteArray := prog_10_method_27_code
def yX8_setRows : MethodName := ⟨RX8, "setRows", "(III)I"⟩
abbrev cX8_row : ByteArray := prog_10_method_28_code
def yX8_row : MethodName := ⟨RX8, "row", "(II)I"⟩
abbrev cX8_step : ByteArray := prog_10_method_29_code
def yX8_step : MethodName := ⟨RX8, "step", "(I)I"⟩
abbrev cX8_nextStep : ByteArray := prog_10_method_30_code
def yX8_nextStep : MethodName := ⟨RX8, "nextStep", "(I)I"⟩
abbrev cX8_setCredit : ByteArray := prog_10_method_31_code
def yX8_setCredit : MethodName := ⟨RX8, "setCredit", "(II)I"⟩
abbrev cX8_limitOf : ByteArray := prog_10_method_32_code
def yX8_limitOf : MethodName := ⟨RX8, "limitOf", "(II)I"⟩
abbrev cX8_timeOf : ByteArray := prog_10_method_33_code
def yX8_timeOf : MethodName := ⟨RX8, "timeOf", "(II)I"⟩
abbrev cX8_houseLimit : ByteArray := prog_10_method_34_code
def yX8_houseLimit : MethodName := ⟨RX8, "houseLimit", "(I)I"⟩
abbrev cX8_isAhead : ByteArray := prog_10_method_35_code
def yX8_isAhead : MethodName := ⟨RX8, "isAhead", "(III)Z"⟩
abbrev cX8_ranked : ByteArray := prog_10_method_36_code
def yX8_ranked : MethodName := ⟨RX8, "ranked", "(II)I"⟩
abbrev cX8_stand : ByteArray := prog_10_method_37_code
def yX8_stand : MethodName := ⟨RX8, "stand", "(I)V"⟩
abbrev cX8_isMet : ByteArray := prog_10_method_38_code
def yX8_isMet : MethodName := ⟨RX8, "isMet", "(I)Z"⟩
abbrev cX8_countingLimits : ByteArray := prog_10_method_39_code
def yX8_countingLimits : MethodName := ⟨RX8, "countingLimits", "(I)I"⟩
abbrev cX8_isLeading : ByteArray := prog_10_method_40_code
def yX8_isLeading : MethodName := ⟨RX8, "isLeading", "(II)Z"⟩
abbrev cX8_boughtBy : ByteArray := prog_10_method_41_code
def yX8_boughtBy : MethodName := ⟨RX8, "boughtBy", "(II)I"⟩
abbrev cX8_exposureOf : ByteArray := prog_10_method_42_code
def yX8_exposureOf : MethodName := ⟨RX8, "exposureOf", "(I)I"⟩
abbrev cX8_orderRefusal : ByteArray := prog_10_method_43_code
def yX8_orderRefusal : MethodName := ⟨RX8, "orderRefusal", "(III)I"⟩
abbrev cX8_bidRefusal : ByteArray := prog_10_method_44_code
def yX8_bidRefusal : MethodName := ⟨RX8, "bidRefusal", "(III)I"⟩
abbrev cX8_order : ByteArray := prog_10_method_45_code
def yX8_order : MethodName := ⟨RX8, "order", "(III)I"⟩
abbrev cX8_cancel : ByteArray := prog_10_method_46_code
def yX8_cancel : MethodName := ⟨RX8, "cancel", "(II)I"⟩
abbrev cX8_maximum : ByteArray := prog_10_method_47_code
def yX8_maximum : MethodName := ⟨RX8, "maximum", "(II)I"⟩
abbrev cX8_orders : ByteArray := prog_10_method_48_code
def yX8_orders : MethodName := ⟨RX8, "orders", "(I)I"⟩
abbrev cX8_open : ByteArray := prog_10_method_49_code
def yX8_open : MethodName := ⟨RX8, "open", "(I)I"⟩
abbrev cX8_bid : ByteArray := prog_10_method_50_code
def yX8_bid : MethodName := ⟨RX8, "bid", "(III)I"⟩
abbrev cX8_refusal : ByteArray := prog_10_method_51_code
def yX8_refusal : MethodName := ⟨RX8, "refusal", "()I"⟩
abbrev cX8_wouldRefuse : ByteArray := prog_10_method_52_code
def yX8_wouldRefuse : MethodName := ⟨RX8, "wouldRefuse", "(ZIII)I"⟩
abbrev cX8_standing : ByteArray := prog_10_method_53_code
def yX8_standing : MethodName := ⟨RX8, "standing", "(II)I"⟩
abbrev cX8_limit : ByteArray := prog_10_method_54_code
def yX8_limit : MethodName := ⟨RX8, "limit", "(III)I"⟩
abbrev cX8_priceIf : ByteArray := prog_10_method_55_code
def yX8_priceIf : MethodName := ⟨RX8, "priceIf", "(III)I"⟩
abbrev cX8_close : ByteArray := prog_10_method_56_code
def yX8_close : MethodName := ⟨RX8, "close", "(I)I"⟩
abbrev cX8_withdraw : ByteArray := prog_10_method_57_code
def yX8_withdraw : MethodName := ⟨RX8, "withdraw", "(I)I"⟩
abbrev cX8_offer : ByteArray := prog_10_method_58_code
def yX8_offer : MethodName := ⟨RX8, "offer", "(II)I"⟩
abbrev cX8_share : ByteArray := prog_10_method_59_code
def yX8_share : MethodName := ⟨RX8, "share", "(III)I"⟩
abbrev cX8_quantityOf : ByteArray := prog_10_method_60_code
def yX8_quantityOf : MethodName := ⟨RX8, "quantityOf", "(III)I"⟩
abbrev cX8_splitOrders : ByteArray := prog_10_method_61_code
def yX8_splitOrders : MethodName := ⟨RX8, "splitOrders", "(II)I"⟩
abbrev cX8_split : ByteArray := prog_10_method_62_code
def yX8_split : MethodName := ⟨RX8, "split", "(II)I"⟩
abbrev cX8_group : ByteArray := prog_10_method_63_code
def yX8_group : MethodName := ⟨RX8, "group", "(II)I"⟩
abbrev cX8_why : ByteArray := prog_10_method_64_code
def yX8_why : MethodName := ⟨RX8, "why", "(I)I"⟩
abbrev cX8_sold : ByteArray := prog_10_method_65_code
def yX8_sold : MethodName := ⟨RX8, "sold", "(IZ)I"⟩
abbrev cX8_premiumOf : ByteArray := prog_10_method_66_code
def yX8_premiumOf : MethodName := ⟨RX8, "premiumOf", "(I)I"⟩
abbrev cX8_commissionOf : ByteArray := prog_10_method_67_code
def yX8_commissionOf : MethodName := ⟨RX8, "commissionOf", "(I)I"⟩
abbrev cX8_premium : ByteArray := prog_10_method_68_code
def yX8_premium : MethodName := ⟨RX8, "premium", "(I)I"⟩
abbrev cX8_leads : ByteArray := prog_10_method_69_code
def yX8_leads : MethodName := ⟨RX8, "leads", "(I)I"⟩
abbrev cX8_bidder : ByteArray := prog_10_method_70_code
def yX8_bidder : MethodName := ⟨RX8, "bidder", "(II)I"⟩
abbrev cX8_soldBy : ByteArray := prog_10_method_71_code
def yX8_soldBy : MethodName := ⟨RX8, "soldBy", "(II)I"⟩
abbrev cX8_gets : ByteArray := prog_10_method_72_code
def yX8_gets : MethodName := ⟨RX8, "gets", "(I)I"⟩
abbrev cX8_seller : ByteArray := prog_10_method_73_code
def yX8_seller : MethodName := ⟨RX8, "seller", "(II)I"⟩
abbrev cX8_house : ByteArray := prog_10_method_74_code
def yX8_house : MethodName := ⟨RX8, "house", "(I)I"⟩
abbrev cX8_eventsOf : ByteArray := prog_10_method_75_code
def yX8_eventsOf : MethodName := ⟨RX8, "eventsOf", "(I)I"⟩
abbrev cX8_soldShare : ByteArray := prog_10_method_76_code
def yX8_soldShare : MethodName := ⟨RX8, "soldShare", "()D"⟩
abbrev cX8_events : ByteArray := prog_10_method_77_code
def yX8_events : MethodName := ⟨RX8, "events", "(I)I"⟩
abbrev cX8_event : ByteArray := prog_10_method_78_code
def yX8_event : MethodName := ⟨RX8, "event", "(II)I"⟩
abbrev cX8_sumOf : ByteArray := prog_10_method_79_code
def yX8_sumOf : MethodName := ⟨RX8, "sumOf", "(III)I"⟩
abbrev cX8_audit : ByteArray := prog_10_method_80_code
def yX8_audit : MethodName := ⟨RX8, "audit", "()I"⟩
abbrev cX8_append : ByteArray := prog_10_method_81_code
def yX8_append : MethodName := ⟨RX8, "append", "(C)V"⟩
abbrev cX8_sign : ByteArray := prog_10_method_82_code
def yX8_sign : MethodName := ⟨RX8, "sign", "()I"⟩
abbrev cX8_goes : ByteArray := prog_10_method_83_code
def yX8_goes : MethodName := ⟨RX8, "goes", "(C)Z"⟩
abbrev cX8_faultHere : ByteArray := prog_10_method_84_code
def yX8_faultHere : MethodName := ⟨RX8, "faultHere", "()V"⟩
abbrev cX8_number : ByteArray := prog_10_method_85_code
def yX8_number : MethodName := ⟨RX8, "number", "()I"⟩
abbrev cX8_numbersOf : ByteArray := prog_10_method_86_code
def yX8_numbersOf : MethodName := ⟨RX8, "numbersOf", "(I)I"⟩
abbrev cX8_command : ByteArray := prog_10_method_87_code
def yX8_command : MethodName := ⟨RX8, "command", "()V"⟩
abbrev cX8_carryOut : ByteArray := prog_10_method_88_code
def yX8_carryOut : MethodName := ⟨RX8, "carryOut", "(I)V"⟩
abbrev cX8_read : ByteArray := prog_10_method_89_code
def yX8_read : MethodName := ⟨RX8, "read", "()I"⟩
abbrev cX8_faultPosition : ByteArray := prog_10_method_90_code
def yX8_faultPosition : MethodName := ⟨RX8, "faultPosition", "()I"⟩
abbrev cX8_undo : ByteArray := prog_10_method_91_code
def yX8_undo : MethodName := ⟨RX8, "undo", "()I"⟩
abbrev cX8_save : ByteArray := prog_10_method_92_code
def yX8_save : MethodName := ⟨RX8, "save", "()V"⟩
abbrev cX8_restore : ByteArray := prog_10_method_93_code
def yX8_restore : MethodName := ⟨RX8, "restore", "()V"⟩
def RJx145de : String := "java/io/Serializable"
def TJx145de : u_T := fun k => match k with
  | _ => ("", "", "", false)
def tyJx145de : Nat → FieldType := fun k => match k with
  | _ => .int
theorem nmJx145de : ∀ a, a < 0 → ∀ b, b < 0 → a ≠ b → (TJx145de a).2.1 ≠ (TJx145de b).2.1 := by decide +kernel
theorem tyJx145de_ok : ∀ k, k < 0 → parseFieldDescriptor (TJx145de k).2.2.1 = some (tyJx145de k) := by decide +kernel
def RJx00060 : String := "java/lang/ArrayIndexOutOfBoundsException"
def TJx00060 : u_T := fun k => match k with
  | 0 => ("java/lang/Throwable", "backtrace", "Ljava/lang/Object;", false)
  | 1 => ("java/lang/Throwable", "detailMessage", "Ljava/lang/String;", false)
  | 2 => ("java/lang/Throwable", "cause", "Ljava/lang/Throwable;", false)
  | 3 => ("java/lang/Throwable", "stackTrace", "[Ljava/lang/StackTraceElement;", false)
  | 4 => ("java/lang/Throwable", "depth", "I", false)
  | _ => ("java/lang/Throwable", "suppressedExceptions", "Ljava/util/List;", false)
def tyJx00060 : Nat → FieldType := fun k => match k with
  | 0 => .object "java/lang/Object"
  | 1 => .object "java/lang/String"
  | 2 => .object "java/lang/Throwable"
  | 3 => .array (.object "java/lang/StackTraceElement")
  | 4 => .int
  | _ => .object "java/util/List"
theorem nmJx00060 : ∀ a, a < 6 → ∀ b, b < 6 → a ≠ b → (TJx00060 a).2.1 ≠ (TJx00060 b).2.1 := by decide +kernel
theorem tyJx00060_ok : ∀ k, k < 6 → parseFieldDescriptor (TJx00060 k).2.2.1 = some (tyJx00060 k) := by decide +kernel
abbrev cJx00060_init_a7421 : ByteArray := prog_13_method_2_code
def yJx00060_init_a7421 : MethodName := ⟨RJx00060, "<init>", "(Ljava/lang/String;)V"⟩
def RJ9 : String := "java/lang/Math"
def TJ9 : u_T := fun k => match k with
  | _ => ("", "", "", false)
def tyJ9 : Nat → FieldType := fun k => match k with
  | _ => .int
theorem nmJ9 : ∀ a, a < 0 → ∀ b, b < 0 → a ≠ b → (TJ9 a).2.1 ≠ (TJ9 b).2.1 := by decide +kernel
theorem tyJ9_ok : ∀ k, k < 0 → parseFieldDescriptor (TJ9 k).2.2.1 = some (tyJ9 k) := by decide +kernel
abbrev cJ9_max_7cf53 : ByteArray := prog_18_method_65_code
def yJ9_max_7cf53 : MethodName := ⟨RJ9, "max", "(II)I"⟩
abbrev cJ9_min_7cf53 : ByteArray := prog_18_method_69_code
def yJ9_min_7cf53 : MethodName := ⟨RJ9, "min", "(II)I"⟩
def RJ0 : String := "java/lang/String"
def TJ0 : u_T := fun k => match k with
  | 0 => ("java/lang/String", "value", "[B", true)
  | _ => ("java/lang/String", "coder", "B", true)
def tyJ0 : Nat → FieldType := fun k => match k with
  | 0 => .array .byte
  | _ => .byte
theorem nmJ0 : ∀ a, a < 2 → ∀ b, b < 2 → a ≠ b → (TJ0 a).2.1 ≠ (TJ0 b).2.1 := by decide +kernel
theorem tyJ0_ok : ∀ k, k < 2 → parseFieldDescriptor (TJ0 k).2.2.1 = some (tyJ0 k) := by decide +kernel
def RJ10 : String := "java/lang/System"
def TJ10 : u_T := fun k => match k with
  | _ => ("", "", "", false)
def tyJ10 : Nat → FieldType := fun k => match k with
  | _ => .int
theorem nmJ10 : ∀ a, a < 0 → ∀ b, b < 0 → a ≠ b → (TJ10 a).2.1 ≠ (TJ10 b).2.1 := by decide +kernel
theorem tyJ10_ok : ∀ k, k < 0 → parseFieldDescriptor (TJ10 k).2.2.1 = some (tyJ10 k) := by decide +kernel
def RL : String := "LotSalesLaw"
abbrev cL_addLot : ByteArray := method_3_code
def yL_addLot : MethodName := ⟨RL, "addLot", "(LLotSales;III[J)I"⟩
abbrev cL_lot : ByteArray := method_4_code
def yL_lot : MethodName := ⟨RL, "lot", "(LLotSales;II[J)I"⟩
abbrev cL_lots : ByteArray := method_5_code
def yL_lots : MethodName := ⟨RL, "lots", "(LLotSales;I[J)I"⟩
abbrev cL_setRows : ByteArray := method_6_code
def yL_setRows : MethodName := ⟨RL, "setRows", "(LLotSales;III[J)I"⟩
abbrev cL_row : ByteArray := method_7_code
def yL_row : MethodName := ⟨RL, "row", "(LLotSales;II[J)I"⟩
abbrev cL_step : ByteArray := method_8_code
def yL_step : MethodName := ⟨RL, "step", "(LLotSales;I[J)I"⟩
abbrev cL_nextStep : ByteArray := method_9_code
def yL_nextStep : MethodName := ⟨RL, "nextStep", "(LLotSales;I[J)I"⟩
abbrev cL_setCredit : ByteArray := method_10_code
def yL_setCredit : MethodName := ⟨RL, "setCredit", "(LLotSales;II[J)I"⟩
abbrev cL_order : ByteArray := method_11_code
def yL_order : MethodName := ⟨RL, "order", "(LLotSales;III[J)I"⟩
abbrev cL_cancel : ByteArray := method_12_code
def yL_cancel : MethodName := ⟨RL, "cancel", "(LLotSales;II[J)I"⟩
abbrev cL_maximum : ByteArray := method_13_code
def yL_maximum : MethodName := ⟨RL, "maximum", "(LLotSales;II[J)I"⟩
abbrev cL_orders : ByteArray := method_14_code
def yL_orders : MethodName := ⟨RL, "orders", "(LLotSales;I[J)I"⟩
abbrev cL_open : ByteArray := method_15_code
def yL_open : MethodName := ⟨RL, "open", "(LLotSales;I[J)I"⟩
abbrev cL_bid : ByteArray := method_16_code
def yL_bid : MethodName := ⟨RL, "bid", "(LLotSales;III[J)I"⟩
abbrev cL_refusal : ByteArray := method_17_code
def yL_refusal : MethodName := ⟨RL, "refusal", "(LLotSales;[J)I"⟩
abbrev cL_wouldRefuse : ByteArray := method_18_code
def yL_wouldRefuse : MethodName := ⟨RL, "wouldRefuse", "(LLotSales;ZIII[J)I"⟩
abbrev cL_standing : ByteArray := method_19_code
def yL_standing : MethodName := ⟨RL, "standing", "(LLotSales;II[J)I"⟩
abbrev cL_limit : ByteArray := method_20_code
def yL_limit : MethodName := ⟨RL, "limit", "(LLotSales;III[J)I"⟩
abbrev cL_priceIf : ByteArray := method_21_code
def yL_priceIf : MethodName := ⟨RL, "priceIf", "(LLotSales;III[J)I"⟩
abbrev cL_close : ByteArray := method_22_code
def yL_close : MethodName := ⟨RL, "close", "(LLotSales;I[J)I"⟩
abbrev cL_withdraw : ByteArray := method_23_code
def yL_withdraw : MethodName := ⟨RL, "withdraw", "(LLotSales;I[J)I"⟩
abbrev cL_offer : ByteArray := method_24_code
def yL_offer : MethodName := ⟨RL, "offer", "(LLotSales;II[J)I"⟩
abbrev cL_split : ByteArray := method_25_code
def yL_split : MethodName := ⟨RL, "split", "(LLotSales;II[J)I"⟩
abbrev cL_group : ByteArray := method_26_code
def yL_group : MethodName := ⟨RL, "group", "(LLotSales;II[J)I"⟩
abbrev cL_why : ByteArray := method_27_code
def yL_why : MethodName := ⟨RL, "why", "(LLotSales;I[J)I"⟩
abbrev cL_sold : ByteArray := method_28_code
def yL_sold : MethodName := ⟨RL, "sold", "(LLotSales;IZ[J)I"⟩
abbrev cL_premium : ByteArray := method_29_code
def yL_premium : MethodName := ⟨RL, "premium", "(LLotSales;I[J)I"⟩
abbrev cL_bidder : ByteArray := method_30_code
def yL_bidder : MethodName := ⟨RL, "bidder", "(LLotSales;II[J)I"⟩
abbrev cL_seller : ByteArray := method_31_code
def yL_seller : MethodName := ⟨RL, "seller", "(LLotSales;II[J)I"⟩
abbrev cL_house : ByteArray := method_32_code
def yL_house : MethodName := ⟨RL, "house", "(LLotSales;I[J)I"⟩
abbrev cL_soldShare : ByteArray := method_33_code
def yL_soldShare : MethodName := ⟨RL, "soldShare", "(LLotSales;[D)I"⟩
abbrev cL_events : ByteArray := method_34_code
def yL_events : MethodName := ⟨RL, "events", "(LLotSales;I[J)I"⟩
abbrev cL_event : ByteArray := method_35_code
def yL_event : MethodName := ⟨RL, "event", "(LLotSales;II[J)I"⟩
abbrev cL_append : ByteArray := method_36_code
def yL_append : MethodName := ⟨RL, "append", "(LLotSales;C)I"⟩
abbrev cL_read : ByteArray := method_37_code
def yL_read : MethodName := ⟨RL, "read", "(LLotSales;[J)I"⟩
abbrev cL_undo : ByteArray := method_38_code
def yL_undo : MethodName := ⟨RL, "undo", "(LLotSales;[J)I"⟩
abbrev cL_restore : ByteArray := method_39_code
def yL_restore : MethodName := ⟨RL, "restore", "(LLotSales;)I"⟩
abbrev cL_law : ByteArray := code
def yL_law : MethodName := ⟨RL, "law", "([I)Z"⟩
abbrev jI : Type := Nat × Instr × Nat
def jD (b : ByteArray) (l : List jI) : Bool := l.all (fun r => decide (decode b r.1 = .ok (r.2.1, r.2.2)))
def rX0_init_0 : List jI := [(0, .aload_n 0, 1), (1, .invokespecial 3, 3), (4, .aload_n 0, 1), (5, .bipush 10, 2), (7, .anewarray 9, 3), (10, .putfield 11, 3), (13, .return_, 1)]
theorem hX0_init_0 : jD cX0_init rX0_init_0 = true := by decide +kernel
def rX0_keep_0 : List jI := [(0, .aload_n 0, 1), (1, .getfield 11, 3), (4, .aload_n 0, 1), (5, .getfield 17, 3), (8, .aaload, 1), (9, .ifnonnull 19, 3), (12, .aload_n 0, 1), (13, .getfield 11, 3), (16, .aload_n 0, 1), (17, .getfield 17, 3), (20, .new 9, 3), (23, .dup, 1), (24, .invokespecial 21, 3), (27, .aastore, 1), (28, .aload_n 0, 1), (29, .getfield 11, 3), (32, .aload_n 0, 1), (33, .getfield 17, 3), (36, .aaload, 1), (37, .aload_n 1, 1), (38, .invokevirtual 22, 3), (41, .aload_n 0, 1), (42, .aload_n 0, 1), (43, .getfield 17, 3), (46, .iconst 1, 1), (47, .iadd, 1), (48, .bipush 10, 2), (50, .irem, 1), (51, .putfield 17, 3), (54, .aload_n 0, 1), (55, .aload_n 0, 1), (56, .getfield 26, 3), (59, .iconst 1, 1), (60, .iadd, 1), (61, .bipush 10, 2), (63, .invokestatic 29, 3), (66, .putfield 26, 3), (69, .return_, 1)]
theorem hX0_keep_0 : jD cX0_keep rX0_keep_0 = true := by decide +kernel
def rX0_giveBack_0 : List jI := [(0, .aload_n 0, 1), (1, .getfield 17, 3), (4, .bipush 10, 2), (6, .iadd, 1), (7, .iconst 1, 1), (8, .isub, 1), (9, .bipush 10, 2), (11, .irem, 1), (12, .istore_n 2, 1), (13, .aload_n 0, 1), (14, .getfield 26, 3), (17, .ifCond .eq 12, 3), (20, .aload_n 0, 1), (21, .getfield 11, 3), (24, .iload_n 2, 1), (25, .aaload, 1), (26, .ifnonnull 4, 3), (29, .return_, 1), (30, .aload_n 1, 1), (31, .aload_n 0, 1), (32, .getfield 11, 3), (35, .iload_n 2, 1), (36, .aaload, 1), (37, .invokevirtual 22, 3), (40, .aload_n 0, 1), (41, .iload_n 2, 1), (42, .putfield 17, 3), (45, .aload_n 0, 1), (46, .dup, 1), (47, .getfield 26, 3), (50, .iconst 1, 1), (51, .isub, 1), (52, .putfield 26, 3), (55, .return_, 1)]
theorem hX0_giveBack_0 : jD cX0_giveBack rX0_giveBack_0 = true := by decide +kernel
def rX0_forget_0 : List jI := [(0, .aload_n 0, 1), (1, .iconst 0, 1), (2, .putfield 26, 3), (5, .return_, 1)]
theorem hX0_forget_0 : jD cX0_forget rX0_forget_0 = true := by decide +kernel
def rX1_init_0 : List jI := [(0, .aload_n 0, 1), (1, .invokespecial 3, 3), (4, .aload_n 0, 1), (5, .sipush 250, 3), (8, .newarray .int, 2), (10, .putfield 9, 3), (13, .aload_n 0, 1), (14, .sipush 250, 3), (17, .newarray .int, 2), (19, .putfield 15, 3), (22, .aload_n 0, 1), (23, .sipush 250, 3), (26, .newarray .int, 2), (28, .putfield 18, 3), (31, .aload_n 0, 1), (32, .sipush 250, 3), (35, .newarray .int, 2), (37, .putfield 21, 3), (40, .return_, 1)]
theorem hX1_init_0 : jD cX1_init rX1_init_0 = true := by decide +kernel
def rX1_take_0 : List jI := [(0, .aload_n 0, 1), (1, .aload_n 1, 1), (2, .getfield 24, 3), (5, .putfield 24, 3), (8, .aload_n 1, 1), (9, .getfield 9, 3), (12, .iconst 0, 1), (13, .aload_n 0, 1), (14, .getfield 9, 3), (17, .iconst 0, 1), (18, .aload_n 1, 1), (19, .getfield 24, 3), (22, .invokestatic 28, 3), (25, .aload_n 1, 1), (26, .getfield 15, 3), (29, .iconst 0, 1), (30, .aload_n 0, 1), (31, .getfield 15, 3), (34, .iconst 0, 1), (35, .aload_n 1, 1), (36, .getfield 24, 3), (39, .invokestatic 28, 3), (42, .aload_n 1, 1), (43, .getfield 18, 3), (46, .iconst 0, 1), (47, .aload_n 0, 1), (48, .getfield 18, 3), (51, .iconst 0, 1), (52, .aload_n 1, 1), (53, .getfield 24, 3), (56, .invokestatic 28, 3), (59, .aload_n 1, 1), (60, .getfield 21, 3), (63, .iconst 0, 1), (64, .aload_n 0, 1), (65, .getfield 21, 3), (68, .iconst 0, 1), (69, .aload_n 1, 1), (70, .getfield 24, 3), (73, .invokestatic 28, 3), (76, .return_, 1)]
theorem hX1_take_0 : jD cX1_take rX1_take_0 = true := by decide +kernel
def rX1_note_0 : List jI := [(0, .aload_n 0, 1), (1, .getfield 24, 3), (4, .sipush 250, 3), (7, .if_icmp .lt 4, 3), (10, .return_, 1), (11, .aload_n 0, 1), (12, .getfield 9, 3), (15, .aload_n 0, 1), (16, .getfield 24, 3), (19, .iload_n 1, 1), (20, .iastore, 1), (21, .aload_n 0, 1), (22, .getfield 15, 3), (25, .aload_n 0, 1), (26, .getfield 24, 3), (29, .iload_n 2, 1), (30, .iastore, 1), (31, .aload_n 0, 1), (32, .getfield 18, 3), (35, .aload_n 0, 1), (36, .getfield 24, 3), (39, .iload_n 3, 1), (40, .iastore, 1), (41, .aload_n 0, 1), (42, .getfield 21, 3), (45, .aload_n 0, 1), (46, .getfield 24, 3), (49, .iload 4, 2), (51, .iastore, 1), (52, .aload_n 0, 1), (53, .dup, 1), (54, .getfield 24, 3), (57, .iconst 1, 1), (58, .iadd, 1), (59, .putfield 24, 3), (62, .return_, 1)]
theorem hX1_note_0 : jD cX1_note rX1_note_0 = true := by decide +kernel
def rX1_countOf_0 : List jI := [(0, .iconst 0, 1), (1, .istore_n 2, 1), (2, .iconst 0, 1), (3, .istore_n 3, 1), (4, .iload_n 3, 1), (5, .aload_n 0, 1), (6, .getfield 24, 3), (9, .if_icmp .ge 22, 3), (12, .aload_n 0, 1), (13, .getfield 9, 3), (16, .iload_n 3, 1), (17, .iaload, 1), (18, .iload_n 1, 1), (19, .if_icmp .ne 6, 3), (22, .iinc 2 1, 3), (25, .iinc 3 1, 3), (28, .goto (-24), 3), (31, .iload_n 2, 1), (32, .ireturn, 1)]
theorem hX1_countOf_0 : jD cX1_countOf rX1_countOf_0 = true := by decide +kernel
def rX1_pricesTo_0 : List jI := [(0, .iconst 0, 1), (1, .istore_n 2, 1), (2, .iconst 0, 1), (3, .istore_n 3, 1), (4, .iload_n 3, 1), (5, .aload_n 0, 1), (6, .getfield 24, 3), (9, .if_icmp .ge 38, 3), (12, .aload_n 0, 1), (13, .getfield 9, 3), (16, .iload_n 3, 1), (17, .iaload, 1), (18, .iconst 3, 1), (19, .if_icmp .ne 22, 3), (22, .aload_n 0, 1), (23, .getfield 18, 3), (26, .iload_n 3, 1), (27, .iaload, 1), (28, .iload_n 1, 1), (29, .if_icmp .ne 12, 3), (32, .iload_n 2, 1), (33, .aload_n 0, 1), (34, .getfield 21, 3), (37, .iload_n 3, 1), (38, .iaload, 1), (39, .iadd, 1), (40, .istore_n 2, 1), (41, .iinc 3 1, 3), (44, .goto (-40), 3), (47, .iload_n 2, 1), (48, .ireturn, 1)]
theorem hX1_pricesTo_0 : jD cX1_pricesTo rX1_pricesTo_0 = true := by decide +kernel
def rX2_init_0 : List jI := [(0, .aload_n 0, 1), (1, .invokespecial 3, 3), (4, .aload_n 0, 1), (5, .bipush 10, 2), (7, .newarray .int, 2), (9, .putfield 9, 3), (12, .aload_n 0, 1), (13, .bipush 10, 2), (15, .newarray .int, 2), (17, .putfield 15, 3), (20, .aload_n 0, 1), (21, .bipush 10, 2), (23, .newarray .int, 2), (25, .putfield 18, 3), (28, .aload_n 0, 1), (29, .bipush 10, 2), (31, .newarray .int, 2), (33, .putfield 21, 3), (36, .return_, 1)]
theorem hX2_init_0 : jD cX2_init rX2_init_0 = true := by decide +kernel
def rX2_begin_0 : List jI := [(0, .aload_n 0, 1), (1, .iconst 0, 1), (2, .putfield 24, 3), (5, .aload_n 0, 1), (6, .iload_n 1, 1), (7, .putfield 28, 3), (10, .aload_n 0, 1), (11, .iload_n 2, 1), (12, .putfield 31, 3), (15, .aload_n 0, 1), (16, .iload_n 3, 1), (17, .putfield 34, 3), (20, .aload_n 0, 1), (21, .iconst 0, 1), (22, .putfield 37, 3), (25, .aload_n 0, 1), (26, .iconst (-1), 1), (27, .putfield 40, 3), (30, .aload_n 0, 1), (31, .iconst (-1), 1), (32, .putfield 43, 3), (35, .aload_n 0, 1), (36, .iconst 0, 1), (37, .putfield 46, 3), (40, .aload_n 0, 1), (41, .invokevirtual 49, 3), (44, .aload_n 0, 1), (45, .invokevirtual 52, 3), (48, .return_, 1)]
theorem hX2_begin_0 : jD cX2_begin rX2_begin_0 = true := by decide +kernel
def rX2_take_0 : List jI := [(0, .aload_n 0, 1), (1, .aload_n 1, 1), (2, .getfield 24, 3), (5, .putfield 24, 3), (8, .aload_n 0, 1), (9, .aload_n 1, 1), (10, .getfield 28, 3), (13, .putfield 28, 3), (16, .aload_n 0, 1), (17, .aload_n 1, 1), (18, .getfield 31, 3), (21, .putfield 31, 3), (24, .aload_n 0, 1), (25, .aload_n 1, 1), (26, .getfield 34, 3), (29, .putfield 34, 3), (32, .aload_n 0, 1), (33, .aload_n 1, 1), (34, .getfield 37, 3), (37, .putfield 37, 3), (40, .aload_n 0, 1), (41, .aload_n 1, 1), (42, .getfield 40, 3), (45, .putfield 40, 3), (48, .aload_n 0, 1), (49, .aload_n 1, 1), (50, .getfield 43, 3), (53, .putfield 43, 3), (56, .aload_n 0, 1), (57, .aload_n 1, 1), (58, .getfield 46, 3), (61, .putfield 46, 3), (64, .aload_n 1, 1), (65, .getfield 9, 3), (68, .iconst 0, 1), (69, .aload_n 0, 1), (70, .getfield 9, 3), (73, .iconst 0, 1), (74, .bipush 10, 2), (76, .invokestatic 55, 3), (79, .aload_n 1, 1), (80, .getfield 15, 3), (83, .iconst 0, 1), (84, .aload_n 0, 1), (85, .getfield 15, 3), (88, .iconst 0, 1), (89, .bipush 10, 2), (91, .invokestatic 55, 3), (94, .aload_n 1, 1), (95, .getfield 18, 3), (98, .iconst 0, 1), (99, .aload_n 0, 1), (100, .getfield 18, 3), (103, .iconst 0, 1), (104, .bipush 10, 2), (106, .invokestatic 55, 3), (109, .aload_n 1, 1), (110, .getfield 21, 3), (113, .iconst 0, 1), (114, .aload_n 0, 1)]
theorem hX2_take_0 : jD cX2_take rX2_take_0 = true := by decide +kernel
def rX2_take_1 : List jI := [(115, .getfield 21, 3), (118, .iconst 0, 1), (119, .bipush 10, 2), (121, .invokestatic 55, 3), (124, .return_, 1)]
theorem hX2_take_1 : jD cX2_take rX2_take_1 = true := by decide +kernel
def rX2_putOrder_0 : List jI := [(0, .aload_n 0, 1), (1, .getfield 9, 3), (4, .iload_n 1, 1), (5, .iload_n 2, 1), (6, .iastore, 1), (7, .aload_n 0, 1), (8, .getfield 15, 3), (11, .iload_n 1, 1), (12, .iload_n 3, 1), (13, .iastore, 1), (14, .return_, 1)]
theorem hX2_putOrder_0 : jD cX2_putOrder rX2_putOrder_0 = true := by decide +kernel
def rX2_putBid_0 : List jI := [(0, .aload_n 0, 1), (1, .getfield 18, 3), (4, .iload_n 1, 1), (5, .iload_n 2, 1), (6, .iastore, 1), (7, .aload_n 0, 1), (8, .getfield 21, 3), (11, .iload_n 1, 1), (12, .iload_n 3, 1), (13, .iastore, 1), (14, .return_, 1)]
theorem hX2_putBid_0 : jD cX2_putBid rX2_putBid_0 = true := by decide +kernel
def rX2_orderCount_0 : List jI := [(0, .iconst 0, 1), (1, .istore_n 1, 1), (2, .iconst 0, 1), (3, .istore_n 2, 1), (4, .iload_n 2, 1), (5, .bipush 10, 2), (7, .if_icmp .ge 21, 3), (10, .aload_n 0, 1), (11, .getfield 9, 3), (14, .iload_n 2, 1), (15, .iaload, 1), (16, .ifCond .le 6, 3), (19, .iinc 1 1, 3), (22, .iinc 2 1, 3), (25, .goto (-21), 3), (28, .iload_n 1, 1), (29, .ireturn, 1)]
theorem hX2_orderCount_0 : jD cX2_orderCount rX2_orderCount_0 = true := by decide +kernel
def rX2_removeOrders_0 : List jI := [(0, .iconst 0, 1), (1, .istore_n 1, 1), (2, .iload_n 1, 1), (3, .bipush 10, 2), (5, .if_icmp .ge 16, 3), (8, .aload_n 0, 1), (9, .iload_n 1, 1), (10, .iconst 0, 1), (11, .iconst 0, 1), (12, .invokevirtual 61, 3), (15, .iinc 1 1, 3), (18, .goto (-16), 3), (21, .return_, 1)]
theorem hX2_removeOrders_0 : jD cX2_removeOrders rX2_removeOrders_0 = true := by decide +kernel
def rX2_removeBids_0 : List jI := [(0, .iconst 0, 1), (1, .istore_n 1, 1), (2, .iload_n 1, 1), (3, .bipush 10, 2), (5, .if_icmp .ge 16, 3), (8, .aload_n 0, 1), (9, .iload_n 1, 1), (10, .iconst 0, 1), (11, .iconst 0, 1), (12, .invokevirtual 65, 3), (15, .iinc 1 1, 3), (18, .goto (-16), 3), (21, .return_, 1)]
theorem hX2_removeBids_0 : jD cX2_removeBids rX2_removeBids_0 = true := by decide +kernel
def rX2_sell_0 : List jI := [(0, .aload_n 0, 1), (1, .iconst 2, 1), (2, .putfield 24, 3), (5, .aload_n 0, 1), (6, .iconst 0, 1), (7, .putfield 40, 3), (10, .aload_n 0, 1), (11, .iload_n 1, 1), (12, .putfield 43, 3), (15, .aload_n 0, 1), (16, .iload_n 2, 1), (17, .putfield 46, 3), (20, .return_, 1)]
theorem hX2_sell_0 : jD cX2_sell rX2_sell_0 = true := by decide +kernel
def rX2_quantityOfPart_0 : List jI := [(0, .iload_n 2, 1), (1, .ifCond .gt 5, 3), (4, .iconst 0, 1), (5, .ireturn, 1), (6, .aload_n 0, 1), (7, .getfield 31, 3), (10, .iload_n 2, 1), (11, .idiv, 1), (12, .iload_n 1, 1), (13, .aload_n 0, 1), (14, .getfield 31, 3), (17, .iload_n 2, 1), (18, .irem, 1), (19, .if_icmp .ge 7, 3), (22, .iconst 1, 1), (23, .goto 4, 3), (26, .iconst 0, 1), (27, .iadd, 1), (28, .ireturn, 1)]
theorem hX2_quantityOfPart_0 : jD cX2_quantityOfPart rX2_quantityOfPart_0 = true := by decide +kernel
def rX2_share_0 : List jI := [(0, .aload_n 0, 1), (1, .getfield 31, 3), (4, .ifCond .gt 7, 3), (7, .iconst 0, 1), (8, .goto 11, 3), (11, .iload_n 1, 1), (12, .iload_n 2, 1), (13, .imul, 1), (14, .aload_n 0, 1), (15, .getfield 31, 3), (18, .idiv, 1), (19, .ireturn, 1)]
theorem hX2_share_0 : jD cX2_share rX2_share_0 = true := by decide +kernel
def rX2_ordersOfParts_0 : List jI := [(0, .iconst 0, 1), (1, .istore_n 2, 1), (2, .iconst 0, 1), (3, .istore_n 3, 1), (4, .iload_n 3, 1), (5, .iload_n 1, 1), (6, .if_icmp .ge 52, 3), (9, .aload_n 0, 1), (10, .iload_n 3, 1), (11, .iload_n 1, 1), (12, .invokevirtual 68, 3), (15, .istore 4, 2), (17, .iconst 0, 1), (18, .istore 5, 2), (20, .iload 5, 2), (22, .bipush 10, 2), (24, .if_icmp .ge 28, 3), (27, .aload_n 0, 1), (28, .aload_n 0, 1), (29, .getfield 9, 3), (32, .iload 5, 2), (34, .iaload, 1), (35, .iload 4, 2), (37, .invokevirtual 72, 3), (40, .ifCond .le 6, 3), (43, .iinc 2 1, 3), (46, .iinc 5 1, 3), (49, .goto (-29), 3), (52, .iinc 3 1, 3), (55, .goto (-51), 3), (58, .iload_n 2, 1), (59, .ireturn, 1)]
theorem hX2_ordersOfParts_0 : jD cX2_ordersOfParts rX2_ordersOfParts_0 = true := by decide +kernel
def rX3_init_0 : List jI := [(0, .aload_n 0, 1), (1, .invokespecial 3, 3), (4, .aload_n 0, 1), (5, .new 9, 3), (8, .dup, 1), (9, .invokespecial 11, 3), (12, .putfield 12, 3), (15, .aload_n 0, 1), (16, .bipush 10, 2), (18, .newarray .int, 2), (20, .putfield 18, 3), (23, .aload_n 0, 1), (24, .bipush 6, 2), (26, .newarray .int, 2), (28, .putfield 22, 3), (31, .aload_n 0, 1), (32, .bipush 20, 2), (34, .anewarray 25, 3), (37, .putfield 27, 3), (40, .aload_n 0, 1), (41, .new 31, 3), (44, .dup, 1), (45, .invokespecial 33, 3), (48, .putfield 34, 3), (51, .iconst 0, 1), (52, .istore_n 1, 1), (53, .iload_n 1, 1), (54, .bipush 10, 2), (56, .if_icmp .ge 18, 3), (59, .aload_n 0, 1), (60, .getfield 18, 3), (63, .iload_n 1, 1), (64, .sipush 20000, 3), (67, .iastore, 1), (68, .iinc 1 1, 3), (71, .goto (-18), 3), (74, .iconst 0, 1), (75, .istore_n 1, 1), (76, .iload_n 1, 1), (77, .bipush 20, 2), (79, .if_icmp .ge 22, 3), (82, .aload_n 0, 1), (83, .getfield 27, 3), (86, .iload_n 1, 1), (87, .new 25, 3), (90, .dup, 1), (91, .invokespecial 38, 3), (94, .aastore, 1), (95, .iinc 1 1, 3), (98, .goto (-22), 3), (101, .return_, 1)]
theorem hX3_init_0 : jD cX3_init rX3_init_0 = true := by decide +kernel
def rX3_take_0 : List jI := [(0, .aload_n 0, 1), (1, .getfield 12, 3), (4, .aload_n 1, 1), (5, .getfield 12, 3), (8, .invokevirtual 39, 3), (11, .aload_n 1, 1), (12, .getfield 18, 3), (15, .iconst 0, 1), (16, .aload_n 0, 1), (17, .getfield 18, 3), (20, .iconst 0, 1), (21, .bipush 10, 2), (23, .invokestatic 43, 3), (26, .aload_n 1, 1), (27, .getfield 22, 3), (30, .iconst 0, 1), (31, .aload_n 0, 1), (32, .getfield 22, 3), (35, .iconst 0, 1), (36, .bipush 6, 2), (38, .invokestatic 43, 3), (41, .iconst 0, 1), (42, .istore_n 2, 1), (43, .iload_n 2, 1), (44, .aload_n 1, 1), (45, .getfield 49, 3), (48, .if_icmp .ge 24, 3), (51, .aload_n 0, 1), (52, .getfield 27, 3), (55, .iload_n 2, 1), (56, .aaload, 1), (57, .aload_n 1, 1), (58, .getfield 27, 3), (61, .iload_n 2, 1), (62, .aaload, 1), (63, .invokevirtual 53, 3), (66, .iinc 2 1, 3), (69, .goto (-26), 3), (72, .aload_n 0, 1), (73, .getfield 34, 3), (76, .aload_n 1, 1), (77, .getfield 34, 3), (80, .invokevirtual 56, 3), (83, .aload_n 0, 1), (84, .aload_n 1, 1), (85, .getfield 49, 3), (88, .putfield 49, 3), (91, .aload_n 0, 1), (92, .aload_n 1, 1), (93, .getfield 59, 3), (96, .putfield 59, 3), (99, .return_, 1)]
theorem hX3_take_0 : jD cX3_take rX3_take_0 = true := by decide +kernel
def rX3_has_0 : List jI := [(0, .iload_n 1, 1), (1, .ifCond .lt 15, 3), (4, .iload_n 1, 1), (5, .aload_n 0, 1), (6, .getfield 49, 3), (9, .if_icmp .ge 7, 3), (12, .iconst 1, 1), (13, .goto 4, 3), (16, .iconst 0, 1), (17, .ireturn, 1)]
theorem hX3_has_0 : jD cX3_has rX3_has_0 = true := by decide +kernel
def rX3_nextNumber_0 : List jI := [(0, .aload_n 0, 1), (1, .dup, 1), (2, .getfield 59, 3), (5, .iconst 1, 1), (6, .iadd, 1), (7, .putfield 59, 3), (10, .aload_n 0, 1), (11, .getfield 59, 3), (14, .ireturn, 1)]
theorem hX3_nextNumber_0 : jD cX3_nextNumber rX3_nextNumber_0 = true := by decide +kernel
def rX3_makeLot_0 : List jI := [(0, .aload_n 0, 1), (1, .getfield 49, 3), (4, .istore 4, 2), (6, .aload_n 0, 1), (7, .getfield 27, 3), (10, .iload 4, 2), (12, .aaload, 1), (13, .iload_n 1, 1), (14, .iload_n 2, 1), (15, .iload_n 3, 1), (16, .invokevirtual 62, 3), (19, .aload_n 0, 1), (20, .dup, 1), (21, .getfield 49, 3), (24, .iconst 1, 1), (25, .iadd, 1), (26, .putfield 49, 3), (29, .iload 4, 2), (31, .ireturn, 1)]
theorem hX3_makeLot_0 : jD cX3_makeLot rX3_makeLot_0 = true := by decide +kernel
def rX3_makePart_0 : List jI := [(0, .aload_n 0, 1), (1, .aload_n 1, 1), (2, .getfield 66, 3), (5, .iload_n 2, 1), (6, .aload_n 1, 1), (7, .aload_n 1, 1), (8, .getfield 69, 3), (11, .iload_n 2, 1), (12, .invokevirtual 72, 3), (15, .invokevirtual 76, 3), (18, .istore_n 3, 1), (19, .iconst 0, 1), (20, .istore 4, 2), (22, .iload 4, 2), (24, .bipush 10, 2), (26, .if_icmp .ge 45, 3), (29, .aload_n 1, 1), (30, .aload_n 1, 1), (31, .getfield 80, 3), (34, .iload 4, 2), (36, .iaload, 1), (37, .iload_n 2, 1), (38, .invokevirtual 72, 3), (41, .istore 5, 2), (43, .iload 5, 2), (45, .ifCond .le 20, 3), (48, .aload_n 0, 1), (49, .getfield 27, 3), (52, .iload_n 3, 1), (53, .aaload, 1), (54, .iload 4, 2), (56, .iload 5, 2), (58, .aload_n 0, 1), (59, .invokevirtual 83, 3), (62, .invokevirtual 87, 3), (65, .iinc 4 1, 3), (68, .goto (-46), 3), (71, .return_, 1)]
theorem hX3_makePart_0 : jD cX3_makePart rX3_makePart_0 = true := by decide +kernel
def rX3_makeGroup_0 : List jI := [(0, .aload_n 0, 1), (1, .aload_n 1, 1), (2, .getfield 66, 3), (5, .aload_n 1, 1), (6, .getfield 90, 3), (9, .aload_n 2, 1), (10, .getfield 90, 3), (13, .iadd, 1), (14, .aload_n 1, 1), (15, .getfield 69, 3), (18, .aload_n 2, 1), (19, .getfield 69, 3), (22, .iadd, 1), (23, .invokevirtual 76, 3), (26, .istore_n 3, 1), (27, .iconst 0, 1), (28, .istore 4, 2), (30, .iload 4, 2), (32, .bipush 10, 2), (34, .if_icmp .ge 68, 3), (37, .aload_n 1, 1), (38, .getfield 80, 3), (41, .iload 4, 2), (43, .iaload, 1), (44, .ifCond .le 52, 3), (47, .aload_n 2, 1), (48, .getfield 80, 3), (51, .iload 4, 2), (53, .iaload, 1), (54, .ifCond .le 42, 3), (57, .aload_n 1, 1), (58, .getfield 80, 3), (61, .iload 4, 2), (63, .iaload, 1), (64, .aload_n 2, 1), (65, .getfield 80, 3), (68, .iload 4, 2), (70, .iaload, 1), (71, .iadd, 1), (72, .istore 5, 2), (74, .aload_n 0, 1), (75, .getfield 27, 3), (78, .iload_n 3, 1), (79, .aaload, 1), (80, .iload 4, 2), (82, .iload 5, 2), (84, .ldc 93, 2), (86, .invokestatic 94, 3), (89, .aload_n 0, 1), (90, .invokevirtual 83, 3), (93, .invokevirtual 87, 3), (96, .iinc 4 1, 3), (99, .goto (-69), 3), (102, .iload_n 3, 1), (103, .ireturn, 1)]
theorem hX3_makeGroup_0 : jD cX3_makeGroup rX3_makeGroup_0 = true := by decide +kernel
def rX3_orderCount_0 : List jI := [(0, .iconst 0, 1), (1, .istore_n 1, 1), (2, .iconst 0, 1), (3, .istore_n 2, 1), (4, .iload_n 2, 1), (5, .aload_n 0, 1), (6, .getfield 49, 3), (9, .if_icmp .ge 21, 3), (12, .iload_n 1, 1), (13, .aload_n 0, 1), (14, .getfield 27, 3), (17, .iload_n 2, 1), (18, .aaload, 1), (19, .invokevirtual 99, 3), (22, .iadd, 1), (23, .istore_n 1, 1), (24, .iinc 2 1, 3), (27, .goto (-23), 3), (30, .iload_n 1, 1), (31, .ireturn, 1)]
theorem hX3_orderCount_0 : jD cX3_orderCount rX3_orderCount_0 = true := by decide +kernel
def rX3_lotsIn_0 : List jI := [(0, .iconst 0, 1), (1, .istore_n 2, 1), (2, .iconst 0, 1), (3, .istore_n 3, 1), (4, .iload_n 3, 1), (5, .aload_n 0, 1), (6, .getfield 49, 3), (9, .if_icmp .ge 25, 3), (12, .aload_n 0, 1), (13, .getfield 27, 3), (16, .iload_n 3, 1), (17, .aaload, 1), (18, .getfield 102, 3), (21, .iload_n 1, 1), (22, .if_icmp .ne 6, 3), (25, .iinc 2 1, 3), (28, .iinc 3 1, 3), (31, .goto (-27), 3), (34, .iload_n 2, 1), (35, .ireturn, 1)]
theorem hX3_lotsIn_0 : jD cX3_lotsIn rX3_lotsIn_0 = true := by decide +kernel
def rX3_lotsTo_0 : List jI := [(0, .iconst 0, 1), (1, .istore_n 2, 1), (2, .iconst 0, 1), (3, .istore_n 3, 1), (4, .iload_n 3, 1), (5, .aload_n 0, 1), (6, .getfield 49, 3), (9, .if_icmp .ge 21, 3), (12, .aload_n 0, 1), (13, .iload_n 3, 1), (14, .iload_n 1, 1), (15, .invokevirtual 105, 3), (18, .ifCond .eq 6, 3), (21, .iinc 2 1, 3), (24, .iinc 3 1, 3), (27, .goto (-23), 3), (30, .iload_n 2, 1), (31, .ireturn, 1)]
theorem hX3_lotsTo_0 : jD cX3_lotsTo rX3_lotsTo_0 = true := by decide +kernel
def rX3_pricesTo_0 : List jI := [(0, .iconst 0, 1), (1, .istore_n 2, 1), (2, .iconst 0, 1), (3, .istore_n 3, 1), (4, .iload_n 3, 1), (5, .aload_n 0, 1), (6, .getfield 49, 3), (9, .if_icmp .ge 30, 3), (12, .aload_n 0, 1), (13, .iload_n 3, 1), (14, .iload_n 1, 1), (15, .invokevirtual 105, 3), (18, .ifCond .eq 15, 3), (21, .iload_n 2, 1), (22, .aload_n 0, 1), (23, .getfield 27, 3), (26, .iload_n 3, 1), (27, .aaload, 1), (28, .getfield 109, 3), (31, .iadd, 1), (32, .istore_n 2, 1), (33, .iinc 3 1, 3), (36, .goto (-32), 3), (39, .iload_n 2, 1), (40, .ireturn, 1)]
theorem hX3_pricesTo_0 : jD cX3_pricesTo rX3_pricesTo_0 = true := by decide +kernel
def rX3_premiumsOf_0 : List jI := [(0, .iconst 0, 1), (1, .istore_n 2, 1), (2, .iconst 0, 1), (3, .istore_n 3, 1), (4, .iload_n 3, 1), (5, .aload_n 0, 1), (6, .getfield 49, 3), (9, .if_icmp .ge 33, 3), (12, .aload_n 0, 1), (13, .iload_n 3, 1), (14, .iload_n 1, 1), (15, .invokevirtual 105, 3), (18, .ifCond .eq 18, 3), (21, .iload_n 2, 1), (22, .aload_n 0, 1), (23, .getfield 27, 3), (26, .iload_n 3, 1), (27, .aaload, 1), (28, .getfield 109, 3), (31, .invokestatic 112, 3), (34, .iadd, 1), (35, .istore_n 2, 1), (36, .iinc 3 1, 3), (39, .goto (-35), 3), (42, .iload_n 2, 1), (43, .ireturn, 1)]
theorem hX3_premiumsOf_0 : jD cX3_premiumsOf rX3_premiumsOf_0 = true := by decide +kernel
def rX3_isSoldTo_0 : List jI := [(0, .aload_n 0, 1), (1, .getfield 27, 3), (4, .iload_n 1, 1), (5, .aaload, 1), (6, .getfield 102, 3), (9, .iconst 2, 1), (10, .if_icmp .ne 20, 3), (13, .aload_n 0, 1), (14, .getfield 27, 3), (17, .iload_n 1, 1), (18, .aaload, 1), (19, .getfield 116, 3), (22, .iload_n 2, 1), (23, .if_icmp .ne 7, 3), (26, .iconst 1, 1), (27, .goto 4, 3), (30, .iconst 0, 1), (31, .ireturn, 1)]
theorem hX3_isSoldTo_0 : jD cX3_isSoldTo rX3_isSoldTo_0 = true := by decide +kernel
def rX3_lotsOf_0 : List jI := [(0, .iconst 0, 1), (1, .istore_n 3, 1), (2, .iconst 0, 1), (3, .istore 4, 2), (5, .iload 4, 2), (7, .aload_n 0, 1), (8, .getfield 49, 3), (11, .if_icmp .ge 40, 3), (14, .aload_n 0, 1), (15, .getfield 27, 3), (18, .iload 4, 2), (20, .aaload, 1), (21, .getfield 66, 3), (24, .iload_n 1, 1), (25, .if_icmp .ne 20, 3), (28, .aload_n 0, 1), (29, .getfield 27, 3), (32, .iload 4, 2), (34, .aaload, 1), (35, .getfield 102, 3), (38, .iload_n 2, 1), (39, .if_icmp .ne 6, 3), (42, .iinc 3 1, 3), (45, .iinc 4 1, 3), (48, .goto (-43), 3), (51, .iload_n 3, 1), (52, .ireturn, 1)]
theorem hX3_lotsOf_0 : jD cX3_lotsOf rX3_lotsOf_0 = true := by decide +kernel
def rX3_pricesFor_0 : List jI := [(0, .iconst 0, 1), (1, .istore_n 2, 1), (2, .iconst 0, 1), (3, .istore_n 3, 1), (4, .iload_n 3, 1), (5, .aload_n 0, 1), (6, .getfield 49, 3), (9, .if_icmp .ge 47, 3), (12, .aload_n 0, 1), (13, .getfield 27, 3), (16, .iload_n 3, 1), (17, .aaload, 1), (18, .getfield 66, 3), (21, .iload_n 1, 1), (22, .if_icmp .ne 28, 3), (25, .aload_n 0, 1), (26, .getfield 27, 3), (29, .iload_n 3, 1), (30, .aaload, 1), (31, .getfield 102, 3), (34, .iconst 2, 1), (35, .if_icmp .ne 15, 3), (38, .iload_n 2, 1), (39, .aload_n 0, 1), (40, .getfield 27, 3), (43, .iload_n 3, 1), (44, .aaload, 1), (45, .getfield 109, 3), (48, .iadd, 1), (49, .istore_n 2, 1), (50, .iinc 3 1, 3), (53, .goto (-49), 3), (56, .iload_n 2, 1), (57, .ireturn, 1)]
theorem hX3_pricesFor_0 : jD cX3_pricesFor rX3_pricesFor_0 = true := by decide +kernel
def rX3_commissionsOf_0 : List jI := [(0, .iconst 0, 1), (1, .istore_n 2, 1), (2, .iconst 0, 1), (3, .istore_n 3, 1), (4, .iload_n 3, 1), (5, .aload_n 0, 1), (6, .getfield 49, 3), (9, .if_icmp .ge 50, 3), (12, .aload_n 0, 1), (13, .getfield 27, 3), (16, .iload_n 3, 1), (17, .aaload, 1), (18, .getfield 66, 3), (21, .iload_n 1, 1), (22, .if_icmp .ne 31, 3), (25, .aload_n 0, 1), (26, .getfield 27, 3), (29, .iload_n 3, 1), (30, .aaload, 1), (31, .getfield 102, 3), (34, .iconst 2, 1), (35, .if_icmp .ne 18, 3), (38, .iload_n 2, 1), (39, .aload_n 0, 1), (40, .getfield 27, 3), (43, .iload_n 3, 1), (44, .aaload, 1), (45, .getfield 109, 3), (48, .invokestatic 119, 3), (51, .iadd, 1), (52, .istore_n 2, 1), (53, .iinc 3 1, 3), (56, .goto (-52), 3), (59, .iload_n 2, 1), (60, .ireturn, 1)]
theorem hX3_commissionsOf_0 : jD cX3_commissionsOf rX3_commissionsOf_0 = true := by decide +kernel
def rX3_proceedsOf_0 : List jI := [(0, .aload_n 0, 1), (1, .iload_n 1, 1), (2, .invokevirtual 122, 3), (5, .aload_n 0, 1), (6, .iload_n 1, 1), (7, .invokevirtual 125, 3), (10, .isub, 1), (11, .aload_n 0, 1), (12, .getfield 22, 3), (15, .iload_n 1, 1), (16, .iaload, 1), (17, .isub, 1), (18, .ireturn, 1)]
theorem hX3_proceedsOf_0 : jD cX3_proceedsOf rX3_proceedsOf_0 = true := by decide +kernel
def rX3_feesInLedger_0 : List jI := [(0, .iconst 0, 1), (1, .istore_n 2, 1), (2, .iconst 0, 1), (3, .istore_n 3, 1), (4, .iload_n 3, 1), (5, .aload_n 0, 1), (6, .getfield 34, 3), (9, .getfield 128, 3), (12, .if_icmp .ge 68, 3), (15, .aload_n 0, 1), (16, .getfield 34, 3), (19, .getfield 131, 3), (22, .iload_n 3, 1), (23, .iaload, 1), (24, .istore 4, 2), (26, .aload_n 0, 1), (27, .getfield 34, 3), (30, .getfield 133, 3), (33, .iload_n 3, 1), (34, .iaload, 1), (35, .iconst 4, 1), (36, .if_icmp .ne 38, 3), (39, .aload_n 0, 1), (40, .iload 4, 2), (42, .invokevirtual 136, 3), (45, .ifCond .eq 29, 3), (48, .aload_n 0, 1), (49, .getfield 27, 3), (52, .iload 4, 2), (54, .aaload, 1), (55, .getfield 66, 3), (58, .iload_n 1, 1), (59, .if_icmp .ne 15, 3), (62, .iload_n 2, 1), (63, .aload_n 0, 1), (64, .getfield 34, 3), (67, .getfield 140, 3), (70, .iload_n 3, 1), (71, .iaload, 1), (72, .iadd, 1), (73, .istore_n 2, 1), (74, .iinc 3 1, 3), (77, .goto (-73), 3), (80, .iload_n 2, 1), (81, .ireturn, 1)]
theorem hX3_feesInLedger_0 : jD cX3_feesInLedger rX3_feesInLedger_0 = true := by decide +kernel
def rX4_init_0 : List jI := [(0, .aload_n 0, 1), (1, .invokespecial 3, 3), (4, .aload_n 0, 1), (5, .bipush 10, 2), (7, .newarray .int, 2), (9, .putfield 9, 3), (12, .aload_n 0, 1), (13, .bipush 10, 2), (15, .newarray .int, 2), (17, .putfield 15, 3), (20, .return_, 1)]
theorem hX4_init_0 : jD cX4_init rX4_init_0 = true := by decide +kernel
def rX4_settle_0 : List jI := [(0, .iconst 0, 1), (1, .istore_n 3, 1), (2, .iload_n 3, 1), (3, .bipush 10, 2), (5, .if_icmp .ge 101, 3), (8, .aload_n 2, 1), (9, .aload_n 1, 1), (10, .getfield 18, 3), (13, .iload_n 3, 1), (14, .iaload, 1), (15, .invokevirtual 23, 3), (18, .istore 4, 2), (20, .aload_n 1, 1), (21, .getfield 29, 3), (24, .iload_n 3, 1), (25, .iaload, 1), (26, .istore 5, 2), (28, .aload_n 0, 1), (29, .getfield 9, 3), (32, .iload_n 3, 1), (33, .iload 4, 2), (35, .iload 5, 2), (37, .invokestatic 32, 3), (40, .iastore, 1), (41, .iload 4, 2), (43, .iload 5, 2), (45, .if_icmp .ne 27, 3), (48, .aload_n 0, 1), (49, .getfield 15, 3), (52, .iload_n 3, 1), (53, .aload_n 1, 1), (54, .getfield 38, 3), (57, .iload_n 3, 1), (58, .iaload, 1), (59, .aload_n 1, 1), (60, .getfield 41, 3), (63, .iload_n 3, 1), (64, .iaload, 1), (65, .invokestatic 44, 3), (68, .iastore, 1), (69, .goto 31, 3), (72, .aload_n 0, 1), (73, .getfield 15, 3), (76, .iload_n 3, 1), (77, .iload 4, 2), (79, .iload 5, 2), (81, .if_icmp .le 12, 3), (84, .aload_n 1, 1), (85, .getfield 38, 3), (88, .iload_n 3, 1), (89, .iaload, 1), (90, .goto 9, 3), (93, .aload_n 1, 1), (94, .getfield 41, 3), (97, .iload_n 3, 1), (98, .iaload, 1), (99, .iastore, 1), (100, .iinc 3 1, 3), (103, .goto (-101), 3), (106, .aload_n 0, 1)]
theorem hX4_settle_0 : jD cX4_settle rX4_settle_0 = true := by decide +kernel
def rX4_settle_1 : List jI := [(107, .aload_n 1, 1), (108, .getfield 47, 3), (111, .ifCond .le 16, 3), (114, .aload_n 2, 1), (115, .aload_n 1, 1), (116, .getfield 47, 3), (119, .iconst 1, 1), (120, .isub, 1), (121, .invokevirtual 23, 3), (124, .goto 4, 3), (127, .iconst 0, 1), (128, .putfield 51, 3), (131, .aload_n 0, 1), (132, .invokevirtual 54, 3), (135, .return_, 1)]
theorem hX4_settle_1 : jD cX4_settle rX4_settle_1 = true := by decide +kernel
def rX4_raise_0 : List jI := [(0, .iload_n 2, 1), (1, .aload_n 0, 1), (2, .getfield 9, 3), (5, .iload_n 1, 1), (6, .iaload, 1), (7, .if_icmp .le 21, 3), (10, .aload_n 0, 1), (11, .getfield 9, 3), (14, .iload_n 1, 1), (15, .iload_n 2, 1), (16, .iastore, 1), (17, .aload_n 0, 1), (18, .getfield 15, 3), (21, .iload_n 1, 1), (22, .iload_n 3, 1), (23, .iastore, 1), (24, .aload_n 0, 1), (25, .invokevirtual 54, 3), (28, .return_, 1)]
theorem hX4_raise_0 : jD cX4_raise rX4_raise_0 = true := by decide +kernel
def rX4_findLeader_0 : List jI := [(0, .iconst (-1), 1), (1, .istore_n 1, 1), (2, .iconst 0, 1), (3, .istore_n 2, 1), (4, .iconst 0, 1), (5, .istore_n 3, 1), (6, .iconst 0, 1), (7, .istore 4, 2), (9, .iload 4, 2), (11, .bipush 10, 2), (13, .if_icmp .ge 62, 3), (16, .aload_n 0, 1), (17, .getfield 9, 3), (20, .iload 4, 2), (22, .iaload, 1), (23, .ifCond .le 34, 3), (26, .iload_n 1, 1), (27, .iconst (-1), 1), (28, .if_icmp .eq 13, 3), (31, .aload_n 0, 1), (32, .iload 4, 2), (34, .iload_n 1, 1), (35, .invokevirtual 57, 3), (38, .ifCond .eq 19, 3), (41, .iload_n 2, 1), (42, .istore_n 3, 1), (43, .iload 4, 2), (45, .istore_n 1, 1), (46, .aload_n 0, 1), (47, .getfield 9, 3), (50, .iload 4, 2), (52, .iaload, 1), (53, .istore_n 2, 1), (54, .goto 15, 3), (57, .iload_n 3, 1), (58, .aload_n 0, 1), (59, .getfield 9, 3), (62, .iload 4, 2), (64, .iaload, 1), (65, .invokestatic 32, 3), (68, .istore_n 3, 1), (69, .iinc 4 1, 3), (72, .goto (-63), 3), (75, .aload_n 0, 1), (76, .getfield 51, 3), (79, .iload_n 2, 1), (80, .if_icmp .le 25, 3), (83, .aload_n 0, 1), (84, .bipush 10, 2), (86, .putfield 61, 3), (89, .aload_n 0, 1), (90, .aload_n 0, 1), (91, .getfield 51, 3), (94, .putfield 64, 3), (97, .aload_n 0, 1), (98, .iload_n 2, 1), (99, .putfield 67, 3), (102, .goto 25, 3), (105, .aload_n 0, 1), (106, .iload_n 1, 1)]
theorem hX4_findLeader_0 : jD cX4_findLeader rX4_findLeader_0 = true := by decide +kernel
def rX4_findLeader_1 : List jI := [(107, .putfield 61, 3), (110, .aload_n 0, 1), (111, .iload_n 2, 1), (112, .putfield 64, 3), (115, .aload_n 0, 1), (116, .aload_n 0, 1), (117, .getfield 51, 3), (120, .iload_n 3, 1), (121, .invokestatic 32, 3), (124, .putfield 67, 3), (127, .return_, 1)]
theorem hX4_findLeader_1 : jD cX4_findLeader rX4_findLeader_1 = true := by decide +kernel
def rX4_isAhead_0 : List jI := [(0, .aload_n 0, 1), (1, .getfield 9, 3), (4, .iload_n 1, 1), (5, .iaload, 1), (6, .aload_n 0, 1), (7, .getfield 9, 3), (10, .iload_n 2, 1), (11, .iaload, 1), (12, .if_icmp .eq 24, 3), (15, .aload_n 0, 1), (16, .getfield 9, 3), (19, .iload_n 1, 1), (20, .iaload, 1), (21, .aload_n 0, 1), (22, .getfield 9, 3), (25, .iload_n 2, 1), (26, .iaload, 1), (27, .if_icmp .le 7, 3), (30, .iconst 1, 1), (31, .goto 4, 3), (34, .iconst 0, 1), (35, .ireturn, 1), (36, .aload_n 0, 1), (37, .getfield 15, 3), (40, .iload_n 1, 1), (41, .iaload, 1), (42, .aload_n 0, 1), (43, .getfield 15, 3), (46, .iload_n 2, 1), (47, .iaload, 1), (48, .if_icmp .ge 7, 3), (51, .iconst 1, 1), (52, .goto 4, 3), (55, .iconst 0, 1), (56, .ireturn, 1)]
theorem hX4_isAhead_0 : jD cX4_isAhead rX4_isAhead_0 = true := by decide +kernel
def rX4_price_0 : List jI := [(0, .aload_n 0, 1), (1, .getfield 61, 3), (4, .iconst (-1), 1), (5, .if_icmp .ne 7, 3), (8, .iconst 0, 1), (9, .goto 18, 3), (12, .aload_n 0, 1), (13, .getfield 64, 3), (16, .aload_n 1, 1), (17, .aload_n 0, 1), (18, .getfield 67, 3), (21, .invokevirtual 70, 3), (24, .invokestatic 44, 3), (27, .ireturn, 1)]
theorem hX4_price_0 : jD cX4_price rX4_price_0 = true := by decide +kernel
def rX4_meets_0 : List jI := [(0, .aload_n 0, 1), (1, .getfield 61, 3), (4, .iconst (-1), 1), (5, .if_icmp .eq 25, 3), (8, .aload_n 0, 1), (9, .getfield 61, 3), (12, .bipush 10, 2), (14, .if_icmp .eq 16, 3), (17, .aload_n 0, 1), (18, .aload_n 2, 1), (19, .invokevirtual 73, 3), (22, .iload_n 1, 1), (23, .if_icmp .lt 7, 3), (26, .iconst 1, 1), (27, .goto 4, 3), (30, .iconst 0, 1), (31, .ireturn, 1)]
theorem hX4_meets_0 : jD cX4_meets rX4_meets_0 = true := by decide +kernel
def rX4_reasonBelowReserve_0 : List jI := [(0, .aload_n 0, 1), (1, .getfield 61, 3), (4, .iconst (-1), 1), (5, .if_icmp .ne 5, 3), (8, .iconst 1, 1), (9, .ireturn, 1), (10, .aload_n 0, 1), (11, .getfield 61, 3), (14, .bipush 10, 2), (16, .if_icmp .ne 7, 3), (19, .iconst 2, 1), (20, .goto 4, 3), (23, .iconst 3, 1), (24, .ireturn, 1)]
theorem hX4_reasonBelowReserve_0 : jD cX4_reasonBelowReserve rX4_reasonBelowReserve_0 = true := by decide +kernel
def rX4_counting_0 : List jI := [(0, .iconst 0, 1), (1, .istore_n 1, 1), (2, .iconst 0, 1), (3, .istore_n 2, 1), (4, .iload_n 2, 1), (5, .bipush 10, 2), (7, .if_icmp .ge 21, 3), (10, .aload_n 0, 1), (11, .getfield 9, 3), (14, .iload_n 2, 1), (15, .iaload, 1), (16, .ifCond .le 6, 3), (19, .iinc 1 1, 3), (22, .iinc 2 1, 3), (25, .goto (-21), 3), (28, .iload_n 1, 1), (29, .ireturn, 1)]
theorem hX4_counting_0 : jD cX4_counting rX4_counting_0 = true := by decide +kernel
def rX4_bidderAt_0 : List jI := [(0, .iconst 0, 1), (1, .istore_n 2, 1), (2, .iload_n 2, 1), (3, .bipush 10, 2), (5, .if_icmp .ge 29, 3), (8, .aload_n 0, 1), (9, .getfield 9, 3), (12, .iload_n 2, 1), (13, .iaload, 1), (14, .ifCond .le 14, 3), (17, .aload_n 0, 1), (18, .iload_n 2, 1), (19, .invokevirtual 77, 3), (22, .iload_n 1, 1), (23, .if_icmp .ne 5, 3), (26, .iload_n 2, 1), (27, .ireturn, 1), (28, .iinc 2 1, 3), (31, .goto (-29), 3), (34, .iconst (-1), 1), (35, .ireturn, 1)]
theorem hX4_bidderAt_0 : jD cX4_bidderAt rX4_bidderAt_0 = true := by decide +kernel
def rX4_aheadOf_0 : List jI := [(0, .iconst 0, 1), (1, .istore_n 2, 1), (2, .iconst 0, 1), (3, .istore_n 3, 1), (4, .iload_n 3, 1), (5, .bipush 10, 2), (7, .if_icmp .ge 35, 3), (10, .iload_n 3, 1), (11, .iload_n 1, 1), (12, .if_icmp .eq 24, 3), (15, .aload_n 0, 1), (16, .getfield 9, 3), (19, .iload_n 3, 1), (20, .iaload, 1), (21, .ifCond .le 15, 3), (24, .aload_n 0, 1), (25, .iload_n 3, 1), (26, .iload_n 1, 1), (27, .invokevirtual 57, 3), (30, .ifCond .eq 6, 3), (33, .iinc 2 1, 3), (36, .iinc 3 1, 3), (39, .goto (-35), 3), (42, .iload_n 2, 1), (43, .ireturn, 1)]
theorem hX4_aheadOf_0 : jD cX4_aheadOf rX4_aheadOf_0 = true := by decide +kernel
def rX5_init_0 : List jI := [(0, .aload_n 0, 1), (1, .invokespecial 3, 3), (4, .aload_n 0, 1), (5, .bipush 6, 2), (7, .newarray .int, 2), (9, .putfield 9, 3), (12, .aload_n 0, 1), (13, .bipush 6, 2), (15, .newarray .int, 2), (17, .putfield 15, 3), (20, .aload_n 0, 1), (21, .getstatic 18, 3), (24, .arraylength, 1), (25, .putfield 21, 3), (28, .getstatic 18, 3), (31, .iconst 0, 1), (32, .aload_n 0, 1), (33, .getfield 9, 3), (36, .iconst 0, 1), (37, .getstatic 18, 3), (40, .arraylength, 1), (41, .invokestatic 25, 3), (44, .getstatic 31, 3), (47, .iconst 0, 1), (48, .aload_n 0, 1), (49, .getfield 15, 3), (52, .iconst 0, 1), (53, .getstatic 31, 3), (56, .arraylength, 1), (57, .invokestatic 25, 3), (60, .return_, 1)]
theorem hX5_init_0 : jD cX5_init rX5_init_0 = true := by decide +kernel
def rX5_take_0 : List jI := [(0, .aload_n 0, 1), (1, .aload_n 1, 1), (2, .getfield 21, 3), (5, .putfield 21, 3), (8, .aload_n 1, 1), (9, .getfield 9, 3), (12, .iconst 0, 1), (13, .aload_n 0, 1), (14, .getfield 9, 3), (17, .iconst 0, 1), (18, .bipush 6, 2), (20, .invokestatic 25, 3), (23, .aload_n 1, 1), (24, .getfield 15, 3), (27, .iconst 0, 1), (28, .aload_n 0, 1), (29, .getfield 15, 3), (32, .iconst 0, 1), (33, .bipush 6, 2), (35, .invokestatic 25, 3), (38, .return_, 1)]
theorem hX5_take_0 : jD cX5_take rX5_take_0 = true := by decide +kernel
def rX5_canFollow_0 : List jI := [(0, .iload_n 1, 1), (1, .ifCond .ne 15, 3), (4, .iload_n 2, 1), (5, .ifCond .ne 7, 3), (8, .iconst 1, 1), (9, .goto 24, 3), (12, .iconst 0, 1), (13, .goto 20, 3), (16, .iload_n 2, 1), (17, .aload_n 0, 1), (18, .getfield 9, 3), (21, .iload_n 1, 1), (22, .iconst 1, 1), (23, .isub, 1), (24, .iaload, 1), (25, .if_icmp .le 7, 3), (28, .iconst 1, 1), (29, .goto 4, 3), (32, .iconst 0, 1), (33, .ireturn, 1)]
theorem hX5_canFollow_0 : jD cX5_canFollow rX5_canFollow_0 = true := by decide +kernel
def rX5_putLast_0 : List jI := [(0, .aload_n 0, 1), (1, .getfield 9, 3), (4, .iload_n 1, 1), (5, .iload_n 2, 1), (6, .iastore, 1), (7, .aload_n 0, 1), (8, .getfield 15, 3), (11, .iload_n 1, 1), (12, .iload_n 3, 1), (13, .iastore, 1), (14, .aload_n 0, 1), (15, .iload_n 1, 1), (16, .iconst 1, 1), (17, .iadd, 1), (18, .putfield 21, 3), (21, .return_, 1)]
theorem hX5_putLast_0 : jD cX5_putLast rX5_putLast_0 = true := by decide +kernel
def rX5_stepAt_0 : List jI := [(0, .iconst 0, 1), (1, .istore_n 2, 1), (2, .iconst 0, 1), (3, .istore_n 3, 1), (4, .iload_n 3, 1), (5, .aload_n 0, 1), (6, .getfield 21, 3), (9, .if_icmp .ge 98, 3), (12, .iconst 1, 1), (13, .aload_n 0, 1), (14, .getfield 15, 3), (17, .iload_n 3, 1), (18, .iaload, 1), (19, .invokestatic 34, 3), (22, .istore 4, 2), (24, .iload_n 1, 1), (25, .iload_n 2, 1), (26, .isub, 1), (27, .iload 4, 2), (29, .idiv, 1), (30, .istore 5, 2), (32, .iload_n 3, 1), (33, .iconst 1, 1), (34, .iadd, 1), (35, .aload_n 0, 1), (36, .getfield 21, 3), (39, .if_icmp .ne 11, 3), (42, .iload_n 2, 1), (43, .iload 5, 2), (45, .iload 4, 2), (47, .imul, 1), (48, .iadd, 1), (49, .ireturn, 1), (50, .iconst 0, 1), (51, .aload_n 0, 1), (52, .getfield 9, 3), (55, .iload_n 3, 1), (56, .iconst 1, 1), (57, .iadd, 1), (58, .iaload, 1), (59, .iload_n 2, 1), (60, .isub, 1), (61, .invokestatic 34, 3), (64, .istore 6, 2), (66, .iload 6, 2), (68, .iload 4, 2), (70, .iadd, 1), (71, .iconst 1, 1), (72, .isub, 1), (73, .iload 4, 2), (75, .idiv, 1), (76, .istore 7, 2), (78, .iload 5, 2), (80, .iload 7, 2), (82, .if_icmp .ge 11, 3), (85, .iload_n 2, 1), (86, .iload 5, 2), (88, .iload 4, 2), (90, .imul, 1), (91, .iadd, 1)]
theorem hX5_stepAt_0 : jD cX5_stepAt rX5_stepAt_0 = true := by decide +kernel
def rX5_stepAt_1 : List jI := [(92, .ireturn, 1), (93, .iload_n 2, 1), (94, .iload 7, 2), (96, .iload 4, 2), (98, .imul, 1), (99, .iadd, 1), (100, .istore_n 2, 1), (101, .iinc 3 1, 3), (104, .goto (-100), 3), (107, .iload_n 2, 1), (108, .ireturn, 1)]
theorem hX5_stepAt_1 : jD cX5_stepAt rX5_stepAt_1 = true := by decide +kernel
def rX5_stepAfter_0 : List jI := [(0, .aload_n 0, 1), (1, .iload_n 1, 1), (2, .invokevirtual 40, 3), (5, .istore_n 2, 1), (6, .aload_n 0, 1), (7, .getfield 15, 3), (10, .iconst 0, 1), (11, .iaload, 1), (12, .istore_n 3, 1), (13, .iconst 1, 1), (14, .istore 4, 2), (16, .iload 4, 2), (18, .aload_n 0, 1), (19, .getfield 21, 3), (22, .if_icmp .ge 28, 3), (25, .aload_n 0, 1), (26, .getfield 9, 3), (29, .iload 4, 2), (31, .iaload, 1), (32, .iload_n 2, 1), (33, .if_icmp .gt 11, 3), (36, .aload_n 0, 1), (37, .getfield 15, 3), (40, .iload 4, 2), (42, .iaload, 1), (43, .istore_n 3, 1), (44, .iinc 4 1, 3), (47, .goto (-31), 3), (50, .iload_n 2, 1), (51, .iload_n 3, 1), (52, .iadd, 1), (53, .ireturn, 1)]
theorem hX5_stepAfter_0 : jD cX5_stepAfter rX5_stepAfter_0 = true := by decide +kernel
def rX5_isStep_0 : List jI := [(0, .iload_n 1, 1), (1, .ifCond .le 16, 3), (4, .aload_n 0, 1), (5, .iload_n 1, 1), (6, .invokevirtual 40, 3), (9, .iload_n 1, 1), (10, .if_icmp .ne 7, 3), (13, .iconst 1, 1), (14, .goto 4, 3), (17, .iconst 0, 1), (18, .ireturn, 1)]
theorem hX5_isStep_0 : jD cX5_isStep rX5_isStep_0 = true := by decide +kernel
def rX6_init_0 : List jI := [(0, .aload_n 0, 1), (1, .invokespecial 3, 3), (4, .aload_n 0, 1), (5, .bipush 60, 2), (7, .newarray .char, 2), (9, .putfield 9, 3), (12, .aload_n 0, 1), (13, .iconst 3, 1), (14, .newarray .int, 2), (16, .putfield 15, 3), (19, .return_, 1)]
theorem hX6_init_0 : jD cX6_init rX6_init_0 = true := by decide +kernel
def rX6_add_0 : List jI := [(0, .aload_n 0, 1), (1, .getfield 19, 3), (4, .bipush 60, 2), (6, .if_icmp .ge 23, 3), (9, .aload_n 0, 1), (10, .getfield 9, 3), (13, .aload_n 0, 1), (14, .getfield 19, 3), (17, .iload_n 1, 1), (18, .castore, 1), (19, .aload_n 0, 1), (20, .dup, 1), (21, .getfield 19, 3), (24, .iconst 1, 1), (25, .iadd, 1), (26, .putfield 19, 3), (29, .return_, 1)]
theorem hX6_add_0 : jD cX6_add rX6_add_0 = true := by decide +kernel
def rX6_empty_0 : List jI := [(0, .aload_n 0, 1), (1, .iconst 0, 1), (2, .putfield 19, 3), (5, .return_, 1)]
theorem hX6_empty_0 : jD cX6_empty rX6_empty_0 = true := by decide +kernel
def rX6_findFault_0 : List jI := [(0, .aload_n 0, 1), (1, .iconst 0, 1), (2, .putfield 23, 3), (5, .iconst 1, 1), (6, .istore_n 1, 1), (7, .iload_n 1, 1), (8, .bipush 60, 2), (10, .if_icmp .gt 53, 3), (13, .aload_n 0, 1), (14, .invokevirtual 26, 3), (17, .ifCond .ne 8, 3), (20, .aload_n 0, 1), (21, .getfield 23, 3), (24, .ireturn, 1), (25, .aload_n 0, 1), (26, .getfield 23, 3), (29, .aload_n 0, 1), (30, .getfield 19, 3), (33, .if_icmp .ne 10, 3), (36, .aload_n 0, 1), (37, .iload_n 1, 1), (38, .putfield 30, 3), (41, .iconst (-1), 1), (42, .ireturn, 1), (43, .aload_n 0, 1), (44, .bipush 59, 2), (46, .invokevirtual 33, 3), (49, .ifCond .ne 8, 3), (52, .aload_n 0, 1), (53, .getfield 23, 3), (56, .ireturn, 1), (57, .iinc 1 1, 3), (60, .goto (-53), 3), (63, .aload_n 0, 1), (64, .getfield 23, 3), (67, .ireturn, 1)]
theorem hX6_findFault_0 : jD cX6_findFault rX6_findFault_0 = true := by decide +kernel
def rX6_readNext_0 : List jI := [(0, .iload_n 1, 1), (1, .ifCond .ne 13, 3), (4, .aload_n 0, 1), (5, .iconst 0, 1), (6, .putfield 23, 3), (9, .aload_n 0, 1), (10, .invokevirtual 26, 3), (13, .ireturn, 1), (14, .aload_n 0, 1), (15, .bipush 59, 2), (17, .invokevirtual 33, 3), (20, .ifCond .eq 14, 3), (23, .aload_n 0, 1), (24, .invokevirtual 26, 3), (27, .ifCond .eq 7, 3), (30, .iconst 1, 1), (31, .goto 4, 3), (34, .iconst 0, 1), (35, .ireturn, 1)]
theorem hX6_readNext_0 : jD cX6_readNext rX6_readNext_0 = true := by decide +kernel
def rX6_readCommand_0 : List jI := [(0, .aload_n 0, 1), (1, .getfield 23, 3), (4, .aload_n 0, 1), (5, .getfield 19, 3), (8, .if_icmp .ge 18, 3), (11, .aload_n 0, 1), (12, .getfield 9, 3), (15, .aload_n 0, 1), (16, .getfield 23, 3), (19, .caload, 1), (20, .invokestatic 37, 3), (23, .goto 4, 3), (26, .iconst 0, 1), (27, .istore_n 1, 1), (28, .iload_n 1, 1), (29, .ifCond .ne 5, 3), (32, .iconst 0, 1), (33, .ireturn, 1), (34, .aload_n 0, 1), (35, .aload_n 0, 1), (36, .getfield 9, 3), (39, .aload_n 0, 1), (40, .getfield 23, 3), (43, .caload, 1), (44, .putfield 41, 3), (47, .aload_n 0, 1), (48, .dup, 1), (49, .getfield 23, 3), (52, .iconst 1, 1), (53, .iadd, 1), (54, .putfield 23, 3), (57, .iconst 0, 1), (58, .istore_n 2, 1), (59, .iload_n 2, 1), (60, .iload_n 1, 1), (61, .if_icmp .ge 34, 3), (64, .iload_n 2, 1), (65, .ifCond .le 14, 3), (68, .aload_n 0, 1), (69, .bipush 44, 2), (71, .invokevirtual 33, 3), (74, .ifCond .ne 5, 3), (77, .iconst 0, 1), (78, .ireturn, 1), (79, .aload_n 0, 1), (80, .iload_n 2, 1), (81, .invokevirtual 45, 3), (84, .ifCond .ne 5, 3), (87, .iconst 0, 1), (88, .ireturn, 1), (89, .iinc 2 1, 3), (92, .goto (-33), 3), (95, .iconst 1, 1), (96, .ireturn, 1)]
theorem hX6_readCommand_0 : jD cX6_readCommand rX6_readCommand_0 = true := by decide +kernel
def rX6_readNumber_0 : List jI := [(0, .iconst 0, 1), (1, .istore_n 2, 1), (2, .iconst 0, 1), (3, .istore_n 3, 1), (4, .iload_n 3, 1), (5, .iconst 5, 1), (6, .if_icmp .ge 76, 3), (9, .aload_n 0, 1), (10, .getfield 23, 3), (13, .aload_n 0, 1), (14, .getfield 19, 3), (17, .if_icmp .ge 65, 3), (20, .aload_n 0, 1), (21, .getfield 9, 3), (24, .aload_n 0, 1), (25, .getfield 23, 3), (28, .caload, 1), (29, .bipush 48, 2), (31, .if_icmp .lt 51, 3), (34, .aload_n 0, 1), (35, .getfield 9, 3), (38, .aload_n 0, 1), (39, .getfield 23, 3), (42, .caload, 1), (43, .bipush 57, 2), (45, .if_icmp .gt 37, 3), (48, .iload_n 2, 1), (49, .bipush 10, 2), (51, .imul, 1), (52, .aload_n 0, 1), (53, .getfield 9, 3), (56, .aload_n 0, 1), (57, .getfield 23, 3), (60, .caload, 1), (61, .bipush 48, 2), (63, .isub, 1), (64, .iadd, 1), (65, .istore_n 2, 1), (66, .iinc 3 1, 3), (69, .aload_n 0, 1), (70, .dup, 1), (71, .getfield 23, 3), (74, .iconst 1, 1), (75, .iadd, 1), (76, .putfield 23, 3), (79, .goto (-75), 3), (82, .aload_n 0, 1), (83, .getfield 15, 3), (86, .iload_n 1, 1), (87, .iload_n 2, 1), (88, .iastore, 1), (89, .iload_n 3, 1), (90, .ifCond .le 7, 3), (93, .iconst 1, 1), (94, .goto 4, 3), (97, .iconst 0, 1), (98, .ireturn, 1)]
theorem hX6_readNumber_0 : jD cX6_readNumber rX6_readNumber_0 = true := by decide +kernel
def rX6_passes_0 : List jI := [(0, .aload_n 0, 1), (1, .getfield 23, 3), (4, .aload_n 0, 1), (5, .getfield 19, 3), (8, .if_icmp .ge 16, 3), (11, .aload_n 0, 1), (12, .getfield 9, 3), (15, .aload_n 0, 1), (16, .getfield 23, 3), (19, .caload, 1), (20, .iload_n 1, 1), (21, .if_icmp .eq 5, 3), (24, .iconst 0, 1), (25, .ireturn, 1), (26, .aload_n 0, 1), (27, .dup, 1), (28, .getfield 23, 3), (31, .iconst 1, 1), (32, .iadd, 1), (33, .putfield 23, 3), (36, .iconst 1, 1), (37, .ireturn, 1)]
theorem hX6_passes_0 : jD cX6_passes rX6_passes_0 = true := by decide +kernel
def rX6_numbersBehind_0 : List jI := [(0, .iload_n 0, 1), (1, .lookupswitch 65 #[(97, 63), (98, 63), (99, 61), (104, 59), (111, 59), (119, 59)], 59), (60, .iconst 1, 1), (61, .ireturn, 1), (62, .iconst 2, 1), (63, .ireturn, 1), (64, .iconst 3, 1), (65, .ireturn, 1), (66, .iconst 0, 1), (67, .ireturn, 1)]
theorem hX6_numbersBehind_0 : jD cX6_numbersBehind rX6_numbersBehind_0 = true := by decide +kernel
def rX7_init_0 : List jI := [(0, .aload_n 0, 1), (1, .invokespecial 1, 3), (4, .aload_n 0, 1), (5, .new 7, 3), (8, .dup, 1), (9, .invokespecial 9, 3), (12, .putfield 10, 3), (15, .aload_n 0, 1), (16, .new 16, 3), (19, .dup, 1), (20, .invokespecial 18, 3), (23, .putfield 19, 3), (26, .aload_n 0, 1), (27, .new 23, 3), (30, .dup, 1), (31, .invokespecial 25, 3), (34, .putfield 26, 3), (37, .aload_n 0, 1), (38, .new 30, 3), (41, .dup, 1), (42, .invokespecial 32, 3), (45, .putfield 33, 3), (48, .aload_n 0, 1), (49, .iconst 0, 1), (50, .putfield 37, 3), (53, .aload_n 0, 1), (54, .iconst (-1), 1), (55, .putfield 41, 3), (58, .return_, 1)]
theorem hX7_init_0 : jD cX7_init rX7_init_0 = true := by decide +kernel
def rX7_addLot_0 : List jI := [(0, .iload_n 1, 1), (1, .iconst 0, 1), (2, .iconst 5, 1), (3, .invokestatic 44, 3), (6, .iload_n 2, 1), (7, .iconst 1, 1), (8, .bipush 20, 2), (10, .invokestatic 44, 3), (13, .iload_n 3, 1), (14, .iconst 0, 1), (15, .ldc 48, 2), (17, .invokestatic 44, 3), (20, .aload_n 0, 1), (21, .iconst 1, 1), (22, .invokevirtual 49, 3), (25, .aload_n 0, 1), (26, .getfield 26, 3), (29, .aload_n 0, 1), (30, .getfield 10, 3), (33, .invokevirtual 53, 3), (36, .aload_n 0, 1), (37, .getfield 10, 3), (40, .iload_n 1, 1), (41, .iload_n 2, 1), (42, .iload_n 3, 1), (43, .invokevirtual 57, 3), (46, .ireturn, 1)]
theorem hX7_addLot_0 : jD cX7_addLot rX7_addLot_0 = true := by decide +kernel
def rX7_lot_0 : List jI := [(0, .aload_n 0, 1), (1, .iload_n 1, 1), (2, .invokevirtual 61, 3), (5, .iload_n 2, 1), (6, .iconst 0, 1), (7, .iconst 4, 1), (8, .invokestatic 44, 3), (11, .aload_n 0, 1), (12, .getfield 10, 3), (15, .getfield 64, 3), (18, .iload_n 1, 1), (19, .aaload, 1), (20, .astore_n 3, 1), (21, .iload_n 2, 1), (22, .tableswitch 50 0 3 #[30, 35, 40, 45], 30), (52, .aload_n 3, 1), (53, .getfield 68, 3), (56, .ireturn, 1), (57, .aload_n 3, 1), (58, .getfield 73, 3), (61, .ireturn, 1), (62, .aload_n 3, 1), (63, .getfield 76, 3), (66, .ireturn, 1), (67, .aload_n 3, 1), (68, .getfield 79, 3), (71, .ireturn, 1), (72, .aload_n 3, 1), (73, .getfield 82, 3), (76, .ireturn, 1)]
theorem hX7_lot_0 : jD cX7_lot rX7_lot_0 = true := by decide +kernel
def rX7_lots_0 : List jI := [(0, .iload_n 1, 1), (1, .iconst (-1), 1), (2, .bipush 6, 2), (4, .invokestatic 44, 3), (7, .iload_n 1, 1), (8, .iconst (-1), 1), (9, .if_icmp .ne 13, 3), (12, .aload_n 0, 1), (13, .getfield 10, 3), (16, .getfield 85, 3), (19, .goto 11, 3), (22, .aload_n 0, 1), (23, .getfield 10, 3), (26, .iload_n 1, 1), (27, .invokevirtual 88, 3), (30, .ireturn, 1)]
theorem hX7_lots_0 : jD cX7_lots rX7_lots_0 = true := by decide +kernel
def rX7_setRows_0 : List jI := [(0, .iload_n 1, 1), (1, .ifCond .lt 23, 3), (4, .iload_n 1, 1), (5, .bipush 6, 2), (7, .if_icmp .ge 17, 3), (10, .iload_n 1, 1), (11, .aload_n 0, 1), (12, .getfield 10, 3), (15, .getfield 92, 3), (18, .getfield 96, 3), (21, .if_icmp .le 13, 3), (24, .new 101, 3), (27, .dup, 1), (28, .ldc 103, 2), (30, .invokespecial 105, 3), (33, .athrow, 1), (34, .iload_n 2, 1), (35, .iconst 0, 1), (36, .ldc 48, 2), (38, .invokestatic 44, 3), (41, .iload_n 3, 1), (42, .iconst 1, 1), (43, .sipush 5000, 3), (46, .invokestatic 44, 3), (49, .aload_n 0, 1), (50, .getfield 10, 3), (53, .getfield 92, 3), (56, .iload_n 1, 1), (57, .iload_n 2, 1), (58, .invokevirtual 108, 3), (61, .ifCond .ne 13, 3), (64, .new 112, 3), (67, .dup, 1), (68, .ldc 114, 2), (70, .invokespecial 116, 3), (73, .athrow, 1), (74, .aload_n 0, 1), (75, .getfield 10, 3), (78, .iconst 1, 1), (79, .invokevirtual 88, 3), (82, .ifCond .le 13, 3), (85, .new 117, 3), (88, .dup, 1), (89, .ldc 119, 2), (91, .invokespecial 121, 3), (94, .athrow, 1), (95, .aload_n 0, 1), (96, .getfield 26, 3), (99, .aload_n 0, 1), (100, .getfield 10, 3), (103, .invokevirtual 53, 3), (106, .aload_n 0, 1), (107, .getfield 10, 3), (110, .getfield 92, 3), (113, .iload_n 1, 1), (114, .iload_n 2, 1), (115, .iload_n 3, 1), (116, .invokevirtual 122, 3), (119, .aload_n 0, 1), (120, .getfield 10, 3)]
theorem hX7_setRows_0 : jD cX7_setRows rX7_setRows_0 = true := by decide +kernel
def rX7_setRows_1 : List jI := [(123, .getfield 92, 3), (126, .getfield 96, 3), (129, .ireturn, 1)]
theorem hX7_setRows_1 : jD cX7_setRows rX7_setRows_1 = true := by decide +kernel
def rX7_row_0 : List jI := [(0, .iload_n 1, 1), (1, .ifCond .lt 17, 3), (4, .iload_n 1, 1), (5, .aload_n 0, 1), (6, .getfield 10, 3), (9, .getfield 92, 3), (12, .getfield 96, 3), (15, .if_icmp .lt 13, 3), (18, .new 101, 3), (21, .dup, 1), (22, .ldc 125, 2), (24, .invokespecial 105, 3), (27, .athrow, 1), (28, .iload_n 2, 1), (29, .iconst 0, 1), (30, .iconst 1, 1), (31, .invokestatic 44, 3), (34, .iload_n 2, 1), (35, .ifCond .ne 18, 3), (38, .aload_n 0, 1), (39, .getfield 10, 3), (42, .getfield 92, 3), (45, .getfield 127, 3), (48, .iload_n 1, 1), (49, .iaload, 1), (50, .goto 15, 3), (53, .aload_n 0, 1), (54, .getfield 10, 3), (57, .getfield 92, 3), (60, .getfield 131, 3), (63, .iload_n 1, 1), (64, .iaload, 1), (65, .ireturn, 1)]
theorem hX7_row_0 : jD cX7_row rX7_row_0 = true := by decide +kernel
def rX7_step_0 : List jI := [(0, .iload_n 1, 1), (1, .iconst 0, 1), (2, .ldc 134, 2), (4, .invokestatic 44, 3), (7, .aload_n 0, 1), (8, .getfield 10, 3), (11, .getfield 92, 3), (14, .iload_n 1, 1), (15, .invokevirtual 135, 3), (18, .ireturn, 1)]
theorem hX7_step_0 : jD cX7_step rX7_step_0 = true := by decide +kernel
def rX7_nextStep_0 : List jI := [(0, .iload_n 1, 1), (1, .iconst 0, 1), (2, .ldc 134, 2), (4, .invokestatic 44, 3), (7, .aload_n 0, 1), (8, .getfield 10, 3), (11, .getfield 92, 3), (14, .iload_n 1, 1), (15, .invokevirtual 138, 3), (18, .ireturn, 1)]
theorem hX7_nextStep_0 : jD cX7_nextStep rX7_nextStep_0 = true := by decide +kernel
def rX7_setCredit_0 : List jI := [(0, .iload_n 1, 1), (1, .invokestatic 141, 3), (4, .iload_n 2, 1), (5, .iconst 0, 1), (6, .ldc 144, 2), (8, .invokestatic 44, 3), (11, .aload_n 0, 1), (12, .getfield 26, 3), (15, .aload_n 0, 1), (16, .getfield 10, 3), (19, .invokevirtual 53, 3), (22, .aload_n 0, 1), (23, .getfield 10, 3), (26, .getfield 145, 3), (29, .iload_n 1, 1), (30, .iaload, 1), (31, .istore_n 3, 1), (32, .aload_n 0, 1), (33, .getfield 10, 3), (36, .getfield 145, 3), (39, .iload_n 1, 1), (40, .iload_n 2, 1), (41, .iastore, 1), (42, .iload_n 3, 1), (43, .ireturn, 1)]
theorem hX7_setCredit_0 : jD cX7_setCredit rX7_setCredit_0 = true := by decide +kernel
def rX7_order_0 : List jI := [(0, .aload_n 0, 1), (1, .iload_n 1, 1), (2, .iload_n 2, 1), (3, .iload_n 3, 1), (4, .invokevirtual 148, 3), (7, .invokestatic 151, 3), (10, .ireturn, 1)]
theorem hX7_order_0 : jD cX7_order rX7_order_0 = true := by decide +kernel
def rX7_cancel_0 : List jI := [(0, .aload_n 0, 1), (1, .iload_n 1, 1), (2, .iload_n 2, 1), (3, .invokevirtual 154, 3), (6, .invokestatic 151, 3), (9, .ireturn, 1)]
theorem hX7_cancel_0 : jD cX7_cancel rX7_cancel_0 = true := by decide +kernel
def rX7_maximum_0 : List jI := [(0, .aload_n 0, 1), (1, .iload_n 1, 1), (2, .invokevirtual 61, 3), (5, .iload_n 2, 1), (6, .invokestatic 141, 3), (9, .aload_n 0, 1), (10, .getfield 10, 3), (13, .getfield 64, 3), (16, .iload_n 1, 1), (17, .aaload, 1), (18, .getfield 158, 3), (21, .iload_n 2, 1), (22, .iaload, 1), (23, .istore_n 3, 1), (24, .iload_n 3, 1), (25, .ifCond .ne 13, 3), (28, .new 161, 3), (31, .dup, 1), (32, .ldc 163, 2), (34, .invokespecial 165, 3), (37, .athrow, 1), (38, .iload_n 3, 1), (39, .ireturn, 1)]
theorem hX7_maximum_0 : jD cX7_maximum rX7_maximum_0 = true := by decide +kernel
def rX7_orders_0 : List jI := [(0, .iload_n 1, 1), (1, .iconst (-1), 1), (2, .if_icmp .ne 11, 3), (5, .aload_n 0, 1), (6, .getfield 10, 3), (9, .invokevirtual 166, 3), (12, .ireturn, 1), (13, .aload_n 0, 1), (14, .iload_n 1, 1), (15, .invokevirtual 61, 3), (18, .aload_n 0, 1), (19, .getfield 10, 3), (22, .getfield 64, 3), (25, .iload_n 1, 1), (26, .aaload, 1), (27, .invokevirtual 170, 3), (30, .ireturn, 1)]
theorem hX7_orders_0 : jD cX7_orders rX7_orders_0 = true := by decide +kernel
def rX7_open_0 : List jI := [(0, .aload_n 0, 1), (1, .iload_n 1, 1), (2, .invokevirtual 171, 3), (5, .invokestatic 151, 3), (8, .ireturn, 1)]
theorem hX7_open_0 : jD cX7_open rX7_open_0 = true := by decide +kernel
def rX7_bid_0 : List jI := [(0, .aload_n 0, 1), (1, .iload_n 1, 1), (2, .iload_n 2, 1), (3, .iload_n 3, 1), (4, .invokevirtual 174, 3), (7, .invokestatic 151, 3), (10, .ireturn, 1)]
theorem hX7_bid_0 : jD cX7_bid rX7_bid_0 = true := by decide +kernel
def rX7_refusal_0 : List jI := [(0, .aload_n 0, 1), (1, .getfield 37, 3), (4, .ifCond .ne 13, 3), (7, .new 161, 3), (10, .dup, 1), (11, .ldc 177, 2), (13, .invokespecial 165, 3), (16, .athrow, 1), (17, .aload_n 0, 1), (18, .getfield 37, 3), (21, .ireturn, 1)]
theorem hX7_refusal_0 : jD cX7_refusal rX7_refusal_0 = true := by decide +kernel
def rX7_wouldRefuse_0 : List jI := [(0, .aload_n 0, 1), (1, .iload_n 2, 1), (2, .invokevirtual 61, 3), (5, .iload_n 3, 1), (6, .invokestatic 141, 3), (9, .iload 4, 2), (11, .iconst 1, 1), (12, .ldc 48, 2), (14, .invokestatic 44, 3), (17, .aload_n 0, 1), (18, .getfield 10, 3), (21, .getfield 64, 3), (24, .iload_n 2, 1), (25, .aaload, 1), (26, .astore 5, 2), (28, .iload_n 1, 1), (29, .ifCond .eq 15, 3), (32, .aload_n 0, 1), (33, .aload 5, 2), (35, .iload_n 3, 1), (36, .iload 4, 2), (38, .invokevirtual 179, 3), (41, .goto 12, 3), (44, .aload_n 0, 1), (45, .aload 5, 2), (47, .iload_n 3, 1), (48, .iload 4, 2), (50, .invokevirtual 183, 3), (53, .ireturn, 1)]
theorem hX7_wouldRefuse_0 : jD cX7_wouldRefuse rX7_wouldRefuse_0 = true := by decide +kernel
def rX7_standing_0 : List jI := [(0, .aload_n 0, 1), (1, .iload_n 1, 1), (2, .invokevirtual 61, 3), (5, .iload_n 2, 1), (6, .iconst 0, 1), (7, .bipush 6, 2), (9, .invokestatic 44, 3), (12, .aload_n 0, 1), (13, .getfield 10, 3), (16, .getfield 64, 3), (19, .iload_n 1, 1), (20, .aaload, 1), (21, .astore_n 3, 1), (22, .aload_n 3, 1), (23, .iconst 1, 1), (24, .invokestatic 186, 3), (27, .aload_n 0, 1), (28, .getfield 19, 3), (31, .aload_n 3, 1), (32, .aload_n 0, 1), (33, .getfield 10, 3), (36, .getfield 92, 3), (39, .invokevirtual 190, 3), (42, .iload_n 2, 1), (43, .tableswitch 128 0 5 #[37, 52, 60, 85, 112, 120], 37), (80, .aload_n 0, 1), (81, .getfield 19, 3), (84, .aload_n 0, 1), (85, .getfield 10, 3), (88, .getfield 92, 3), (91, .invokevirtual 194, 3), (94, .ireturn, 1), (95, .aload_n 0, 1), (96, .getfield 19, 3), (99, .getfield 198, 3), (102, .ireturn, 1), (103, .aload_n 0, 1), (104, .getfield 10, 3), (107, .getfield 92, 3), (110, .aload_n 0, 1), (111, .getfield 19, 3), (114, .aload_n 0, 1), (115, .getfield 10, 3), (118, .getfield 92, 3), (121, .invokevirtual 194, 3), (124, .invokevirtual 138, 3), (127, .ireturn, 1), (128, .aload_n 0, 1), (129, .getfield 19, 3), (132, .aload_n 3, 1), (133, .getfield 79, 3), (136, .aload_n 0, 1), (137, .getfield 10, 3), (140, .getfield 92, 3), (143, .invokevirtual 201, 3), (146, .ifCond .eq 7, 3), (149, .iconst 1, 1), (150, .goto 4, 3), (153, .iconst 0, 1), (154, .ireturn, 1)]
theorem hX7_standing_0 : jD cX7_standing rX7_standing_0 = true := by decide +kernel
def rX7_standing_1 : List jI := [(155, .aload_n 0, 1), (156, .getfield 19, 3), (159, .getfield 205, 3), (162, .ireturn, 1), (163, .aload_n 0, 1), (164, .getfield 19, 3), (167, .getfield 208, 3), (170, .ireturn, 1), (171, .aload_n 0, 1), (172, .getfield 19, 3), (175, .invokevirtual 211, 3), (178, .ireturn, 1)]
theorem hX7_standing_1 : jD cX7_standing rX7_standing_1 = true := by decide +kernel
def rX7_limit_0 : List jI := [(0, .aload_n 0, 1), (1, .iload_n 1, 1), (2, .invokevirtual 61, 3), (5, .iload_n 3, 1), (6, .iconst 0, 1), (7, .iconst 2, 1), (8, .invokestatic 44, 3), (11, .aload_n 0, 1), (12, .getfield 10, 3), (15, .getfield 64, 3), (18, .iload_n 1, 1), (19, .aaload, 1), (20, .astore 4, 2), (22, .aload 4, 2), (24, .iconst 1, 1), (25, .invokestatic 186, 3), (28, .aload_n 0, 1), (29, .getfield 19, 3), (32, .aload 4, 2), (34, .aload_n 0, 1), (35, .getfield 10, 3), (38, .getfield 92, 3), (41, .invokevirtual 190, 3), (44, .aload_n 0, 1), (45, .getfield 19, 3), (48, .iload_n 2, 1), (49, .invokevirtual 214, 3), (52, .istore 5, 2), (54, .iload 5, 2), (56, .iconst (-1), 1), (57, .if_icmp .ne 13, 3), (60, .new 161, 3), (63, .dup, 1), (64, .ldc 217, 2), (66, .invokespecial 165, 3), (69, .athrow, 1), (70, .iload_n 3, 1), (71, .lookupswitch 39 #[(0, 25), (1, 28)], 25), (96, .iload 5, 2), (98, .ireturn, 1), (99, .aload_n 0, 1), (100, .getfield 19, 3), (103, .getfield 219, 3), (106, .iload 5, 2), (108, .iaload, 1), (109, .ireturn, 1), (110, .aload_n 0, 1), (111, .getfield 19, 3), (114, .getfield 222, 3), (117, .iload 5, 2), (119, .iaload, 1), (120, .ireturn, 1)]
theorem hX7_limit_0 : jD cX7_limit rX7_limit_0 = true := by decide +kernel
def rX7_priceIf_0 : List jI := [(0, .aload_n 0, 1), (1, .iload_n 1, 1), (2, .invokevirtual 61, 3), (5, .iload_n 2, 1), (6, .invokestatic 141, 3), (9, .iload_n 3, 1), (10, .iconst 1, 1), (11, .ldc 134, 2), (13, .invokestatic 44, 3), (16, .aload_n 0, 1), (17, .getfield 10, 3), (20, .getfield 92, 3), (23, .iload_n 3, 1), (24, .invokevirtual 225, 3), (27, .ifCond .ne 13, 3), (30, .new 112, 3), (33, .dup, 1), (34, .ldc 229, 2), (36, .invokespecial 116, 3), (39, .athrow, 1), (40, .aload_n 0, 1), (41, .getfield 10, 3), (44, .getfield 64, 3), (47, .iload_n 1, 1), (48, .aaload, 1), (49, .astore 4, 2), (51, .aload 4, 2), (53, .iconst 1, 1), (54, .invokestatic 186, 3), (57, .aload_n 0, 1), (58, .getfield 19, 3), (61, .aload 4, 2), (63, .aload_n 0, 1), (64, .getfield 10, 3), (67, .getfield 92, 3), (70, .invokevirtual 190, 3), (73, .aload_n 0, 1), (74, .getfield 19, 3), (77, .iload_n 2, 1), (78, .iload_n 3, 1), (79, .aload_n 0, 1), (80, .getfield 10, 3), (83, .getfield 231, 3), (86, .iconst 1, 1), (87, .iadd, 1), (88, .invokevirtual 234, 3), (91, .aload_n 0, 1), (92, .getfield 19, 3), (95, .aload_n 0, 1), (96, .getfield 10, 3), (99, .getfield 92, 3), (102, .invokevirtual 194, 3), (105, .ireturn, 1)]
theorem hX7_priceIf_0 : jD cX7_priceIf rX7_priceIf_0 = true := by decide +kernel
def rX7_close_0 : List jI := [(0, .aload_n 0, 1), (1, .iload_n 1, 1), (2, .invokevirtual 237, 3), (5, .invokestatic 151, 3), (8, .ireturn, 1)]
theorem hX7_close_0 : jD cX7_close rX7_close_0 = true := by decide +kernel
def rX7_withdraw_0 : List jI := [(0, .aload_n 0, 1), (1, .iload_n 1, 1), (2, .invokevirtual 240, 3), (5, .invokestatic 151, 3), (8, .ireturn, 1)]
theorem hX7_withdraw_0 : jD cX7_withdraw rX7_withdraw_0 = true := by decide +kernel
def rX7_offer_0 : List jI := [(0, .aload_n 0, 1), (1, .iload_n 1, 1), (2, .invokevirtual 61, 3), (5, .aload_n 0, 1), (6, .getfield 10, 3), (9, .getfield 64, 3), (12, .iload_n 1, 1), (13, .aaload, 1), (14, .astore_n 3, 1), (15, .aload_n 3, 1), (16, .getfield 79, 3), (19, .istore 4, 2), (21, .iload_n 2, 1), (22, .iconst 0, 1), (23, .iload 4, 2), (25, .iconst 1, 1), (26, .isub, 1), (27, .invokestatic 44, 3), (30, .aload_n 3, 1), (31, .iconst 3, 1), (32, .invokestatic 186, 3), (35, .aload_n 0, 1), (36, .getfield 26, 3), (39, .aload_n 0, 1), (40, .getfield 10, 3), (43, .invokevirtual 53, 3), (46, .aload_n 3, 1), (47, .iload_n 2, 1), (48, .putfield 79, 3), (51, .aload_n 3, 1), (52, .iconst 0, 1), (53, .putfield 68, 3), (56, .aload_n 0, 1), (57, .getfield 10, 3), (60, .getfield 243, 3), (63, .bipush 8, 2), (65, .iload_n 1, 1), (66, .iconst (-1), 1), (67, .iload_n 2, 1), (68, .invokevirtual 247, 3), (71, .iload 4, 2), (73, .ireturn, 1)]
theorem hX7_offer_0 : jD cX7_offer rX7_offer_0 = true := by decide +kernel
def rX7_split_0 : List jI := [(0, .aload_n 0, 1), (1, .iload_n 1, 1), (2, .invokevirtual 61, 3), (5, .aload_n 0, 1), (6, .getfield 10, 3), (9, .getfield 64, 3), (12, .iload_n 1, 1), (13, .aaload, 1), (14, .astore_n 3, 1), (15, .iload_n 2, 1), (16, .iconst 2, 1), (17, .iconst 4, 1), (18, .invokestatic 44, 3), (21, .iload_n 2, 1), (22, .iconst 2, 1), (23, .aload_n 3, 1), (24, .getfield 76, 3), (27, .invokestatic 44, 3), (30, .aload_n 3, 1), (31, .iconst 0, 1), (32, .invokestatic 186, 3), (35, .aload_n 0, 1), (36, .iload_n 2, 1), (37, .invokevirtual 49, 3), (40, .aload_n 0, 1), (41, .getfield 10, 3), (44, .invokevirtual 166, 3), (47, .aload_n 3, 1), (48, .invokevirtual 170, 3), (51, .isub, 1), (52, .aload_n 3, 1), (53, .iload_n 2, 1), (54, .invokevirtual 253, 3), (57, .iadd, 1), (58, .bipush 40, 2), (60, .if_icmp .le 14, 3), (63, .new 117, 3), (66, .dup, 1), (67, .ldc_w 256, 3), (70, .invokespecial 121, 3), (73, .athrow, 1), (74, .aload_n 0, 1), (75, .getfield 26, 3), (78, .aload_n 0, 1), (79, .getfield 10, 3), (82, .invokevirtual 53, 3), (85, .aload_n 0, 1), (86, .getfield 10, 3), (89, .getfield 85, 3), (92, .istore 4, 2), (94, .iconst 0, 1), (95, .istore 5, 2), (97, .iload 5, 2), (99, .iload_n 2, 1), (100, .if_icmp .ge 24, 3), (103, .aload_n 0, 1), (104, .getfield 10, 3), (107, .aload_n 3, 1), (108, .aload_n 3, 1), (109, .iload 5, 2)]
theorem hX7_split_0 : jD cX7_split rX7_split_0 = true := by decide +kernel
def rX7_split_1 : List jI := [(111, .iload_n 2, 1), (112, .invokevirtual 258, 3), (115, .invokevirtual 261, 3), (118, .iinc 5 1, 3), (121, .goto (-24), 3), (124, .aload_n 3, 1), (125, .iconst 5, 1), (126, .putfield 68, 3), (129, .aload_n 3, 1), (130, .invokevirtual 264, 3), (133, .aload_n 0, 1), (134, .getfield 10, 3), (137, .getfield 243, 3), (140, .bipush 6, 2), (142, .iload_n 1, 1), (143, .iconst (-1), 1), (144, .iload 4, 2), (146, .invokevirtual 247, 3), (149, .iload 4, 2), (151, .ireturn, 1)]
theorem hX7_split_1 : jD cX7_split rX7_split_1 = true := by decide +kernel
def rX7_group_0 : List jI := [(0, .aload_n 0, 1), (1, .iload_n 1, 1), (2, .invokevirtual 61, 3), (5, .aload_n 0, 1), (6, .iload_n 2, 1), (7, .invokevirtual 61, 3), (10, .aload_n 0, 1), (11, .getfield 10, 3), (14, .getfield 64, 3), (17, .iload_n 1, 1), (18, .aaload, 1), (19, .astore_n 3, 1), (20, .aload_n 0, 1), (21, .getfield 10, 3), (24, .getfield 64, 3), (27, .iload_n 2, 1), (28, .aaload, 1), (29, .astore 4, 2), (31, .iload_n 1, 1), (32, .iload_n 2, 1), (33, .if_icmp .eq 15, 3), (36, .aload_n 3, 1), (37, .getfield 73, 3), (40, .aload 4, 2), (42, .getfield 73, 3), (45, .if_icmp .eq 14, 3), (48, .new 112, 3), (51, .dup, 1), (52, .ldc_w 267, 3), (55, .invokespecial 116, 3), (58, .athrow, 1), (59, .aload_n 3, 1), (60, .getfield 76, 3), (63, .aload 4, 2), (65, .getfield 76, 3), (68, .iadd, 1), (69, .iconst 1, 1), (70, .bipush 20, 2), (72, .invokestatic 44, 3), (75, .aload_n 3, 1), (76, .getfield 79, 3), (79, .aload 4, 2), (81, .getfield 79, 3), (84, .iadd, 1), (85, .iconst 0, 1), (86, .ldc 48, 2), (88, .invokestatic 44, 3), (91, .aload_n 3, 1), (92, .iconst 0, 1), (93, .invokestatic 186, 3), (96, .aload 4, 2), (98, .iconst 0, 1), (99, .invokestatic 186, 3), (102, .aload_n 0, 1), (103, .iconst 1, 1), (104, .invokevirtual 49, 3), (107, .aload_n 0, 1), (108, .getfield 26, 3), (111, .aload_n 0, 1), (112, .getfield 10, 3)]
theorem hX7_group_0 : jD cX7_group rX7_group_0 = true := by decide +kernel
def rX7_group_1 : List jI := [(115, .invokevirtual 53, 3), (118, .aload_n 0, 1), (119, .getfield 10, 3), (122, .aload_n 3, 1), (123, .aload 4, 2), (125, .invokevirtual 269, 3), (128, .istore 5, 2), (130, .aload_n 3, 1), (131, .bipush 6, 2), (133, .putfield 68, 3), (136, .aload 4, 2), (138, .bipush 6, 2), (140, .putfield 68, 3), (143, .aload_n 3, 1), (144, .invokevirtual 264, 3), (147, .aload 4, 2), (149, .invokevirtual 264, 3), (152, .aload_n 0, 1), (153, .getfield 10, 3), (156, .getfield 243, 3), (159, .bipush 7, 2), (161, .iload_n 1, 1), (162, .iconst (-1), 1), (163, .iload 5, 2), (165, .invokevirtual 247, 3), (168, .iload 5, 2), (170, .ireturn, 1)]
theorem hX7_group_1 : jD cX7_group rX7_group_1 = true := by decide +kernel
def rX7_why_0 : List jI := [(0, .aload_n 0, 1), (1, .iload_n 1, 1), (2, .invokevirtual 61, 3), (5, .aload_n 0, 1), (6, .getfield 10, 3), (9, .getfield 64, 3), (12, .iload_n 1, 1), (13, .aaload, 1), (14, .getfield 273, 3), (17, .istore_n 2, 1), (18, .iload_n 2, 1), (19, .iconst (-1), 1), (20, .if_icmp .ne 14, 3), (23, .new 161, 3), (26, .dup, 1), (27, .ldc_w 276, 3), (30, .invokespecial 165, 3), (33, .athrow, 1), (34, .iload_n 2, 1), (35, .ireturn, 1)]
theorem hX7_why_0 : jD cX7_why rX7_why_0 = true := by decide +kernel
def rX7_sold_0 : List jI := [(0, .aload_n 0, 1), (1, .iload_n 1, 1), (2, .invokevirtual 61, 3), (5, .aload_n 0, 1), (6, .getfield 10, 3), (9, .getfield 64, 3), (12, .iload_n 1, 1), (13, .aaload, 1), (14, .astore_n 3, 1), (15, .aload_n 3, 1), (16, .getfield 68, 3), (19, .iconst 2, 1), (20, .if_icmp .eq 14, 3), (23, .new 161, 3), (26, .dup, 1), (27, .ldc_w 278, 3), (30, .invokespecial 165, 3), (33, .athrow, 1), (34, .iload_n 2, 1), (35, .ifCond .eq 10, 3), (38, .aload_n 3, 1), (39, .getfield 280, 3), (42, .goto 7, 3), (45, .aload_n 3, 1), (46, .getfield 282, 3), (49, .ireturn, 1)]
theorem hX7_sold_0 : jD cX7_sold rX7_sold_0 = true := by decide +kernel
def rX7_premium_0 : List jI := [(0, .iload_n 1, 1), (1, .iconst 0, 1), (2, .ldc 134, 2), (4, .invokestatic 44, 3), (7, .iload_n 1, 1), (8, .invokestatic 285, 3), (11, .ireturn, 1)]
theorem hX7_premium_0 : jD cX7_premium rX7_premium_0 = true := by decide +kernel
def rX7_bidder_0 : List jI := [(0, .iload_n 1, 1), (1, .invokestatic 141, 3), (4, .iload_n 2, 1), (5, .iconst 0, 1), (6, .bipush 6, 2), (8, .invokestatic 44, 3), (11, .iload_n 2, 1), (12, .tableswitch 101 0 5 #[40, 50, 59, 68, 86, 95], 40), (52, .aload_n 0, 1), (53, .getfield 10, 3), (56, .getfield 145, 3), (59, .iload_n 1, 1), (60, .iaload, 1), (61, .ireturn, 1), (62, .aload_n 0, 1), (63, .getfield 10, 3), (66, .iload_n 1, 1), (67, .invokevirtual 288, 3), (70, .ireturn, 1), (71, .aload_n 0, 1), (72, .getfield 10, 3), (75, .iload_n 1, 1), (76, .invokevirtual 291, 3), (79, .ireturn, 1), (80, .aload_n 0, 1), (81, .getfield 10, 3), (84, .iload_n 1, 1), (85, .invokevirtual 288, 3), (88, .aload_n 0, 1), (89, .getfield 10, 3), (92, .iload_n 1, 1), (93, .invokevirtual 291, 3), (96, .iadd, 1), (97, .ireturn, 1), (98, .aload_n 0, 1), (99, .getfield 10, 3), (102, .iload_n 1, 1), (103, .invokevirtual 294, 3), (106, .ireturn, 1), (107, .aload_n 0, 1), (108, .iload_n 1, 1), (109, .invokevirtual 297, 3), (112, .ireturn, 1), (113, .aload_n 0, 1), (114, .iload_n 1, 1), (115, .invokevirtual 300, 3), (118, .ireturn, 1)]
theorem hX7_bidder_0 : jD cX7_bidder rX7_bidder_0 = true := by decide +kernel
def rX7_seller_0 : List jI := [(0, .iload_n 1, 1), (1, .ifCond .lt 9, 3), (4, .iload_n 1, 1), (5, .bipush 6, 2), (7, .if_icmp .lt 14, 3), (10, .new 101, 3), (13, .dup, 1), (14, .ldc_w 303, 3), (17, .invokespecial 105, 3), (20, .athrow, 1), (21, .iload_n 2, 1), (22, .iconst 0, 1), (23, .iconst 5, 1), (24, .invokestatic 44, 3), (27, .iload_n 2, 1), (28, .tableswitch 83 0 4 #[36, 45, 54, 64, 73], 36), (64, .aload_n 0, 1), (65, .getfield 10, 3), (68, .iload_n 1, 1), (69, .invokevirtual 305, 3), (72, .ireturn, 1), (73, .aload_n 0, 1), (74, .getfield 10, 3), (77, .iload_n 1, 1), (78, .invokevirtual 308, 3), (81, .ireturn, 1), (82, .aload_n 0, 1), (83, .getfield 10, 3), (86, .getfield 311, 3), (89, .iload_n 1, 1), (90, .iaload, 1), (91, .ireturn, 1), (92, .aload_n 0, 1), (93, .getfield 10, 3), (96, .iload_n 1, 1), (97, .invokevirtual 314, 3), (100, .ireturn, 1), (101, .aload_n 0, 1), (102, .getfield 10, 3), (105, .iload_n 1, 1), (106, .iconst 2, 1), (107, .invokevirtual 317, 3), (110, .ireturn, 1), (111, .aload_n 0, 1), (112, .getfield 10, 3), (115, .iload_n 1, 1), (116, .iconst 3, 1), (117, .invokevirtual 317, 3), (120, .ireturn, 1)]
theorem hX7_seller_0 : jD cX7_seller rX7_seller_0 = true := by decide +kernel
def rX7_house_0 : List jI := [(0, .iload_n 1, 1), (1, .iconst 0, 1), (2, .iconst 3, 1), (3, .invokestatic 44, 3), (6, .iconst 0, 1), (7, .istore_n 2, 1), (8, .iconst 0, 1), (9, .istore_n 3, 1), (10, .iload_n 3, 1), (11, .bipush 10, 2), (13, .if_icmp .ge 20, 3), (16, .iload_n 2, 1), (17, .aload_n 0, 1), (18, .getfield 10, 3), (21, .iload_n 3, 1), (22, .invokevirtual 291, 3), (25, .iadd, 1), (26, .istore_n 2, 1), (27, .iinc 3 1, 3), (30, .goto (-20), 3), (33, .iconst 0, 1), (34, .istore_n 3, 1), (35, .iconst 0, 1), (36, .istore 4, 2), (38, .iconst 0, 1), (39, .istore 5, 2), (41, .iload 5, 2), (43, .bipush 6, 2), (45, .if_icmp .ge 35, 3), (48, .iload_n 3, 1), (49, .aload_n 0, 1), (50, .getfield 10, 3), (53, .iload 5, 2), (55, .invokevirtual 305, 3), (58, .iadd, 1), (59, .istore_n 3, 1), (60, .iload 4, 2), (62, .aload_n 0, 1), (63, .getfield 10, 3), (66, .iload 5, 2), (68, .invokevirtual 314, 3), (71, .iadd, 1), (72, .istore 4, 2), (74, .iinc 5 1, 3), (77, .goto (-36), 3), (80, .iload_n 1, 1), (81, .tableswitch 40 0 2 #[27, 34, 36], 27), (108, .iload_n 2, 1), (109, .iload_n 3, 1), (110, .iadd, 1), (111, .iload 4, 2), (113, .isub, 1), (114, .ireturn, 1), (115, .iload_n 3, 1), (116, .ireturn, 1), (117, .iload_n 3, 1), (118, .iload_n 2, 1), (119, .iadd, 1), (120, .ireturn, 1), (121, .iload 4, 2)]
theorem hX7_house_0 : jD cX7_house rX7_house_0 = true := by decide +kernel
def rX7_house_1 : List jI := [(123, .ireturn, 1)]
theorem hX7_house_1 : jD cX7_house rX7_house_1 = true := by decide +kernel
def rX7_soldShare_0 : List jI := [(0, .aload_n 0, 1), (1, .getfield 10, 3), (4, .getfield 243, 3), (7, .iconst 3, 1), (8, .invokevirtual 320, 3), (11, .istore_n 1, 1), (12, .iload_n 1, 1), (13, .aload_n 0, 1), (14, .getfield 10, 3), (17, .getfield 243, 3), (20, .iconst 4, 1), (21, .invokevirtual 320, 3), (24, .iadd, 1), (25, .istore_n 2, 1), (26, .iload_n 2, 1), (27, .ifCond .ne 14, 3), (30, .new 323, 3), (33, .dup, 1), (34, .ldc_w 325, 3), (37, .invokespecial 327, 3), (40, .athrow, 1), (41, .iload_n 1, 1), (42, .i2d, 1), (43, .iload_n 2, 1), (44, .i2d, 1), (45, .ddiv, 1), (46, .dreturn, 1)]
theorem hX7_soldShare_0 : jD cX7_soldShare rX7_soldShare_0 = true := by decide +kernel
def rX7_events_0 : List jI := [(0, .iload_n 1, 1), (1, .iconst (-1), 1), (2, .bipush 9, 2), (4, .invokestatic 44, 3), (7, .iload_n 1, 1), (8, .iconst (-1), 1), (9, .if_icmp .ne 16, 3), (12, .aload_n 0, 1), (13, .getfield 10, 3), (16, .getfield 243, 3), (19, .getfield 328, 3), (22, .goto 14, 3), (25, .aload_n 0, 1), (26, .getfield 10, 3), (29, .getfield 243, 3), (32, .iload_n 1, 1), (33, .invokevirtual 320, 3), (36, .ireturn, 1)]
theorem hX7_events_0 : jD cX7_events rX7_events_0 = true := by decide +kernel
def rX7_event_0 : List jI := [(0, .aload_n 0, 1), (1, .getfield 10, 3), (4, .getfield 243, 3), (7, .astore_n 3, 1), (8, .iload_n 1, 1), (9, .ifCond .lt 11, 3), (12, .iload_n 1, 1), (13, .aload_n 3, 1), (14, .getfield 328, 3), (17, .if_icmp .lt 14, 3), (20, .new 101, 3), (23, .dup, 1), (24, .ldc_w 331, 3), (27, .invokespecial 105, 3), (30, .athrow, 1), (31, .iload_n 2, 1), (32, .iconst 0, 1), (33, .iconst 3, 1), (34, .invokestatic 44, 3), (37, .iload_n 2, 1), (38, .tableswitch 47 0 2 #[26, 33, 40], 26), (64, .aload_n 3, 1), (65, .getfield 333, 3), (68, .iload_n 1, 1), (69, .iaload, 1), (70, .ireturn, 1), (71, .aload_n 3, 1), (72, .getfield 336, 3), (75, .iload_n 1, 1), (76, .iaload, 1), (77, .ireturn, 1), (78, .aload_n 3, 1), (79, .getfield 338, 3), (82, .iload_n 1, 1), (83, .iaload, 1), (84, .ireturn, 1), (85, .aload_n 3, 1), (86, .getfield 341, 3), (89, .iload_n 1, 1), (90, .iaload, 1), (91, .ireturn, 1)]
theorem hX7_event_0 : jD cX7_event rX7_event_0 = true := by decide +kernel
def rX7_audit_0 : List jI := [(0, .iconst 0, 1), (1, .istore_n 1, 1), (2, .iconst 0, 1), (3, .istore_n 2, 1), (4, .iload_n 2, 1), (5, .bipush 10, 2), (7, .if_icmp .ge 34, 3), (10, .aload_n 0, 1), (11, .getfield 10, 3), (14, .getfield 243, 3), (17, .iload_n 2, 1), (18, .invokevirtual 344, 3), (21, .aload_n 0, 1), (22, .getfield 10, 3), (25, .iload_n 2, 1), (26, .invokevirtual 288, 3), (29, .if_icmp .eq 6, 3), (32, .iinc 1 1, 3), (35, .iinc 2 1, 3), (38, .goto (-34), 3), (41, .iconst 0, 1), (42, .istore_n 2, 1), (43, .iload_n 2, 1), (44, .bipush 6, 2), (46, .if_icmp .ge 32, 3), (49, .aload_n 0, 1), (50, .getfield 10, 3), (53, .iload_n 2, 1), (54, .invokevirtual 345, 3), (57, .aload_n 0, 1), (58, .getfield 10, 3), (61, .getfield 311, 3), (64, .iload_n 2, 1), (65, .iaload, 1), (66, .if_icmp .eq 6, 3), (69, .iinc 1 1, 3), (72, .iinc 2 1, 3), (75, .goto (-32), 3), (78, .iload_n 1, 1), (79, .ireturn, 1)]
theorem hX7_audit_0 : jD cX7_audit rX7_audit_0 = true := by decide +kernel
def rX7_append_0 : List jI := [(0, .aload_n 0, 1), (1, .getfield 33, 3), (4, .getfield 348, 3), (7, .bipush 60, 2), (9, .if_icmp .lt 14, 3), (12, .new 117, 3), (15, .dup, 1), (16, .ldc_w 351, 3), (19, .invokespecial 121, 3), (22, .athrow, 1), (23, .aload_n 0, 1), (24, .getfield 33, 3), (27, .iload_n 1, 1), (28, .invokevirtual 353, 3), (31, .return_, 1)]
theorem hX7_append_0 : jD cX7_append rX7_append_0 = true := by decide +kernel
def rX7_read_0 : List jI := [(0, .aload_n 0, 1), (1, .aload_n 0, 1), (2, .getfield 33, 3), (5, .invokevirtual 357, 3), (8, .putfield 41, 3), (11, .aload_n 0, 1), (12, .getfield 41, 3), (15, .iconst (-1), 1), (16, .if_icmp .eq 21, 3), (19, .aload_n 0, 1), (20, .getfield 33, 3), (23, .invokevirtual 360, 3), (26, .new 112, 3), (29, .dup, 1), (30, .ldc_w 363, 3), (33, .invokespecial 116, 3), (36, .athrow, 1), (37, .iconst 0, 1), (38, .istore_n 1, 1), (39, .iload_n 1, 1), (40, .aload_n 0, 1), (41, .getfield 33, 3), (44, .getfield 365, 3), (47, .if_icmp .ge 27, 3), (50, .aload_n 0, 1), (51, .getfield 33, 3), (54, .iload_n 1, 1), (55, .invokevirtual 368, 3), (58, .ifCond .eq 16, 3), (61, .aload_n 0, 1), (62, .invokevirtual 371, 3), (65, .ifCond .lt 9, 3), (68, .iinc 1 1, 3), (71, .goto (-32), 3), (74, .aload_n 0, 1), (75, .getfield 33, 3), (78, .invokevirtual 360, 3), (81, .iload_n 1, 1), (82, .ireturn, 1)]
theorem hX7_read_0 : jD cX7_read rX7_read_0 = true := by decide +kernel
def rX7_faultPosition_0 : List jI := [(0, .aload_n 0, 1), (1, .getfield 41, 3), (4, .ireturn, 1)]
theorem hX7_faultPosition_0 : jD cX7_faultPosition rX7_faultPosition_0 = true := by decide +kernel
def rX7_undo_0 : List jI := [(0, .aload_n 0, 1), (1, .getfield 26, 3), (4, .getfield 374, 3), (7, .ifCond .ne 14, 3), (10, .new 117, 3), (13, .dup, 1), (14, .ldc_w 375, 3), (17, .invokespecial 121, 3), (20, .athrow, 1), (21, .aload_n 0, 1), (22, .getfield 26, 3), (25, .aload_n 0, 1), (26, .getfield 10, 3), (29, .invokevirtual 377, 3), (32, .aload_n 0, 1), (33, .getfield 26, 3), (36, .getfield 374, 3), (39, .ireturn, 1)]
theorem hX7_undo_0 : jD cX7_undo rX7_undo_0 = true := by decide +kernel
def rX7_save_0 : List jI := [(0, .aload_n 0, 1), (1, .getfield 380, 3), (4, .ifnonnull 14, 3), (7, .aload_n 0, 1), (8, .new 7, 3), (11, .dup, 1), (12, .invokespecial 9, 3), (15, .putfield 380, 3), (18, .aload_n 0, 1), (19, .getfield 380, 3), (22, .aload_n 0, 1), (23, .getfield 10, 3), (26, .invokevirtual 383, 3), (29, .return_, 1)]
theorem hX7_save_0 : jD cX7_save rX7_save_0 = true := by decide +kernel
def rX7_restore_0 : List jI := [(0, .aload_n 0, 1), (1, .getfield 380, 3), (4, .ifnonnull 14, 3), (7, .new 117, 3), (10, .dup, 1), (11, .ldc_w 386, 3), (14, .invokespecial 121, 3), (17, .athrow, 1), (18, .aload_n 0, 1), (19, .getfield 10, 3), (22, .aload_n 0, 1), (23, .getfield 380, 3), (26, .invokevirtual 383, 3), (29, .aload_n 0, 1), (30, .getfield 26, 3), (33, .invokevirtual 388, 3), (36, .return_, 1)]
theorem hX7_restore_0 : jD cX7_restore rX7_restore_0 = true := by decide +kernel
def rX7_needLot_0 : List jI := [(0, .aload_n 0, 1), (1, .getfield 10, 3), (4, .iload_n 1, 1), (5, .invokevirtual 391, 3), (8, .ifCond .ne 14, 3), (11, .new 101, 3), (14, .dup, 1), (15, .ldc_w 394, 3), (18, .invokespecial 105, 3), (21, .athrow, 1), (22, .return_, 1)]
theorem hX7_needLot_0 : jD cX7_needLot rX7_needLot_0 = true := by decide +kernel
def rX7_needBidder_0 : List jI := [(0, .iload_n 0, 1), (1, .invokestatic 396, 3), (4, .ifCond .ne 14, 3), (7, .new 101, 3), (10, .dup, 1), (11, .ldc_w 399, 3), (14, .invokespecial 105, 3), (17, .athrow, 1), (18, .return_, 1)]
theorem hX7_needBidder_0 : jD cX7_needBidder rX7_needBidder_0 = true := by decide +kernel
def rX7_needWithin_0 : List jI := [(0, .iload_n 0, 1), (1, .iload_n 1, 1), (2, .if_icmp .lt 8, 3), (5, .iload_n 0, 1), (6, .iload_n 2, 1), (7, .if_icmp .le 14, 3), (10, .new 112, 3), (13, .dup, 1), (14, .ldc_w 401, 3), (17, .invokespecial 116, 3), (20, .athrow, 1), (21, .return_, 1)]
theorem hX7_needWithin_0 : jD cX7_needWithin rX7_needWithin_0 = true := by decide +kernel
def rX7_needState_0 : List jI := [(0, .aload_n 0, 1), (1, .getfield 68, 3), (4, .iload_n 1, 1), (5, .if_icmp .eq 14, 3), (8, .new 117, 3), (11, .dup, 1), (12, .ldc_w 403, 3), (15, .invokespecial 121, 3), (18, .athrow, 1), (19, .return_, 1)]
theorem hX7_needState_0 : jD cX7_needState rX7_needState_0 = true := by decide +kernel
def rX7_needRoomForLots_0 : List jI := [(0, .aload_n 0, 1), (1, .getfield 10, 3), (4, .getfield 85, 3), (7, .iload_n 1, 1), (8, .iadd, 1), (9, .bipush 20, 2), (11, .if_icmp .le 14, 3), (14, .new 117, 3), (17, .dup, 1), (18, .ldc_w 405, 3), (21, .invokespecial 121, 3), (24, .athrow, 1), (25, .return_, 1)]
theorem hX7_needRoomForLots_0 : jD cX7_needRoomForLots rX7_needRoomForLots_0 = true := by decide +kernel
def rX7_isBidder_0 : List jI := [(0, .iload_n 0, 1), (1, .ifCond .lt 13, 3), (4, .iload_n 0, 1), (5, .bipush 10, 2), (7, .if_icmp .ge 7, 3), (10, .iconst 1, 1), (11, .goto 4, 3), (14, .iconst 0, 1), (15, .ireturn, 1)]
theorem hX7_isBidder_0 : jD cX7_isBidder rX7_isBidder_0 = true := by decide +kernel
def rX7_answered_0 : List jI := [(0, .iload_n 0, 1), (1, .tableswitch 89 (-5) (-1) #[78, 68, 57, 46, 35], 35), (36, .new 101, 3), (39, .dup, 1), (40, .ldc_w 407, 3), (43, .invokespecial 105, 3), (46, .athrow, 1), (47, .new 112, 3), (50, .dup, 1), (51, .ldc_w 401, 3), (54, .invokespecial 116, 3), (57, .athrow, 1), (58, .new 117, 3), (61, .dup, 1), (62, .ldc_w 403, 3), (65, .invokespecial 121, 3), (68, .athrow, 1), (69, .new 161, 3), (72, .dup, 1), (73, .ldc 163, 2), (75, .invokespecial 165, 3), (78, .athrow, 1), (79, .new 409, 3), (82, .dup, 1), (83, .ldc_w 411, 3), (86, .invokespecial 413, 3), (89, .athrow, 1), (90, .iload_n 0, 1), (91, .ireturn, 1)]
theorem hX7_answered_0 : jD cX7_answered rX7_answered_0 = true := by decide +kernel
def rX7_carryOut_0 : List jI := [(0, .aload_n 0, 1), (1, .getfield 33, 3), (4, .getfield 414, 3), (7, .iconst 0, 1), (8, .iaload, 1), (9, .istore_n 1, 1), (10, .aload_n 0, 1), (11, .getfield 33, 3), (14, .getfield 414, 3), (17, .iconst 1, 1), (18, .iaload, 1), (19, .istore_n 2, 1), (20, .aload_n 0, 1), (21, .getfield 33, 3), (24, .getfield 414, 3), (27, .iconst 2, 1), (28, .iaload, 1), (29, .istore_n 3, 1), (30, .aload_n 0, 1), (31, .getfield 33, 3), (34, .getfield 416, 3), (37, .lookupswitch 85 #[(97, 77), (98, 69), (104, 57), (111, 51), (119, 63)], 51), (88, .aload_n 0, 1), (89, .iload_n 1, 1), (90, .invokevirtual 171, 3), (93, .ireturn, 1), (94, .aload_n 0, 1), (95, .iload_n 1, 1), (96, .invokevirtual 237, 3), (99, .ireturn, 1), (100, .aload_n 0, 1), (101, .iload_n 1, 1), (102, .invokevirtual 240, 3), (105, .ireturn, 1), (106, .aload_n 0, 1), (107, .iload_n 1, 1), (108, .iload_n 2, 1), (109, .iload_n 3, 1), (110, .invokevirtual 174, 3), (113, .ireturn, 1), (114, .aload_n 0, 1), (115, .iload_n 1, 1), (116, .iload_n 2, 1), (117, .iload_n 3, 1), (118, .invokevirtual 148, 3), (121, .ireturn, 1), (122, .aload_n 0, 1), (123, .iload_n 1, 1), (124, .iload_n 2, 1), (125, .invokevirtual 154, 3), (128, .ireturn, 1)]
theorem hX7_carryOut_0 : jD cX7_carryOut rX7_carryOut_0 = true := by decide +kernel
def rX7_tryOrder_0 : List jI := [(0, .aload_n 0, 1), (1, .getfield 10, 3), (4, .iload_n 1, 1), (5, .invokevirtual 391, 3), (8, .ifCond .eq 10, 3), (11, .iload_n 2, 1), (12, .invokestatic 396, 3), (15, .ifCond .ne 5, 3), (18, .iconst (-1), 1), (19, .ireturn, 1), (20, .iload_n 3, 1), (21, .iconst 1, 1), (22, .if_icmp .lt 9, 3), (25, .iload_n 3, 1), (26, .ldc 48, 2), (28, .if_icmp .le 6, 3), (31, .bipush (-2), 2), (33, .ireturn, 1), (34, .aload_n 0, 1), (35, .getfield 10, 3), (38, .getfield 64, 3), (41, .iload_n 1, 1), (42, .aaload, 1), (43, .astore 4, 2), (45, .aload_n 0, 1), (46, .aload 4, 2), (48, .iload_n 2, 1), (49, .iload_n 3, 1), (50, .invokevirtual 179, 3), (53, .istore 5, 2), (55, .iload 5, 2), (57, .ifCond .eq 12, 3), (60, .aload_n 0, 1), (61, .iload 5, 2), (63, .putfield 37, 3), (66, .bipush (-5), 2), (68, .ireturn, 1), (69, .aload_n 0, 1), (70, .getfield 26, 3), (73, .aload_n 0, 1), (74, .getfield 10, 3), (77, .invokevirtual 53, 3), (80, .aload 4, 2), (82, .iload_n 2, 1), (83, .iload_n 3, 1), (84, .aload_n 0, 1), (85, .getfield 10, 3), (88, .invokevirtual 420, 3), (91, .invokevirtual 423, 3), (94, .aload_n 0, 1), (95, .getfield 10, 3), (98, .getfield 243, 3), (101, .iconst 0, 1), (102, .iload_n 1, 1), (103, .iload_n 2, 1), (104, .iload_n 3, 1), (105, .invokevirtual 247, 3), (108, .aload_n 0, 1), (109, .getfield 10, 3), (112, .invokevirtual 166, 3)]
theorem hX7_tryOrder_0 : jD cX7_tryOrder rX7_tryOrder_0 = true := by decide +kernel
def rX7_tryOrder_1 : List jI := [(115, .ireturn, 1)]
theorem hX7_tryOrder_1 : jD cX7_tryOrder rX7_tryOrder_1 = true := by decide +kernel
def rX7_tryCancel_0 : List jI := [(0, .aload_n 0, 1), (1, .getfield 10, 3), (4, .iload_n 1, 1), (5, .invokevirtual 391, 3), (8, .ifCond .eq 10, 3), (11, .iload_n 2, 1), (12, .invokestatic 396, 3), (15, .ifCond .ne 5, 3), (18, .iconst (-1), 1), (19, .ireturn, 1), (20, .aload_n 0, 1), (21, .getfield 10, 3), (24, .getfield 64, 3), (27, .iload_n 1, 1), (28, .aaload, 1), (29, .astore_n 3, 1), (30, .aload_n 3, 1), (31, .getfield 158, 3), (34, .iload_n 2, 1), (35, .iaload, 1), (36, .istore 4, 2), (38, .iload 4, 2), (40, .ifCond .ne 6, 3), (43, .bipush (-4), 2), (45, .ireturn, 1), (46, .aload_n 3, 1), (47, .getfield 68, 3), (50, .ifCond .eq 6, 3), (53, .bipush (-3), 2), (55, .ireturn, 1), (56, .aload_n 0, 1), (57, .getfield 26, 3), (60, .aload_n 0, 1), (61, .getfield 10, 3), (64, .invokevirtual 53, 3), (67, .aload_n 3, 1), (68, .iload_n 2, 1), (69, .iconst 0, 1), (70, .iconst 0, 1), (71, .invokevirtual 423, 3), (74, .aload_n 0, 1), (75, .getfield 10, 3), (78, .getfield 243, 3), (81, .bipush 9, 2), (83, .iload_n 1, 1), (84, .iload_n 2, 1), (85, .iload 4, 2), (87, .invokevirtual 247, 3), (90, .iload 4, 2), (92, .ireturn, 1)]
theorem hX7_tryCancel_0 : jD cX7_tryCancel rX7_tryCancel_0 = true := by decide +kernel
def rX7_tryOpen_0 : List jI := [(0, .aload_n 0, 1), (1, .getfield 10, 3), (4, .iload_n 1, 1), (5, .invokevirtual 391, 3), (8, .ifCond .ne 5, 3), (11, .iconst (-1), 1), (12, .ireturn, 1), (13, .aload_n 0, 1), (14, .getfield 10, 3), (17, .getfield 64, 3), (20, .iload_n 1, 1), (21, .aaload, 1), (22, .astore_n 2, 1), (23, .aload_n 2, 1), (24, .getfield 68, 3), (27, .ifCond .eq 6, 3), (30, .bipush (-3), 2), (32, .ireturn, 1), (33, .aload_n 0, 1), (34, .getfield 26, 3), (37, .aload_n 0, 1), (38, .getfield 10, 3), (41, .invokevirtual 53, 3), (44, .aload_n 2, 1), (45, .iconst 1, 1), (46, .putfield 68, 3), (49, .aload_n 2, 1), (50, .dup, 1), (51, .getfield 82, 3), (54, .iconst 1, 1), (55, .iadd, 1), (56, .putfield 82, 3), (59, .aload_n 2, 1), (60, .invokevirtual 426, 3), (63, .aload_n 0, 1), (64, .getfield 10, 3), (67, .getfield 243, 3), (70, .iconst 1, 1), (71, .iload_n 1, 1), (72, .iconst (-1), 1), (73, .iconst 0, 1), (74, .invokevirtual 247, 3), (77, .aload_n 0, 1), (78, .getfield 19, 3), (81, .aload_n 2, 1), (82, .aload_n 0, 1), (83, .getfield 10, 3), (86, .getfield 92, 3), (89, .invokevirtual 190, 3), (92, .aload_n 0, 1), (93, .getfield 19, 3), (96, .aload_n 0, 1), (97, .getfield 10, 3), (100, .getfield 92, 3), (103, .invokevirtual 194, 3), (106, .ireturn, 1)]
theorem hX7_tryOpen_0 : jD cX7_tryOpen rX7_tryOpen_0 = true := by decide +kernel
def rX7_tryBid_0 : List jI := [(0, .aload_n 0, 1), (1, .getfield 10, 3), (4, .iload_n 1, 1), (5, .invokevirtual 391, 3), (8, .ifCond .eq 10, 3), (11, .iload_n 2, 1), (12, .invokestatic 396, 3), (15, .ifCond .ne 5, 3), (18, .iconst (-1), 1), (19, .ireturn, 1), (20, .iload_n 3, 1), (21, .iconst 1, 1), (22, .if_icmp .lt 9, 3), (25, .iload_n 3, 1), (26, .ldc 134, 2), (28, .if_icmp .le 6, 3), (31, .bipush (-2), 2), (33, .ireturn, 1), (34, .aload_n 0, 1), (35, .getfield 10, 3), (38, .getfield 64, 3), (41, .iload_n 1, 1), (42, .aaload, 1), (43, .astore 4, 2), (45, .aload_n 0, 1), (46, .aload 4, 2), (48, .iload_n 2, 1), (49, .iload_n 3, 1), (50, .invokevirtual 183, 3), (53, .istore 5, 2), (55, .iload 5, 2), (57, .ifCond .eq 12, 3), (60, .aload_n 0, 1), (61, .iload 5, 2), (63, .putfield 37, 3), (66, .bipush (-5), 2), (68, .ireturn, 1), (69, .aload_n 0, 1), (70, .getfield 26, 3), (73, .aload_n 0, 1), (74, .getfield 10, 3), (77, .invokevirtual 53, 3), (80, .aload 4, 2), (82, .iload_n 2, 1), (83, .iload_n 3, 1), (84, .aload_n 0, 1), (85, .getfield 10, 3), (88, .invokevirtual 420, 3), (91, .invokevirtual 429, 3), (94, .aload_n 0, 1), (95, .getfield 10, 3), (98, .getfield 243, 3), (101, .iconst 2, 1), (102, .iload_n 1, 1), (103, .iload_n 2, 1), (104, .iload_n 3, 1), (105, .invokevirtual 247, 3), (108, .aload_n 0, 1), (109, .getfield 19, 3), (112, .aload 4, 2)]
theorem hX7_tryBid_0 : jD cX7_tryBid rX7_tryBid_0 = true := by decide +kernel
def rX7_tryBid_1 : List jI := [(114, .aload_n 0, 1), (115, .getfield 10, 3), (118, .getfield 92, 3), (121, .invokevirtual 190, 3), (124, .aload_n 0, 1), (125, .getfield 19, 3), (128, .aload_n 0, 1), (129, .getfield 10, 3), (132, .getfield 92, 3), (135, .invokevirtual 194, 3), (138, .ireturn, 1)]
theorem hX7_tryBid_1 : jD cX7_tryBid rX7_tryBid_1 = true := by decide +kernel
def rX7_tryClose_0 : List jI := [(0, .aload_n 0, 1), (1, .getfield 10, 3), (4, .iload_n 1, 1), (5, .invokevirtual 391, 3), (8, .ifCond .ne 5, 3), (11, .iconst (-1), 1), (12, .ireturn, 1), (13, .aload_n 0, 1), (14, .getfield 10, 3), (17, .getfield 64, 3), (20, .iload_n 1, 1), (21, .aaload, 1), (22, .astore_n 2, 1), (23, .aload_n 2, 1), (24, .getfield 68, 3), (27, .iconst 1, 1), (28, .if_icmp .eq 6, 3), (31, .bipush (-3), 2), (33, .ireturn, 1), (34, .aload_n 0, 1), (35, .getfield 26, 3), (38, .aload_n 0, 1), (39, .getfield 10, 3), (42, .invokevirtual 53, 3), (45, .aload_n 0, 1), (46, .getfield 19, 3), (49, .aload_n 2, 1), (50, .aload_n 0, 1), (51, .getfield 10, 3), (54, .getfield 92, 3), (57, .invokevirtual 190, 3), (60, .aload_n 2, 1), (61, .invokevirtual 264, 3), (64, .aload_n 0, 1), (65, .getfield 19, 3), (68, .aload_n 2, 1), (69, .getfield 79, 3), (72, .aload_n 0, 1), (73, .getfield 10, 3), (76, .getfield 92, 3), (79, .invokevirtual 201, 3), (82, .ifCond .ne 11, 3), (85, .aload_n 0, 1), (86, .iload_n 1, 1), (87, .aload_n 2, 1), (88, .invokevirtual 432, 3), (91, .iconst 0, 1), (92, .ireturn, 1), (93, .aload_n 0, 1), (94, .getfield 19, 3), (97, .aload_n 0, 1), (98, .getfield 10, 3), (101, .getfield 92, 3), (104, .invokevirtual 194, 3), (107, .istore_n 3, 1), (108, .aload_n 2, 1), (109, .aload_n 0, 1), (110, .getfield 19, 3), (113, .getfield 198, 3), (116, .iload_n 3, 1)]
theorem hX7_tryClose_0 : jD cX7_tryClose rX7_tryClose_0 = true := by decide +kernel
def rX7_tryClose_1 : List jI := [(117, .invokevirtual 436, 3), (120, .aload_n 0, 1), (121, .getfield 10, 3), (124, .getfield 243, 3), (127, .iconst 3, 1), (128, .iload_n 1, 1), (129, .aload_n 0, 1), (130, .getfield 19, 3), (133, .getfield 198, 3), (136, .iload_n 3, 1), (137, .invokevirtual 247, 3), (140, .iload_n 3, 1), (141, .ireturn, 1)]
theorem hX7_tryClose_1 : jD cX7_tryClose rX7_tryClose_1 = true := by decide +kernel
def rX7_tryWithdraw_0 : List jI := [(0, .aload_n 0, 1), (1, .getfield 10, 3), (4, .iload_n 1, 1), (5, .invokevirtual 391, 3), (8, .ifCond .ne 5, 3), (11, .iconst (-1), 1), (12, .ireturn, 1), (13, .aload_n 0, 1), (14, .getfield 10, 3), (17, .getfield 64, 3), (20, .iload_n 1, 1), (21, .aaload, 1), (22, .astore_n 2, 1), (23, .aload_n 2, 1), (24, .getfield 68, 3), (27, .ifCond .eq 6, 3), (30, .bipush (-3), 2), (32, .ireturn, 1), (33, .aload_n 0, 1), (34, .getfield 26, 3), (37, .aload_n 0, 1), (38, .getfield 10, 3), (41, .invokevirtual 53, 3), (44, .aload_n 2, 1), (45, .invokevirtual 170, 3), (48, .istore_n 3, 1), (49, .aload_n 2, 1), (50, .invokevirtual 264, 3), (53, .aload_n 2, 1), (54, .iconst 4, 1), (55, .putfield 68, 3), (58, .aload_n 0, 1), (59, .getfield 10, 3), (62, .getfield 243, 3), (65, .iconst 5, 1), (66, .iload_n 1, 1), (67, .iconst (-1), 1), (68, .iconst 0, 1), (69, .invokevirtual 247, 3), (72, .iload_n 3, 1), (73, .ireturn, 1)]
theorem hX7_tryWithdraw_0 : jD cX7_tryWithdraw rX7_tryWithdraw_0 = true := by decide +kernel
def rX7_buyIn_0 : List jI := [(0, .aload_n 2, 1), (1, .getfield 79, 3), (4, .invokestatic 440, 3), (7, .istore_n 3, 1), (8, .aload_n 2, 1), (9, .iconst 3, 1), (10, .putfield 68, 3), (13, .aload_n 2, 1), (14, .aload_n 0, 1), (15, .getfield 19, 3), (18, .invokevirtual 443, 3), (21, .putfield 273, 3), (24, .aload_n 0, 1), (25, .getfield 10, 3), (28, .getfield 311, 3), (31, .aload_n 2, 1), (32, .getfield 73, 3), (35, .dup2, 1), (36, .iaload, 1), (37, .iload_n 3, 1), (38, .iadd, 1), (39, .iastore, 1), (40, .aload_n 0, 1), (41, .getfield 10, 3), (44, .getfield 243, 3), (47, .iconst 4, 1), (48, .iload_n 1, 1), (49, .iconst (-1), 1), (50, .iload_n 3, 1), (51, .invokevirtual 247, 3), (54, .return_, 1)]
theorem hX7_buyIn_0 : jD cX7_buyIn rX7_buyIn_0 = true := by decide +kernel
def rX7_orderReason_0 : List jI := [(0, .aload_n 1, 1), (1, .getfield 68, 3), (4, .ifCond .eq 14, 3), (7, .aload_n 1, 1), (8, .getfield 68, 3), (11, .iconst 1, 1), (12, .if_icmp .eq 6, 3), (15, .bipush 6, 2), (17, .ireturn, 1), (18, .aload_n 1, 1), (19, .getfield 158, 3), (22, .iload_n 2, 1), (23, .iaload, 1), (24, .iload_n 3, 1), (25, .if_icmp .lt 6, 3), (28, .bipush 7, 2), (30, .ireturn, 1), (31, .iload_n 3, 1), (32, .aload_n 0, 1), (33, .getfield 10, 3), (36, .getfield 145, 3), (39, .iload_n 2, 1), (40, .iaload, 1), (41, .if_icmp .le 6, 3), (44, .bipush 8, 2), (46, .ireturn, 1), (47, .aload_n 1, 1), (48, .getfield 158, 3), (51, .iload_n 2, 1), (52, .iaload, 1), (53, .ifCond .ne 18, 3), (56, .aload_n 0, 1), (57, .getfield 10, 3), (60, .invokevirtual 166, 3), (63, .bipush 40, 2), (65, .if_icmp .lt 6, 3), (68, .bipush 9, 2), (70, .ireturn, 1), (71, .iconst 0, 1), (72, .ireturn, 1)]
theorem hX7_orderReason_0 : jD cX7_orderReason rX7_orderReason_0 = true := by decide +kernel
def rX7_bidReason_0 : List jI := [(0, .aload_n 1, 1), (1, .getfield 68, 3), (4, .iconst 1, 1), (5, .if_icmp .eq 5, 3), (8, .iconst 1, 1), (9, .ireturn, 1), (10, .aload_n 0, 1), (11, .getfield 19, 3), (14, .aload_n 1, 1), (15, .aload_n 0, 1), (16, .getfield 10, 3), (19, .getfield 92, 3), (22, .invokevirtual 190, 3), (25, .aload_n 0, 1), (26, .getfield 19, 3), (29, .getfield 198, 3), (32, .iload_n 2, 1), (33, .if_icmp .ne 5, 3), (36, .iconst 2, 1), (37, .ireturn, 1), (38, .iload_n 3, 1), (39, .aload_n 0, 1), (40, .getfield 10, 3), (43, .getfield 92, 3), (46, .aload_n 0, 1), (47, .getfield 19, 3), (50, .aload_n 0, 1), (51, .getfield 10, 3), (54, .getfield 92, 3), (57, .invokevirtual 194, 3), (60, .invokevirtual 138, 3), (63, .if_icmp .ge 5, 3), (66, .iconst 3, 1), (67, .ireturn, 1), (68, .aload_n 0, 1), (69, .getfield 10, 3), (72, .getfield 92, 3), (75, .iload_n 3, 1), (76, .invokevirtual 225, 3), (79, .ifCond .ne 5, 3), (82, .iconst 4, 1), (83, .ireturn, 1), (84, .iload_n 3, 1), (85, .aload_n 0, 1), (86, .iload_n 2, 1), (87, .invokevirtual 297, 3), (90, .iadd, 1), (91, .aload_n 0, 1), (92, .getfield 10, 3), (95, .getfield 145, 3), (98, .iload_n 2, 1), (99, .iaload, 1), (100, .if_icmp .le 5, 3), (103, .iconst 5, 1), (104, .ireturn, 1), (105, .iconst 0, 1), (106, .ireturn, 1)]
theorem hX7_bidReason_0 : jD cX7_bidReason rX7_bidReason_0 = true := by decide +kernel
def rX7_exposureOf_0 : List jI := [(0, .aload_n 0, 1), (1, .getfield 10, 3), (4, .iload_n 1, 1), (5, .invokevirtual 288, 3), (8, .istore_n 2, 1), (9, .iconst 0, 1), (10, .istore_n 3, 1), (11, .iload_n 3, 1), (12, .aload_n 0, 1), (13, .getfield 10, 3), (16, .getfield 85, 3), (19, .if_icmp .ge 69, 3), (22, .aload_n 0, 1), (23, .getfield 10, 3), (26, .getfield 64, 3), (29, .iload_n 3, 1), (30, .aaload, 1), (31, .astore 4, 2), (33, .aload 4, 2), (35, .getfield 68, 3), (38, .iconst 1, 1), (39, .if_icmp .eq 6, 3), (42, .goto 40, 3), (45, .aload_n 0, 1), (46, .getfield 19, 3), (49, .aload 4, 2), (51, .aload_n 0, 1), (52, .getfield 10, 3), (55, .getfield 92, 3), (58, .invokevirtual 190, 3), (61, .aload_n 0, 1), (62, .getfield 19, 3), (65, .getfield 198, 3), (68, .iload_n 1, 1), (69, .if_icmp .ne 13, 3), (72, .iload_n 2, 1), (73, .aload_n 0, 1), (74, .getfield 19, 3), (77, .getfield 205, 3), (80, .iadd, 1), (81, .istore_n 2, 1), (82, .iinc 3 1, 3), (85, .goto (-74), 3), (88, .iload_n 2, 1), (89, .ireturn, 1)]
theorem hX7_exposureOf_0 : jD cX7_exposureOf rX7_exposureOf_0 = true := by decide +kernel
def rX7_leadsOf_0 : List jI := [(0, .iconst 0, 1), (1, .istore_n 2, 1), (2, .iconst 0, 1), (3, .istore_n 3, 1), (4, .iload_n 3, 1), (5, .aload_n 0, 1), (6, .getfield 10, 3), (9, .getfield 85, 3), (12, .if_icmp .ge 62, 3), (15, .aload_n 0, 1), (16, .getfield 10, 3), (19, .getfield 64, 3), (22, .iload_n 3, 1), (23, .aaload, 1), (24, .astore 4, 2), (26, .aload 4, 2), (28, .getfield 68, 3), (31, .iconst 1, 1), (32, .if_icmp .eq 6, 3), (35, .goto 33, 3), (38, .aload_n 0, 1), (39, .getfield 19, 3), (42, .aload 4, 2), (44, .aload_n 0, 1), (45, .getfield 10, 3), (48, .getfield 92, 3), (51, .invokevirtual 190, 3), (54, .aload_n 0, 1), (55, .getfield 19, 3), (58, .getfield 198, 3), (61, .iload_n 1, 1), (62, .if_icmp .ne 6, 3), (65, .iinc 2 1, 3), (68, .iinc 3 1, 3), (71, .goto (-67), 3), (74, .iload_n 2, 1), (75, .ireturn, 1)]
theorem hX7_leadsOf_0 : jD cX7_leadsOf rX7_leadsOf_0 = true := by decide +kernel
def rX7_premiumOf_0 : List jI := [(0, .iload_n 0, 1), (1, .sipush 1000, 3), (4, .invokestatic 446, 3), (7, .istore_n 1, 1), (8, .iload_n 0, 1), (9, .sipush 5000, 3), (12, .invokestatic 446, 3), (15, .iload_n 1, 1), (16, .isub, 1), (17, .istore_n 2, 1), (18, .iload_n 0, 1), (19, .iload_n 2, 1), (20, .isub, 1), (21, .iload_n 1, 1), (22, .isub, 1), (23, .istore_n 3, 1), (24, .iload_n 1, 1), (25, .bipush 25, 2), (27, .imul, 1), (28, .bipush 100, 2), (30, .idiv, 1), (31, .iload_n 2, 1), (32, .bipush 20, 2), (34, .imul, 1), (35, .bipush 100, 2), (37, .idiv, 1), (38, .iadd, 1), (39, .iload_n 3, 1), (40, .bipush 12, 2), (42, .imul, 1), (43, .bipush 100, 2), (45, .idiv, 1), (46, .iadd, 1), (47, .ireturn, 1)]
theorem hX7_premiumOf_0 : jD cX7_premiumOf rX7_premiumOf_0 = true := by decide +kernel
def rX7_commissionOf_0 : List jI := [(0, .iload_n 0, 1), (1, .iconst 5, 1), (2, .iload_n 0, 1), (3, .bipush 10, 2), (5, .idiv, 1), (6, .invokestatic 451, 3), (9, .invokestatic 446, 3), (12, .ireturn, 1)]
theorem hX7_commissionOf_0 : jD cX7_commissionOf rX7_commissionOf_0 = true := by decide +kernel
def rX7_feeOf_0 : List jI := [(0, .iload_n 0, 1), (1, .iconst 2, 1), (2, .imul, 1), (3, .bipush 100, 2), (5, .idiv, 1), (6, .ireturn, 1)]
theorem hX7_feeOf_0 : jD cX7_feeOf rX7_feeOf_0 = true := by decide +kernel
def rX8_isIn_0 : List jI := [(0, .iload_n 0, 1), (1, .iload_n 1, 1), (2, .if_icmp .lt 12, 3), (5, .iload_n 0, 1), (6, .iload_n 2, 1), (7, .if_icmp .gt 7, 3), (10, .iconst 1, 1), (11, .goto 4, 3), (14, .iconst 0, 1), (15, .ireturn, 1)]
theorem hX8_isIn_0 : jD cX8_isIn rX8_isIn_0 = true := by decide +kernel
def rX8_thrown_0 : List jI := [(0, .aload_n 0, 1), (1, .getfield 1, 3), (4, .ireturn, 1)]
theorem hX8_thrown_0 : jD cX8_thrown rX8_thrown_0 = true := by decide +kernel
def rX8_fail_0 : List jI := [(0, .aload_n 0, 1), (1, .iload_n 1, 1), (2, .putfield 1, 3), (5, .iconst 0, 1), (6, .ireturn, 1)]
theorem hX8_fail_0 : jD cX8_fail rX8_fail_0 = true := by decide +kernel
def rX8_init_0 : List jI := [(0, .aload_n 0, 1), (1, .invokespecial 7, 3), (4, .aload_n 0, 1), (5, .sipush 1992, 3), (8, .newarray .int, 2), (10, .putfield 13, 3), (13, .aload_n 0, 1), (14, .sipush 19920, 3), (17, .newarray .int, 2), (19, .putfield 17, 3), (22, .aload_n 0, 1), (23, .sipush 1992, 3), (26, .newarray .int, 2), (28, .putfield 20, 3), (31, .aload_n 0, 1), (32, .bipush 60, 2), (34, .newarray .char, 2), (36, .putfield 23, 3), (39, .aload_n 0, 1), (40, .iconst (-1), 1), (41, .putfield 27, 3), (44, .aload_n 0, 1), (45, .bipush 120, 2), (47, .newarray .int, 2), (49, .putfield 30, 3), (52, .aload_n 0, 1), (53, .getfield 13, 3), (56, .iconst 0, 1), (57, .iconst 4, 1), (58, .iastore, 1), (59, .aload_n 0, 1), (60, .getfield 13, 3), (63, .iconst 2, 1), (64, .bipush 100, 2), (66, .iastore, 1), (67, .aload_n 0, 1), (68, .getfield 13, 3), (71, .iconst 3, 1), (72, .sipush 500, 3), (75, .iastore, 1), (76, .aload_n 0, 1), (77, .getfield 13, 3), (80, .iconst 4, 1), (81, .sipush 2000, 3), (84, .iastore, 1), (85, .aload_n 0, 1), (86, .getfield 13, 3), (89, .bipush 7, 2), (91, .bipush 10, 2), (93, .iastore, 1), (94, .aload_n 0, 1), (95, .getfield 13, 3), (98, .bipush 8, 2), (100, .bipush 20, 2), (102, .iastore, 1), (103, .aload_n 0, 1), (104, .getfield 13, 3), (107, .bipush 9, 2), (109, .bipush 50, 2), (111, .iastore, 1)]
theorem hX8_init_0 : jD cX8_init rX8_init_0 = true := by decide +kernel
def rX8_init_1 : List jI := [(112, .aload_n 0, 1), (113, .getfield 13, 3), (116, .bipush 10, 2), (118, .bipush 100, 2), (120, .iastore, 1), (121, .iconst 0, 1), (122, .istore_n 1, 1), (123, .iload_n 1, 1), (124, .bipush 10, 2), (126, .if_icmp .ge 21, 3), (129, .aload_n 0, 1), (130, .getfield 13, 3), (133, .bipush 13, 2), (135, .iload_n 1, 1), (136, .iadd, 1), (137, .sipush 20000, 3), (140, .iastore, 1), (141, .iinc 1 1, 3), (144, .goto (-21), 3), (147, .return_, 1)]
theorem hX8_init_1 : jD cX8_init rX8_init_1 = true := by decide +kernel
def rX8_keep_0 : List jI := [(0, .aload_n 0, 1), (1, .getfield 33, 3), (4, .bipush 10, 2), (6, .if_icmp .ne 44, 3), (9, .iconst 0, 1), (10, .istore_n 1, 1), (11, .iload_n 1, 1), (12, .sipush 17928, 3), (15, .if_icmp .ge 25, 3), (18, .aload_n 0, 1), (19, .getfield 17, 3), (22, .iload_n 1, 1), (23, .aload_n 0, 1), (24, .getfield 17, 3), (27, .sipush 1992, 3), (30, .iload_n 1, 1), (31, .iadd, 1), (32, .iaload, 1), (33, .iastore, 1), (34, .iinc 1 1, 3), (37, .goto (-26), 3), (40, .aload_n 0, 1), (41, .dup, 1), (42, .getfield 33, 3), (45, .iconst 1, 1), (46, .isub, 1), (47, .putfield 33, 3), (50, .iconst 0, 1), (51, .istore_n 1, 1), (52, .iload_n 1, 1), (53, .sipush 1992, 3), (56, .if_icmp .ge 30, 3), (59, .aload_n 0, 1), (60, .getfield 17, 3), (63, .sipush 1992, 3), (66, .aload_n 0, 1), (67, .getfield 33, 3), (70, .imul, 1), (71, .iload_n 1, 1), (72, .iadd, 1), (73, .aload_n 0, 1), (74, .getfield 13, 3), (77, .iload_n 1, 1), (78, .iaload, 1), (79, .iastore, 1), (80, .iinc 1 1, 3), (83, .goto (-31), 3), (86, .aload_n 0, 1), (87, .dup, 1), (88, .getfield 33, 3), (91, .iconst 1, 1), (92, .iadd, 1), (93, .putfield 33, 3), (96, .return_, 1)]
theorem hX8_keep_0 : jD cX8_keep rX8_keep_0 = true := by decide +kernel
def rX8_note_0 : List jI := [(0, .aload_n 0, 1), (1, .getfield 13, 3), (4, .sipush 991, 3), (7, .iaload, 1), (8, .sipush 250, 3), (11, .if_icmp .ge 70, 3), (14, .sipush 992, 3), (17, .iconst 4, 1), (18, .aload_n 0, 1), (19, .getfield 13, 3), (22, .sipush 991, 3), (25, .iaload, 1), (26, .imul, 1), (27, .iadd, 1), (28, .istore 5, 2), (30, .aload_n 0, 1), (31, .getfield 13, 3), (34, .iload 5, 2), (36, .iload_n 1, 1), (37, .iastore, 1), (38, .aload_n 0, 1), (39, .getfield 13, 3), (42, .iload 5, 2), (44, .iconst 1, 1), (45, .iadd, 1), (46, .iload_n 2, 1), (47, .iastore, 1), (48, .aload_n 0, 1), (49, .getfield 13, 3), (52, .iload 5, 2), (54, .iconst 2, 1), (55, .iadd, 1), (56, .iload_n 3, 1), (57, .iastore, 1), (58, .aload_n 0, 1), (59, .getfield 13, 3), (62, .iload 5, 2), (64, .iconst 3, 1), (65, .iadd, 1), (66, .iload 4, 2), (68, .iastore, 1), (69, .aload_n 0, 1), (70, .getfield 13, 3), (73, .sipush 991, 3), (76, .dup2, 1), (77, .iaload, 1), (78, .iconst 1, 1), (79, .iadd, 1), (80, .iastore, 1), (81, .return_, 1)]
theorem hX8_note_0 : jD cX8_note rX8_note_0 = true := by decide +kernel
def rX8_isLot_0 : List jI := [(0, .iload_n 1, 1), (1, .iconst 0, 1), (2, .aload_n 0, 1), (3, .getfield 13, 3), (6, .bipush 23, 2), (8, .iaload, 1), (9, .iconst 1, 1), (10, .isub, 1), (11, .invokestatic 36, 3), (14, .ireturn, 1)]
theorem hX8_isLot_0 : jD cX8_isLot rX8_isLot_0 = true := by decide +kernel
def rX8_isBidder_0 : List jI := [(0, .iload_n 0, 1), (1, .iconst 0, 1), (2, .bipush 9, 2), (4, .invokestatic 36, 3), (7, .ireturn, 1)]
theorem hX8_isBidder_0 : jD cX8_isBidder rX8_isBidder_0 = true := by decide +kernel
def rX8_at_0 : List jI := [(0, .aload_n 0, 1), (1, .getfield 13, 3), (4, .bipush 24, 2), (6, .bipush 8, 2), (8, .iload_n 1, 1), (9, .imul, 1), (10, .iadd, 1), (11, .iload_n 2, 1), (12, .iadd, 1), (13, .iaload, 1), (14, .ireturn, 1)]
theorem hX8_at_0 : jD cX8_at rX8_at_0 = true := by decide +kernel
def rX8_set_0 : List jI := [(0, .aload_n 0, 1), (1, .getfield 13, 3), (4, .bipush 24, 2), (6, .bipush 8, 2), (8, .iload_n 1, 1), (9, .imul, 1), (10, .iadd, 1), (11, .iload_n 2, 1), (12, .iadd, 1), (13, .iload_n 3, 1), (14, .iastore, 1), (15, .return_, 1)]
theorem hX8_set_0 : jD cX8_set rX8_set_0 = true := by decide +kernel
def rX8_makeLot_0 : List jI := [(0, .aload_n 0, 1), (1, .getfield 13, 3), (4, .bipush 23, 2), (6, .iaload, 1), (7, .istore 4, 2), (9, .aload_n 0, 1), (10, .getfield 13, 3), (13, .bipush 23, 2), (15, .dup2, 1), (16, .iaload, 1), (17, .iconst 1, 1), (18, .iadd, 1), (19, .iastore, 1), (20, .aload_n 0, 1), (21, .iload 4, 2), (23, .iconst 0, 1), (24, .iload_n 1, 1), (25, .invokevirtual 40, 3), (28, .aload_n 0, 1), (29, .iload 4, 2), (31, .iconst 1, 1), (32, .iload_n 2, 1), (33, .invokevirtual 40, 3), (36, .aload_n 0, 1), (37, .iload 4, 2), (39, .iconst 2, 1), (40, .iload_n 3, 1), (41, .invokevirtual 40, 3), (44, .aload_n 0, 1), (45, .iload 4, 2), (47, .iconst 3, 1), (48, .iconst 0, 1), (49, .invokevirtual 40, 3), (52, .aload_n 0, 1), (53, .iload 4, 2), (55, .iconst 4, 1), (56, .iconst 0, 1), (57, .invokevirtual 40, 3), (60, .aload_n 0, 1), (61, .iload 4, 2), (63, .iconst 5, 1), (64, .iconst (-1), 1), (65, .invokevirtual 40, 3), (68, .aload_n 0, 1), (69, .iload 4, 2), (71, .bipush 6, 2), (73, .iconst (-1), 1), (74, .invokevirtual 40, 3), (77, .aload_n 0, 1), (78, .iload 4, 2), (80, .bipush 7, 2), (82, .iconst 0, 1), (83, .invokevirtual 40, 3), (86, .iconst 0, 1), (87, .istore 5, 2), (89, .iload 5, 2), (91, .bipush 10, 2), (93, .if_icmp .ge 29, 3), (96, .aload_n 0, 1), (97, .iload 4, 2)]
theorem hX8_makeLot_0 : jD cX8_makeLot rX8_makeLot_0 = true := by decide +kernel
def rX8_makeLot_1 : List jI := [(99, .iload 5, 2), (101, .iconst 0, 1), (102, .iconst 0, 1), (103, .invokevirtual 44, 3), (106, .aload_n 0, 1), (107, .iload 4, 2), (109, .iload 5, 2), (111, .iconst 0, 1), (112, .iconst 0, 1), (113, .invokevirtual 48, 3), (116, .iinc 5 1, 3), (119, .goto (-30), 3), (122, .iload 4, 2), (124, .ireturn, 1)]
theorem hX8_makeLot_1 : jD cX8_makeLot rX8_makeLot_1 = true := by decide +kernel
def rX8_orderOf_0 : List jI := [(0, .aload_n 0, 1), (1, .getfield 13, 3), (4, .sipush 184, 3), (7, .bipush 10, 2), (9, .iload_n 1, 1), (10, .imul, 1), (11, .iadd, 1), (12, .iload_n 2, 1), (13, .iadd, 1), (14, .iaload, 1), (15, .ireturn, 1)]
theorem hX8_orderOf_0 : jD cX8_orderOf rX8_orderOf_0 = true := by decide +kernel
def rX8_putOrder_0 : List jI := [(0, .aload_n 0, 1), (1, .getfield 13, 3), (4, .sipush 184, 3), (7, .bipush 10, 2), (9, .iload_n 1, 1), (10, .imul, 1), (11, .iadd, 1), (12, .iload_n 2, 1), (13, .iadd, 1), (14, .iload_n 3, 1), (15, .iastore, 1), (16, .aload_n 0, 1), (17, .getfield 13, 3), (20, .sipush 384, 3), (23, .bipush 10, 2), (25, .iload_n 1, 1), (26, .imul, 1), (27, .iadd, 1), (28, .iload_n 2, 1), (29, .iadd, 1), (30, .iload 4, 2), (32, .iastore, 1), (33, .return_, 1)]
theorem hX8_putOrder_0 : jD cX8_putOrder rX8_putOrder_0 = true := by decide +kernel
def rX8_putBid_0 : List jI := [(0, .aload_n 0, 1), (1, .getfield 13, 3), (4, .sipush 584, 3), (7, .bipush 10, 2), (9, .iload_n 1, 1), (10, .imul, 1), (11, .iadd, 1), (12, .iload_n 2, 1), (13, .iadd, 1), (14, .iload_n 3, 1), (15, .iastore, 1), (16, .aload_n 0, 1), (17, .getfield 13, 3), (20, .sipush 784, 3), (23, .bipush 10, 2), (25, .iload_n 1, 1), (26, .imul, 1), (27, .iadd, 1), (28, .iload_n 2, 1), (29, .iadd, 1), (30, .iload 4, 2), (32, .iastore, 1), (33, .return_, 1)]
theorem hX8_putBid_0 : jD cX8_putBid rX8_putBid_0 = true := by decide +kernel
def rX8_nextNumber_0 : List jI := [(0, .aload_n 0, 1), (1, .getfield 13, 3), (4, .sipush 984, 3), (7, .dup2, 1), (8, .iaload, 1), (9, .iconst 1, 1), (10, .iadd, 1), (11, .iastore, 1), (12, .aload_n 0, 1), (13, .getfield 13, 3), (16, .sipush 984, 3), (19, .iaload, 1), (20, .ireturn, 1)]
theorem hX8_nextNumber_0 : jD cX8_nextNumber rX8_nextNumber_0 = true := by decide +kernel
def rX8_ordersOf_0 : List jI := [(0, .iconst 0, 1), (1, .istore_n 2, 1), (2, .iconst 0, 1), (3, .istore_n 3, 1), (4, .iload_n 3, 1), (5, .bipush 10, 2), (7, .if_icmp .ge 26, 3), (10, .iload_n 2, 1), (11, .aload_n 0, 1), (12, .iload_n 1, 1), (13, .iload_n 3, 1), (14, .invokevirtual 51, 3), (17, .ifCond .le 7, 3), (20, .iconst 1, 1), (21, .goto 4, 3), (24, .iconst 0, 1), (25, .iadd, 1), (26, .istore_n 2, 1), (27, .iinc 3 1, 3), (30, .goto (-26), 3), (33, .iload_n 2, 1), (34, .ireturn, 1)]
theorem hX8_ordersOf_0 : jD cX8_ordersOf rX8_ordersOf_0 = true := by decide +kernel
def rX8_allOrders_0 : List jI := [(0, .iconst 0, 1), (1, .istore_n 1, 1), (2, .iconst 0, 1), (3, .istore_n 2, 1), (4, .iload_n 2, 1), (5, .aload_n 0, 1), (6, .getfield 13, 3), (9, .bipush 23, 2), (11, .iaload, 1), (12, .if_icmp .ge 17, 3), (15, .iload_n 1, 1), (16, .aload_n 0, 1), (17, .iload_n 2, 1), (18, .invokevirtual 55, 3), (21, .iadd, 1), (22, .istore_n 1, 1), (23, .iinc 2 1, 3), (26, .goto (-22), 3), (29, .iload_n 1, 1), (30, .ireturn, 1)]
theorem hX8_allOrders_0 : jD cX8_allOrders rX8_allOrders_0 = true := by decide +kernel
def rX8_removeOrders_0 : List jI := [(0, .aload_n 0, 1), (1, .iload_n 1, 1), (2, .invokevirtual 55, 3), (5, .istore_n 2, 1), (6, .iconst 0, 1), (7, .istore_n 3, 1), (8, .iload_n 3, 1), (9, .bipush 10, 2), (11, .if_icmp .ge 17, 3), (14, .aload_n 0, 1), (15, .iload_n 1, 1), (16, .iload_n 3, 1), (17, .iconst 0, 1), (18, .iconst 0, 1), (19, .invokevirtual 44, 3), (22, .iinc 3 1, 3), (25, .goto (-17), 3), (28, .iload_n 2, 1), (29, .ireturn, 1)]
theorem hX8_removeOrders_0 : jD cX8_removeOrders rX8_removeOrders_0 = true := by decide +kernel
def rX8_addLot_0 : List jI := [(0, .aload_n 0, 1), (1, .iload_n 1, 1), (2, .iconst 0, 1), (3, .iconst 5, 1), (4, .invokestatic 36, 3), (7, .ifCond .eq 23, 3), (10, .iload_n 2, 1), (11, .iconst 1, 1), (12, .bipush 20, 2), (14, .invokestatic 36, 3), (17, .ifCond .eq 13, 3), (20, .iload_n 3, 1), (21, .iconst 0, 1), (22, .ldc 59, 2), (24, .invokestatic 36, 3), (27, .ifCond .ne 7, 3), (30, .iconst 1, 1), (31, .goto 20, 3), (34, .aload_n 0, 1), (35, .getfield 13, 3), (38, .bipush 23, 2), (40, .iaload, 1), (41, .bipush 20, 2), (43, .if_icmp .ne 7, 3), (46, .iconst 2, 1), (47, .goto 4, 3), (50, .iconst 0, 1), (51, .putfield 1, 3), (54, .aload_n 0, 1), (55, .getfield 1, 3), (58, .ifCond .eq 5, 3), (61, .iconst 0, 1), (62, .ireturn, 1), (63, .aload_n 0, 1), (64, .invokevirtual 60, 3), (67, .aload_n 0, 1), (68, .iload_n 1, 1), (69, .iload_n 2, 1), (70, .iload_n 3, 1), (71, .invokevirtual 63, 3), (74, .ireturn, 1)]
theorem hX8_addLot_0 : jD cX8_addLot rX8_addLot_0 = true := by decide +kernel
def rX8_lot_0 : List jI := [(0, .aload_n 0, 1), (1, .aload_n 0, 1), (2, .iload_n 1, 1), (3, .invokevirtual 67, 3), (6, .ifCond .ne 7, 3), (9, .iconst 1, 1), (10, .goto 17, 3), (13, .iload_n 2, 1), (14, .iconst 0, 1), (15, .iconst 4, 1), (16, .invokestatic 36, 3), (19, .ifCond .ne 7, 3), (22, .iconst 2, 1), (23, .goto 4, 3), (26, .iconst 0, 1), (27, .putfield 1, 3), (30, .aload_n 0, 1), (31, .getfield 1, 3), (34, .ifCond .eq 7, 3), (37, .iconst 0, 1), (38, .goto 38, 3), (41, .iload_n 2, 1), (42, .ifCond .ne 12, 3), (45, .aload_n 0, 1), (46, .iload_n 1, 1), (47, .iconst 3, 1), (48, .invokevirtual 71, 3), (51, .goto 25, 3), (54, .iload_n 2, 1), (55, .iconst 4, 1), (56, .if_icmp .ne 12, 3), (59, .aload_n 0, 1), (60, .iload_n 1, 1), (61, .iconst 4, 1), (62, .invokevirtual 71, 3), (65, .goto 11, 3), (68, .aload_n 0, 1), (69, .iload_n 1, 1), (70, .iload_n 2, 1), (71, .iconst 1, 1), (72, .isub, 1), (73, .invokevirtual 71, 3), (76, .ireturn, 1)]
theorem hX8_lot_0 : jD cX8_lot rX8_lot_0 = true := by decide +kernel
def rX8_lots_0 : List jI := [(0, .aload_n 0, 1), (1, .iconst 0, 1), (2, .putfield 1, 3), (5, .iload_n 1, 1), (6, .iconst (-1), 1), (7, .bipush 6, 2), (9, .invokestatic 36, 3), (12, .ifCond .ne 9, 3), (15, .aload_n 0, 1), (16, .iconst 1, 1), (17, .invokevirtual 74, 3), (20, .ireturn, 1), (21, .iconst 0, 1), (22, .istore_n 2, 1), (23, .iconst 0, 1), (24, .istore_n 3, 1), (25, .iload_n 3, 1), (26, .aload_n 0, 1), (27, .getfield 13, 3), (30, .bipush 23, 2), (32, .iaload, 1), (33, .if_icmp .ge 32, 3), (36, .iload_n 2, 1), (37, .iload_n 1, 1), (38, .iconst (-1), 1), (39, .if_icmp .eq 13, 3), (42, .aload_n 0, 1), (43, .iload_n 3, 1), (44, .iconst 3, 1), (45, .invokevirtual 71, 3), (48, .iload_n 1, 1), (49, .if_icmp .ne 7, 3), (52, .iconst 1, 1), (53, .goto 4, 3), (56, .iconst 0, 1), (57, .iadd, 1), (58, .istore_n 2, 1), (59, .iinc 3 1, 3), (62, .goto (-37), 3), (65, .iload_n 2, 1), (66, .ireturn, 1)]
theorem hX8_lots_0 : jD cX8_lots rX8_lots_0 = true := by decide +kernel
def rX8_rowOf_0 : List jI := [(0, .iconst 0, 1), (1, .istore_n 2, 1), (2, .iconst 1, 1), (3, .istore_n 3, 1), (4, .iload_n 3, 1), (5, .aload_n 0, 1), (6, .getfield 13, 3), (9, .iconst 0, 1), (10, .iaload, 1), (11, .if_icmp .ge 27, 3), (14, .aload_n 0, 1), (15, .getfield 13, 3), (18, .iconst 1, 1), (19, .iload_n 3, 1), (20, .iadd, 1), (21, .iaload, 1), (22, .iload_n 1, 1), (23, .if_icmp .gt 7, 3), (26, .iload_n 3, 1), (27, .goto 4, 3), (30, .iload_n 2, 1), (31, .istore_n 2, 1), (32, .iinc 3 1, 3), (35, .goto (-31), 3), (38, .iload_n 2, 1), (39, .ireturn, 1)]
theorem hX8_rowOf_0 : jD cX8_rowOf rX8_rowOf_0 = true := by decide +kernel
def rX8_stepBelow_0 : List jI := [(0, .aload_n 0, 1), (1, .getfield 13, 3), (4, .bipush 7, 2), (6, .iaload, 1), (7, .istore_n 2, 1), (8, .iload_n 1, 1), (9, .iload_n 2, 1), (10, .if_icmp .ge 5, 3), (13, .iconst 0, 1), (14, .ireturn, 1), (15, .aload_n 0, 1), (16, .iload_n 2, 1), (17, .invokevirtual 77, 3), (20, .istore_n 3, 1), (21, .aload_n 0, 1), (22, .getfield 13, 3), (25, .bipush 7, 2), (27, .iload_n 3, 1), (28, .iadd, 1), (29, .iaload, 1), (30, .istore 4, 2), (32, .iload_n 3, 1), (33, .iconst 1, 1), (34, .iadd, 1), (35, .aload_n 0, 1), (36, .getfield 13, 3), (39, .iconst 0, 1), (40, .iaload, 1), (41, .if_icmp .ge 16, 3), (44, .aload_n 0, 1), (45, .getfield 13, 3), (48, .iconst 1, 1), (49, .iload_n 3, 1), (50, .iadd, 1), (51, .iconst 1, 1), (52, .iadd, 1), (53, .iaload, 1), (54, .goto 5, 3), (57, .ldc 80, 2), (59, .istore 5, 2), (61, .iload_n 2, 1), (62, .iload 5, 2), (64, .iload_n 2, 1), (65, .isub, 1), (66, .iload 4, 2), (68, .iadd, 1), (69, .iconst 1, 1), (70, .isub, 1), (71, .iload 4, 2), (73, .idiv, 1), (74, .iload 4, 2), (76, .imul, 1), (77, .iadd, 1), (78, .istore 6, 2), (80, .iload 6, 2), (82, .iload_n 1, 1), (83, .if_icmp .le 15, 3), (86, .iload_n 2, 1), (87, .iload_n 1, 1), (88, .iload_n 2, 1)]
theorem hX8_stepBelow_0 : jD cX8_stepBelow rX8_stepBelow_0 = true := by decide +kernel
def rX8_stepBelow_1 : List jI := [(89, .isub, 1), (90, .iload 4, 2), (92, .idiv, 1), (93, .iload 4, 2), (95, .imul, 1), (96, .iadd, 1), (97, .ireturn, 1), (98, .iload 6, 2), (100, .istore_n 2, 1), (101, .goto (-86), 3)]
theorem hX8_stepBelow_1 : jD cX8_stepBelow rX8_stepBelow_1 = true := by decide +kernel
def rX8_stepAbove_0 : List jI := [(0, .aload_n 0, 1), (1, .iload_n 1, 1), (2, .invokevirtual 81, 3), (5, .istore_n 2, 1), (6, .iload_n 2, 1), (7, .ifCond .ne 13, 3), (10, .aload_n 0, 1), (11, .getfield 13, 3), (14, .bipush 7, 2), (16, .iaload, 1), (17, .goto 18, 3), (20, .iload_n 2, 1), (21, .aload_n 0, 1), (22, .getfield 13, 3), (25, .bipush 7, 2), (27, .aload_n 0, 1), (28, .iload_n 2, 1), (29, .invokevirtual 77, 3), (32, .iadd, 1), (33, .iaload, 1), (34, .iadd, 1), (35, .ireturn, 1)]
theorem hX8_stepAbove_0 : jD cX8_stepAbove rX8_stepAbove_0 = true := by decide +kernel
def rX8_isStep_0 : List jI := [(0, .iload_n 1, 1), (1, .ifCond .le 16, 3), (4, .aload_n 0, 1), (5, .iload_n 1, 1), (6, .invokevirtual 81, 3), (9, .iload_n 1, 1), (10, .if_icmp .ne 7, 3), (13, .iconst 1, 1), (14, .goto 4, 3), (17, .iconst 0, 1), (18, .ireturn, 1)]
theorem hX8_isStep_0 : jD cX8_isStep rX8_isStep_0 = true := by decide +kernel
def rX8_hasOpenLot_0 : List jI := [(0, .iconst 0, 1), (1, .istore_n 1, 1), (2, .iconst 0, 1), (3, .istore_n 2, 1), (4, .iload_n 2, 1), (5, .aload_n 0, 1), (6, .getfield 13, 3), (9, .bipush 23, 2), (11, .iaload, 1), (12, .if_icmp .ge 29, 3), (15, .iload_n 1, 1), (16, .ifCond .ne 13, 3), (19, .aload_n 0, 1), (20, .iload_n 2, 1), (21, .iconst 3, 1), (22, .invokevirtual 71, 3), (25, .iconst 1, 1), (26, .if_icmp .ne 7, 3), (29, .iconst 1, 1), (30, .goto 4, 3), (33, .iconst 0, 1), (34, .istore_n 1, 1), (35, .iinc 2 1, 3), (38, .goto (-34), 3), (41, .iload_n 1, 1), (42, .ireturn, 1)]
theorem hX8_hasOpenLot_0 : jD cX8_hasOpenLot rX8_hasOpenLot_0 = true := by decide +kernel
def rX8_setRows_0 : List jI := [(0, .aload_n 0, 1), (1, .iconst 0, 1), (2, .putfield 1, 3), (5, .iload_n 1, 1), (6, .iconst 0, 1), (7, .iconst 5, 1), (8, .invokestatic 36, 3), (11, .ifCond .eq 13, 3), (14, .iload_n 1, 1), (15, .aload_n 0, 1), (16, .getfield 13, 3), (19, .iconst 0, 1), (20, .iaload, 1), (21, .if_icmp .le 9, 3), (24, .aload_n 0, 1), (25, .iconst 1, 1), (26, .invokevirtual 74, 3), (29, .ireturn, 1), (30, .iload_n 1, 1), (31, .ifCond .ne 15, 3), (34, .iload_n 2, 1), (35, .ifCond .ne 7, 3), (38, .iconst 1, 1), (39, .goto 26, 3), (42, .iconst 0, 1), (43, .goto 22, 3), (46, .iload_n 2, 1), (47, .aload_n 0, 1), (48, .getfield 13, 3), (51, .iconst 1, 1), (52, .iload_n 1, 1), (53, .iadd, 1), (54, .iconst 1, 1), (55, .isub, 1), (56, .iaload, 1), (57, .if_icmp .le 7, 3), (60, .iconst 1, 1), (61, .goto 4, 3), (64, .iconst 0, 1), (65, .istore 4, 2), (67, .iload_n 2, 1), (68, .iconst 0, 1), (69, .ldc 59, 2), (71, .invokestatic 36, 3), (74, .ifCond .eq 19, 3), (77, .iload_n 3, 1), (78, .iconst 1, 1), (79, .sipush 5000, 3), (82, .invokestatic 36, 3), (85, .ifCond .eq 8, 3), (88, .iload 4, 2), (90, .ifCond .ne 9, 3), (93, .aload_n 0, 1), (94, .iconst 2, 1), (95, .invokevirtual 74, 3), (98, .ireturn, 1), (99, .aload_n 0, 1), (100, .invokevirtual 84, 3), (103, .ifCond .eq 9, 3), (106, .aload_n 0, 1)]
theorem hX8_setRows_0 : jD cX8_setRows rX8_setRows_0 = true := by decide +kernel
def rX8_setRows_1 : List jI := [(107, .iconst 3, 1), (108, .invokevirtual 74, 3), (111, .ireturn, 1), (112, .aload_n 0, 1), (113, .invokevirtual 60, 3), (116, .aload_n 0, 1), (117, .getfield 13, 3), (120, .iconst 0, 1), (121, .iload_n 1, 1), (122, .iconst 1, 1), (123, .iadd, 1), (124, .iastore, 1), (125, .aload_n 0, 1), (126, .getfield 13, 3), (129, .iconst 1, 1), (130, .iload_n 1, 1), (131, .iadd, 1), (132, .iload_n 2, 1), (133, .iastore, 1), (134, .aload_n 0, 1), (135, .getfield 13, 3), (138, .bipush 7, 2), (140, .iload_n 1, 1), (141, .iadd, 1), (142, .iload_n 3, 1), (143, .iastore, 1), (144, .iload_n 1, 1), (145, .iconst 1, 1), (146, .iadd, 1), (147, .ireturn, 1)]
theorem hX8_setRows_1 : jD cX8_setRows rX8_setRows_1 = true := by decide +kernel
def rX8_row_0 : List jI := [(0, .aload_n 0, 1), (1, .iload_n 1, 1), (2, .iconst 0, 1), (3, .aload_n 0, 1), (4, .getfield 13, 3), (7, .iconst 0, 1), (8, .iaload, 1), (9, .iconst 1, 1), (10, .isub, 1), (11, .invokestatic 36, 3), (14, .ifCond .ne 7, 3), (17, .iconst 1, 1), (18, .goto 17, 3), (21, .iload_n 2, 1), (22, .iconst 0, 1), (23, .iconst 1, 1), (24, .invokestatic 36, 3), (27, .ifCond .ne 7, 3), (30, .iconst 2, 1), (31, .goto 4, 3), (34, .iconst 0, 1), (35, .putfield 1, 3), (38, .aload_n 0, 1), (39, .getfield 1, 3), (42, .ifCond .ne 23, 3), (45, .aload_n 0, 1), (46, .getfield 13, 3), (49, .iload_n 2, 1), (50, .ifCond .ne 7, 3), (53, .iconst 1, 1), (54, .goto 5, 3), (57, .bipush 7, 2), (59, .iload_n 1, 1), (60, .iadd, 1), (61, .iaload, 1), (62, .goto 4, 3), (65, .iconst 0, 1), (66, .ireturn, 1)]
theorem hX8_row_0 : jD cX8_row rX8_row_0 = true := by decide +kernel
def rX8_step_0 : List jI := [(0, .aload_n 0, 1), (1, .iconst 0, 1), (2, .putfield 1, 3), (5, .iload_n 1, 1), (6, .iconst 0, 1), (7, .ldc 88, 2), (9, .invokestatic 36, 3), (12, .ifCond .eq 11, 3), (15, .aload_n 0, 1), (16, .iload_n 1, 1), (17, .invokevirtual 81, 3), (20, .goto 8, 3), (23, .aload_n 0, 1), (24, .iconst 1, 1), (25, .invokevirtual 74, 3), (28, .ireturn, 1)]
theorem hX8_step_0 : jD cX8_step rX8_step_0 = true := by decide +kernel
def rX8_nextStep_0 : List jI := [(0, .aload_n 0, 1), (1, .iconst 0, 1), (2, .putfield 1, 3), (5, .iload_n 1, 1), (6, .iconst 0, 1), (7, .ldc 88, 2), (9, .invokestatic 36, 3), (12, .ifCond .eq 11, 3), (15, .aload_n 0, 1), (16, .iload_n 1, 1), (17, .invokevirtual 89, 3), (20, .goto 8, 3), (23, .aload_n 0, 1), (24, .iconst 1, 1), (25, .invokevirtual 74, 3), (28, .ireturn, 1)]
theorem hX8_nextStep_0 : jD cX8_nextStep rX8_nextStep_0 = true := by decide +kernel
def rX8_setCredit_0 : List jI := [(0, .aload_n 0, 1), (1, .iload_n 1, 1), (2, .invokestatic 92, 3), (5, .ifCond .ne 7, 3), (8, .iconst 1, 1), (9, .goto 18, 3), (12, .iload_n 2, 1), (13, .iconst 0, 1), (14, .ldc 95, 2), (16, .invokestatic 36, 3), (19, .ifCond .ne 7, 3), (22, .iconst 2, 1), (23, .goto 4, 3), (26, .iconst 0, 1), (27, .putfield 1, 3), (30, .aload_n 0, 1), (31, .getfield 1, 3), (34, .ifCond .eq 5, 3), (37, .iconst 0, 1), (38, .ireturn, 1), (39, .aload_n 0, 1), (40, .invokevirtual 60, 3), (43, .aload_n 0, 1), (44, .getfield 13, 3), (47, .bipush 13, 2), (49, .iload_n 1, 1), (50, .iadd, 1), (51, .iaload, 1), (52, .istore_n 3, 1), (53, .aload_n 0, 1), (54, .getfield 13, 3), (57, .bipush 13, 2), (59, .iload_n 1, 1), (60, .iadd, 1), (61, .iload_n 2, 1), (62, .iastore, 1), (63, .iload_n 3, 1), (64, .ireturn, 1)]
theorem hX8_setCredit_0 : jD cX8_setCredit rX8_setCredit_0 = true := by decide +kernel
def rX8_limitOf_0 : List jI := [(0, .aload_n 0, 1), (1, .iload_n 1, 1), (2, .iload_n 2, 1), (3, .invokevirtual 51, 3), (6, .istore_n 3, 1), (7, .iload_n 3, 1), (8, .ifCond .le 11, 3), (11, .aload_n 0, 1), (12, .iload_n 3, 1), (13, .invokevirtual 81, 3), (16, .goto 4, 3), (19, .iconst 0, 1), (20, .istore 4, 2), (22, .iload 4, 2), (24, .aload_n 0, 1), (25, .getfield 13, 3), (28, .sipush 584, 3), (31, .bipush 10, 2), (33, .iload_n 1, 1), (34, .imul, 1), (35, .iadd, 1), (36, .iload_n 2, 1), (37, .iadd, 1), (38, .iaload, 1), (39, .invokestatic 96, 3), (42, .ireturn, 1)]
theorem hX8_limitOf_0 : jD cX8_limitOf rX8_limitOf_0 = true := by decide +kernel
def rX8_timeOf_0 : List jI := [(0, .bipush 10, 2), (2, .iload_n 1, 1), (3, .imul, 1), (4, .iload_n 2, 1), (5, .iadd, 1), (6, .istore_n 3, 1), (7, .aload_n 0, 1), (8, .iload_n 1, 1), (9, .iload_n 2, 1), (10, .invokevirtual 101, 3), (13, .istore 4, 2), (15, .aload_n 0, 1), (16, .getfield 13, 3), (19, .sipush 184, 3), (22, .iload_n 3, 1), (23, .iadd, 1), (24, .iaload, 1), (25, .ifCond .le 26, 3), (28, .aload_n 0, 1), (29, .aload_n 0, 1), (30, .getfield 13, 3), (33, .sipush 184, 3), (36, .iload_n 3, 1), (37, .iadd, 1), (38, .iaload, 1), (39, .invokevirtual 81, 3), (42, .iload 4, 2), (44, .if_icmp .ne 7, 3), (47, .iconst 1, 1), (48, .goto 4, 3), (51, .iconst 0, 1), (52, .istore 5, 2), (54, .aload_n 0, 1), (55, .getfield 13, 3), (58, .sipush 584, 3), (61, .iload_n 3, 1), (62, .iadd, 1), (63, .iaload, 1), (64, .ifCond .le 22, 3), (67, .aload_n 0, 1), (68, .getfield 13, 3), (71, .sipush 584, 3), (74, .iload_n 3, 1), (75, .iadd, 1), (76, .iaload, 1), (77, .iload 4, 2), (79, .if_icmp .ne 7, 3), (82, .iconst 1, 1), (83, .goto 4, 3), (86, .iconst 0, 1), (87, .istore 6, 2), (89, .iload 5, 2), (91, .ifCond .eq 34, 3), (94, .iload 6, 2), (96, .ifCond .eq 29, 3), (99, .aload_n 0, 1), (100, .getfield 13, 3), (103, .sipush 384, 3), (106, .iload_n 3, 1), (107, .iadd, 1)]
theorem hX8_timeOf_0 : jD cX8_timeOf rX8_timeOf_0 = true := by decide +kernel
def rX8_timeOf_1 : List jI := [(108, .iaload, 1), (109, .aload_n 0, 1), (110, .getfield 13, 3), (113, .sipush 784, 3), (116, .iload_n 3, 1), (117, .iadd, 1), (118, .iaload, 1), (119, .invokestatic 104, 3), (122, .goto 31, 3), (125, .iload 5, 2), (127, .ifCond .eq 16, 3), (130, .aload_n 0, 1), (131, .getfield 13, 3), (134, .sipush 384, 3), (137, .iload_n 3, 1), (138, .iadd, 1), (139, .iaload, 1), (140, .goto 13, 3), (143, .aload_n 0, 1), (144, .getfield 13, 3), (147, .sipush 784, 3), (150, .iload_n 3, 1), (151, .iadd, 1), (152, .iaload, 1), (153, .ireturn, 1)]
theorem hX8_timeOf_1 : jD cX8_timeOf rX8_timeOf_1 = true := by decide +kernel
def rX8_houseLimit_0 : List jI := [(0, .aload_n 0, 1), (1, .iload_n 1, 1), (2, .iconst 2, 1), (3, .invokevirtual 71, 3), (6, .ifCond .le 18, 3), (9, .aload_n 0, 1), (10, .aload_n 0, 1), (11, .iload_n 1, 1), (12, .iconst 2, 1), (13, .invokevirtual 71, 3), (16, .iconst 1, 1), (17, .isub, 1), (18, .invokevirtual 81, 3), (21, .goto 4, 3), (24, .iconst 0, 1), (25, .ireturn, 1)]
theorem hX8_houseLimit_0 : jD cX8_houseLimit rX8_houseLimit_0 = true := by decide +kernel
def rX8_isAhead_0 : List jI := [(0, .aload_n 0, 1), (1, .iload_n 1, 1), (2, .iload_n 2, 1), (3, .invokevirtual 101, 3), (6, .istore 4, 2), (8, .aload_n 0, 1), (9, .iload_n 1, 1), (10, .iload_n 3, 1), (11, .invokevirtual 101, 3), (14, .istore 5, 2), (16, .iload 4, 2), (18, .iload 5, 2), (20, .if_icmp .gt 25, 3), (23, .iload 4, 2), (25, .iload 5, 2), (27, .if_icmp .ne 22, 3), (30, .aload_n 0, 1), (31, .iload_n 1, 1), (32, .iload_n 2, 1), (33, .invokevirtual 107, 3), (36, .aload_n 0, 1), (37, .iload_n 1, 1), (38, .iload_n 3, 1), (39, .invokevirtual 107, 3), (42, .if_icmp .ge 7, 3), (45, .iconst 1, 1), (46, .goto 4, 3), (49, .iconst 0, 1), (50, .ireturn, 1)]
theorem hX8_isAhead_0 : jD cX8_isAhead rX8_isAhead_0 = true := by decide +kernel
def rX8_ranked_0 : List jI := [(0, .iconst 0, 1), (1, .istore_n 3, 1), (2, .iload_n 3, 1), (3, .bipush 10, 2), (5, .if_icmp .ge 82, 3), (8, .iconst 0, 1), (9, .istore 4, 2), (11, .iconst 0, 1), (12, .istore 5, 2), (14, .iload 5, 2), (16, .bipush 10, 2), (18, .if_icmp .ge 46, 3), (21, .iload 4, 2), (23, .iload 5, 2), (25, .iload_n 3, 1), (26, .if_icmp .eq 28, 3), (29, .aload_n 0, 1), (30, .iload_n 1, 1), (31, .iload 5, 2), (33, .invokevirtual 101, 3), (36, .ifCond .le 18, 3), (39, .aload_n 0, 1), (40, .iload_n 1, 1), (41, .iload 5, 2), (43, .iload_n 3, 1), (44, .invokevirtual 110, 3), (47, .ifCond .eq 7, 3), (50, .iconst 1, 1), (51, .goto 4, 3), (54, .iconst 0, 1), (55, .iadd, 1), (56, .istore 4, 2), (58, .iinc 5 1, 3), (61, .goto (-47), 3), (64, .aload_n 0, 1), (65, .iload_n 1, 1), (66, .iload_n 3, 1), (67, .invokevirtual 101, 3), (70, .ifCond .le 11, 3), (73, .iload 4, 2), (75, .iload_n 2, 1), (76, .if_icmp .ne 5, 3), (79, .iload_n 3, 1), (80, .ireturn, 1), (81, .iinc 3 1, 3), (84, .goto (-82), 3), (87, .iconst (-1), 1), (88, .ireturn, 1)]
theorem hX8_ranked_0 : jD cX8_ranked rX8_ranked_0 = true := by decide +kernel
def rX8_stand_0 : List jI := [(0, .aload_n 0, 1), (1, .iload_n 1, 1), (2, .invokevirtual 113, 3), (5, .istore_n 2, 1), (6, .aload_n 0, 1), (7, .iload_n 1, 1), (8, .iconst 0, 1), (9, .invokevirtual 116, 3), (12, .istore_n 3, 1), (13, .iload_n 3, 1), (14, .iconst (-1), 1), (15, .if_icmp .ne 7, 3), (18, .iconst 0, 1), (19, .goto 9, 3), (22, .aload_n 0, 1), (23, .iload_n 1, 1), (24, .iload_n 3, 1), (25, .invokevirtual 101, 3), (28, .istore 4, 2), (30, .iload_n 3, 1), (31, .iconst (-1), 1), (32, .if_icmp .ne 7, 3), (35, .iconst (-1), 1), (36, .goto 9, 3), (39, .aload_n 0, 1), (40, .iload_n 1, 1), (41, .iconst 1, 1), (42, .invokevirtual 116, 3), (45, .istore 5, 2), (47, .iload_n 3, 1), (48, .iconst (-1), 1), (49, .if_icmp .ne 28, 3), (52, .iload_n 2, 1), (53, .ifCond .ne 24, 3), (56, .aload_n 0, 1), (57, .iconst (-1), 1), (58, .putfield 119, 3), (61, .aload_n 0, 1), (62, .iconst 0, 1), (63, .putfield 122, 3), (66, .aload_n 0, 1), (67, .iconst 0, 1), (68, .putfield 125, 3), (71, .aload_n 0, 1), (72, .iconst 0, 1), (73, .putfield 128, 3), (76, .return_, 1), (77, .iload_n 2, 1), (78, .iload 4, 2), (80, .if_icmp .le 7, 3), (83, .iconst 1, 1), (84, .goto 4, 3), (87, .iconst 0, 1), (88, .istore 6, 2), (90, .aload_n 0, 1), (91, .iload 6, 2), (93, .ifCond .eq 8, 3), (96, .bipush 10, 2), (98, .goto 4, 3), (101, .iload_n 3, 1)]
theorem hX8_stand_0 : jD cX8_stand rX8_stand_0 = true := by decide +kernel
def rX8_stand_1 : List jI := [(102, .putfield 119, 3), (105, .aload_n 0, 1), (106, .iload 6, 2), (108, .ifCond .eq 7, 3), (111, .iload_n 2, 1), (112, .goto 5, 3), (115, .iload 4, 2), (117, .putfield 122, 3), (120, .aload_n 0, 1), (121, .iload 6, 2), (123, .ifCond .eq 8, 3), (126, .iload 4, 2), (128, .goto 24, 3), (131, .iload_n 2, 1), (132, .iload 5, 2), (134, .iconst (-1), 1), (135, .if_icmp .ne 7, 3), (138, .iconst 0, 1), (139, .goto 10, 3), (142, .aload_n 0, 1), (143, .iload_n 1, 1), (144, .iload 5, 2), (146, .invokevirtual 101, 3), (149, .invokestatic 96, 3), (152, .putfield 125, 3), (155, .aload_n 0, 1), (156, .aload_n 0, 1), (157, .getfield 122, 3), (160, .aload_n 0, 1), (161, .aload_n 0, 1), (162, .getfield 125, 3), (165, .invokevirtual 89, 3), (168, .invokestatic 104, 3), (171, .putfield 128, 3), (174, .return_, 1)]
theorem hX8_stand_1 : jD cX8_stand rX8_stand_1 = true := by decide +kernel
def rX8_isMet_0 : List jI := [(0, .aload_n 0, 1), (1, .getfield 119, 3), (4, .iconst (-1), 1), (5, .if_icmp .eq 29, 3), (8, .aload_n 0, 1), (9, .getfield 119, 3), (12, .bipush 10, 2), (14, .if_icmp .eq 20, 3), (17, .aload_n 0, 1), (18, .getfield 128, 3), (21, .aload_n 0, 1), (22, .iload_n 1, 1), (23, .iconst 2, 1), (24, .invokevirtual 71, 3), (27, .if_icmp .lt 7, 3), (30, .iconst 1, 1), (31, .goto 4, 3), (34, .iconst 0, 1), (35, .ireturn, 1)]
theorem hX8_isMet_0 : jD cX8_isMet rX8_isMet_0 = true := by decide +kernel
def rX8_countingLimits_0 : List jI := [(0, .iconst 0, 1), (1, .istore_n 2, 1), (2, .iconst 0, 1), (3, .istore_n 3, 1), (4, .iload_n 3, 1), (5, .bipush 10, 2), (7, .if_icmp .ge 26, 3), (10, .iload_n 2, 1), (11, .aload_n 0, 1), (12, .iload_n 1, 1), (13, .iload_n 3, 1), (14, .invokevirtual 101, 3), (17, .ifCond .le 7, 3), (20, .iconst 1, 1), (21, .goto 4, 3), (24, .iconst 0, 1), (25, .iadd, 1), (26, .istore_n 2, 1), (27, .iinc 3 1, 3), (30, .goto (-26), 3), (33, .iload_n 2, 1), (34, .ireturn, 1)]
theorem hX8_countingLimits_0 : jD cX8_countingLimits rX8_countingLimits_0 = true := by decide +kernel
def rX8_isLeading_0 : List jI := [(0, .aload_n 0, 1), (1, .iload_n 1, 1), (2, .iconst 3, 1), (3, .invokevirtual 71, 3), (6, .iconst 1, 1), (7, .if_icmp .eq 5, 3), (10, .iconst 0, 1), (11, .ireturn, 1), (12, .aload_n 0, 1), (13, .iload_n 1, 1), (14, .invokevirtual 131, 3), (17, .aload_n 0, 1), (18, .getfield 119, 3), (21, .iload_n 2, 1), (22, .if_icmp .ne 7, 3), (25, .iconst 1, 1), (26, .goto 4, 3), (29, .iconst 0, 1), (30, .ireturn, 1)]
theorem hX8_isLeading_0 : jD cX8_isLeading rX8_isLeading_0 = true := by decide +kernel
def rX8_boughtBy_0 : List jI := [(0, .iconst 0, 1), (1, .istore_n 3, 1), (2, .iconst 0, 1), (3, .istore 4, 2), (5, .iload 4, 2), (7, .aload_n 0, 1), (8, .getfield 13, 3), (11, .bipush 23, 2), (13, .iaload, 1), (14, .if_icmp .ge 86, 3), (17, .aload_n 0, 1), (18, .iload 4, 2), (20, .iconst 3, 1), (21, .invokevirtual 71, 3), (24, .iconst 2, 1), (25, .if_icmp .ne 19, 3), (28, .aload_n 0, 1), (29, .iload 4, 2), (31, .bipush 6, 2), (33, .invokevirtual 71, 3), (36, .iload_n 1, 1), (37, .if_icmp .ne 7, 3), (40, .iconst 1, 1), (41, .goto 4, 3), (44, .iconst 0, 1), (45, .istore 5, 2), (47, .iload_n 3, 1), (48, .iload 5, 2), (50, .ifCond .ne 7, 3), (53, .iconst 0, 1), (54, .goto 38, 3), (57, .iload_n 2, 1), (58, .ifCond .ne 7, 3), (61, .iconst 1, 1), (62, .goto 30, 3), (65, .iload_n 2, 1), (66, .iconst 1, 1), (67, .if_icmp .ne 14, 3), (70, .aload_n 0, 1), (71, .iload 4, 2), (73, .bipush 7, 2), (75, .invokevirtual 71, 3), (78, .goto 14, 3), (81, .aload_n 0, 1), (82, .iload 4, 2), (84, .bipush 7, 2), (86, .invokevirtual 71, 3), (89, .invokestatic 135, 3), (92, .iadd, 1), (93, .istore_n 3, 1), (94, .iinc 4 1, 3), (97, .goto (-92), 3), (100, .iload_n 3, 1), (101, .ireturn, 1)]
theorem hX8_boughtBy_0 : jD cX8_boughtBy rX8_boughtBy_0 = true := by decide +kernel
def rX8_exposureOf_0 : List jI := [(0, .aload_n 0, 1), (1, .iload_n 1, 1), (2, .iconst 1, 1), (3, .invokevirtual 138, 3), (6, .istore_n 2, 1), (7, .iconst 0, 1), (8, .istore_n 3, 1), (9, .iload_n 3, 1), (10, .aload_n 0, 1), (11, .getfield 13, 3), (14, .bipush 23, 2), (16, .iaload, 1), (17, .if_icmp .ge 31, 3), (20, .iload_n 2, 1), (21, .aload_n 0, 1), (22, .iload_n 3, 1), (23, .iload_n 1, 1), (24, .invokevirtual 141, 3), (27, .ifCond .eq 12, 3), (30, .aload_n 0, 1), (31, .iload_n 3, 1), (32, .iload_n 1, 1), (33, .invokevirtual 101, 3), (36, .goto 4, 3), (39, .iconst 0, 1), (40, .iadd, 1), (41, .istore_n 2, 1), (42, .iinc 3 1, 3), (45, .goto (-36), 3), (48, .iload_n 2, 1), (49, .ireturn, 1)]
theorem hX8_exposureOf_0 : jD cX8_exposureOf rX8_exposureOf_0 = true := by decide +kernel
def rX8_orderRefusal_0 : List jI := [(0, .aload_n 0, 1), (1, .iload_n 1, 1), (2, .iconst 3, 1), (3, .invokevirtual 71, 3), (6, .ifCond .eq 13, 3), (9, .aload_n 0, 1), (10, .iload_n 1, 1), (11, .iconst 3, 1), (12, .invokevirtual 71, 3), (15, .iconst 1, 1), (16, .if_icmp .ne 7, 3), (19, .iconst 1, 1), (20, .goto 4, 3), (23, .iconst 0, 1), (24, .istore 4, 2), (26, .aload_n 0, 1), (27, .invokevirtual 145, 3), (30, .bipush 40, 2), (32, .if_icmp .ne 16, 3), (35, .aload_n 0, 1), (36, .iload_n 1, 1), (37, .iload_n 2, 1), (38, .invokevirtual 51, 3), (41, .ifCond .ne 7, 3), (44, .iconst 1, 1), (45, .goto 4, 3), (48, .iconst 0, 1), (49, .istore 5, 2), (51, .iload 4, 2), (53, .ifCond .ne 8, 3), (56, .bipush 6, 2), (58, .goto 47, 3), (61, .aload_n 0, 1), (62, .iload_n 1, 1), (63, .iload_n 2, 1), (64, .invokevirtual 51, 3), (67, .iload_n 3, 1), (68, .if_icmp .lt 8, 3), (71, .bipush 7, 2), (73, .goto 32, 3), (76, .iload_n 3, 1), (77, .aload_n 0, 1), (78, .getfield 13, 3), (81, .bipush 13, 2), (83, .iload_n 2, 1), (84, .iadd, 1), (85, .iaload, 1), (86, .if_icmp .le 8, 3), (89, .bipush 8, 2), (91, .goto 14, 3), (94, .iload 5, 2), (96, .ifCond .eq 8, 3), (99, .bipush 9, 2), (101, .goto 4, 3), (104, .iconst 0, 1), (105, .ireturn, 1)]
theorem hX8_orderRefusal_0 : jD cX8_orderRefusal rX8_orderRefusal_0 = true := by decide +kernel
def rX8_bidRefusal_0 : List jI := [(0, .aload_n 0, 1), (1, .iload_n 1, 1), (2, .iconst 3, 1), (3, .invokevirtual 71, 3), (6, .iconst 1, 1), (7, .if_icmp .eq 5, 3), (10, .iconst 1, 1), (11, .ireturn, 1), (12, .aload_n 0, 1), (13, .iload_n 1, 1), (14, .iload_n 2, 1), (15, .invokevirtual 141, 3), (18, .ifCond .eq 5, 3), (21, .iconst 2, 1), (22, .ireturn, 1), (23, .iload_n 3, 1), (24, .aload_n 0, 1), (25, .aload_n 0, 1), (26, .getfield 128, 3), (29, .invokevirtual 89, 3), (32, .if_icmp .ge 5, 3), (35, .iconst 3, 1), (36, .ireturn, 1), (37, .aload_n 0, 1), (38, .iload_n 3, 1), (39, .invokevirtual 149, 3), (42, .ifCond .ne 7, 3), (45, .iconst 4, 1), (46, .goto 27, 3), (49, .iload_n 3, 1), (50, .aload_n 0, 1), (51, .iload_n 2, 1), (52, .invokevirtual 152, 3), (55, .iadd, 1), (56, .aload_n 0, 1), (57, .getfield 13, 3), (60, .bipush 13, 2), (62, .iload_n 2, 1), (63, .iadd, 1), (64, .iaload, 1), (65, .if_icmp .le 7, 3), (68, .iconst 5, 1), (69, .goto 4, 3), (72, .iconst 0, 1), (73, .ireturn, 1)]
theorem hX8_bidRefusal_0 : jD cX8_bidRefusal rX8_bidRefusal_0 = true := by decide +kernel
def rX8_order_0 : List jI := [(0, .aload_n 0, 1), (1, .aload_n 0, 1), (2, .iload_n 1, 1), (3, .invokevirtual 67, 3), (6, .ifCond .eq 10, 3), (9, .iload_n 2, 1), (10, .invokestatic 92, 3), (13, .ifCond .ne 7, 3), (16, .iconst 1, 1), (17, .goto 18, 3), (20, .iload_n 3, 1), (21, .iconst 1, 1), (22, .ldc 59, 2), (24, .invokestatic 36, 3), (27, .ifCond .ne 7, 3), (30, .iconst 2, 1), (31, .goto 4, 3), (34, .iconst 0, 1), (35, .putfield 1, 3), (38, .aload_n 0, 1), (39, .getfield 1, 3), (42, .ifCond .eq 5, 3), (45, .iconst 0, 1), (46, .ireturn, 1), (47, .aload_n 0, 1), (48, .iload_n 1, 1), (49, .iload_n 2, 1), (50, .iload_n 3, 1), (51, .invokevirtual 155, 3), (54, .istore 4, 2), (56, .iload 4, 2), (58, .ifCond .eq 15, 3), (61, .aload_n 0, 1), (62, .iload 4, 2), (64, .putfield 158, 3), (67, .aload_n 0, 1), (68, .iconst 3, 1), (69, .invokevirtual 74, 3), (72, .ireturn, 1), (73, .aload_n 0, 1), (74, .invokevirtual 60, 3), (77, .aload_n 0, 1), (78, .iload_n 1, 1), (79, .iload_n 2, 1), (80, .iload_n 3, 1), (81, .aload_n 0, 1), (82, .invokevirtual 161, 3), (85, .invokevirtual 44, 3), (88, .aload_n 0, 1), (89, .iconst 0, 1), (90, .iload_n 1, 1), (91, .iload_n 2, 1), (92, .iload_n 3, 1), (93, .invokevirtual 164, 3), (96, .aload_n 0, 1), (97, .invokevirtual 145, 3), (100, .ireturn, 1)]
theorem hX8_order_0 : jD cX8_order rX8_order_0 = true := by decide +kernel
def rX8_cancel_0 : List jI := [(0, .aload_n 0, 1), (1, .aload_n 0, 1), (2, .iload_n 1, 1), (3, .invokevirtual 67, 3), (6, .ifCond .eq 10, 3), (9, .iload_n 2, 1), (10, .invokestatic 92, 3), (13, .ifCond .ne 7, 3), (16, .iconst 1, 1), (17, .goto 30, 3), (20, .aload_n 0, 1), (21, .iload_n 1, 1), (22, .iload_n 2, 1), (23, .invokevirtual 51, 3), (26, .ifCond .ne 7, 3), (29, .iconst 2, 1), (30, .goto 17, 3), (33, .aload_n 0, 1), (34, .iload_n 1, 1), (35, .iconst 3, 1), (36, .invokevirtual 71, 3), (39, .ifCond .eq 7, 3), (42, .iconst 3, 1), (43, .goto 4, 3), (46, .iconst 0, 1), (47, .putfield 1, 3), (50, .aload_n 0, 1), (51, .getfield 1, 3), (54, .ifCond .eq 5, 3), (57, .iconst 0, 1), (58, .ireturn, 1), (59, .aload_n 0, 1), (60, .invokevirtual 60, 3), (63, .aload_n 0, 1), (64, .iload_n 1, 1), (65, .iload_n 2, 1), (66, .invokevirtual 51, 3), (69, .istore_n 3, 1), (70, .aload_n 0, 1), (71, .iload_n 1, 1), (72, .iload_n 2, 1), (73, .iconst 0, 1), (74, .iconst 0, 1), (75, .invokevirtual 44, 3), (78, .aload_n 0, 1), (79, .bipush 9, 2), (81, .iload_n 1, 1), (82, .iload_n 2, 1), (83, .iload_n 3, 1), (84, .invokevirtual 164, 3), (87, .iload_n 3, 1), (88, .ireturn, 1)]
theorem hX8_cancel_0 : jD cX8_cancel rX8_cancel_0 = true := by decide +kernel
def rX8_maximum_0 : List jI := [(0, .aload_n 0, 1), (1, .aload_n 0, 1), (2, .iload_n 1, 1), (3, .invokevirtual 67, 3), (6, .ifCond .eq 10, 3), (9, .iload_n 2, 1), (10, .invokestatic 92, 3), (13, .ifCond .ne 7, 3), (16, .iconst 1, 1), (17, .goto 17, 3), (20, .aload_n 0, 1), (21, .iload_n 1, 1), (22, .iload_n 2, 1), (23, .invokevirtual 51, 3), (26, .ifCond .ne 7, 3), (29, .iconst 2, 1), (30, .goto 4, 3), (33, .iconst 0, 1), (34, .putfield 1, 3), (37, .aload_n 0, 1), (38, .getfield 1, 3), (41, .ifCond .ne 12, 3), (44, .aload_n 0, 1), (45, .iload_n 1, 1), (46, .iload_n 2, 1), (47, .invokevirtual 51, 3), (50, .goto 4, 3), (53, .iconst 0, 1), (54, .ireturn, 1)]
theorem hX8_maximum_0 : jD cX8_maximum rX8_maximum_0 = true := by decide +kernel
def rX8_orders_0 : List jI := [(0, .aload_n 0, 1), (1, .iconst 0, 1), (2, .putfield 1, 3), (5, .iload_n 1, 1), (6, .iconst (-1), 1), (7, .if_icmp .ne 10, 3), (10, .aload_n 0, 1), (11, .invokevirtual 145, 3), (14, .goto 24, 3), (17, .aload_n 0, 1), (18, .iload_n 1, 1), (19, .invokevirtual 67, 3), (22, .ifCond .eq 11, 3), (25, .aload_n 0, 1), (26, .iload_n 1, 1), (27, .invokevirtual 55, 3), (30, .goto 8, 3), (33, .aload_n 0, 1), (34, .iconst 1, 1), (35, .invokevirtual 74, 3), (38, .ireturn, 1)]
theorem hX8_orders_0 : jD cX8_orders rX8_orders_0 = true := by decide +kernel
def rX8_open_0 : List jI := [(0, .aload_n 0, 1), (1, .aload_n 0, 1), (2, .iload_n 1, 1), (3, .invokevirtual 67, 3), (6, .ifCond .ne 7, 3), (9, .iconst 1, 1), (10, .goto 17, 3), (13, .aload_n 0, 1), (14, .iload_n 1, 1), (15, .iconst 3, 1), (16, .invokevirtual 71, 3), (19, .ifCond .eq 7, 3), (22, .iconst 2, 1), (23, .goto 4, 3), (26, .iconst 0, 1), (27, .putfield 1, 3), (30, .aload_n 0, 1), (31, .getfield 1, 3), (34, .ifCond .eq 5, 3), (37, .iconst 0, 1), (38, .ireturn, 1), (39, .aload_n 0, 1), (40, .invokevirtual 60, 3), (43, .aload_n 0, 1), (44, .iload_n 1, 1), (45, .iconst 3, 1), (46, .iconst 1, 1), (47, .invokevirtual 40, 3), (50, .aload_n 0, 1), (51, .iload_n 1, 1), (52, .iconst 4, 1), (53, .aload_n 0, 1), (54, .iload_n 1, 1), (55, .iconst 4, 1), (56, .invokevirtual 71, 3), (59, .iconst 1, 1), (60, .iadd, 1), (61, .invokevirtual 40, 3), (64, .iconst 0, 1), (65, .istore_n 2, 1), (66, .iload_n 2, 1), (67, .bipush 10, 2), (69, .if_icmp .ge 17, 3), (72, .aload_n 0, 1), (73, .iload_n 1, 1), (74, .iload_n 2, 1), (75, .iconst 0, 1), (76, .iconst 0, 1), (77, .invokevirtual 48, 3), (80, .iinc 2 1, 3), (83, .goto (-17), 3), (86, .aload_n 0, 1), (87, .iconst 1, 1), (88, .iload_n 1, 1), (89, .iconst (-1), 1), (90, .iconst 0, 1), (91, .invokevirtual 164, 3), (94, .aload_n 0, 1), (95, .iload_n 1, 1), (96, .invokevirtual 131, 3)]
theorem hX8_open_0 : jD cX8_open rX8_open_0 = true := by decide +kernel
def rX8_open_1 : List jI := [(99, .aload_n 0, 1), (100, .getfield 128, 3), (103, .ireturn, 1)]
theorem hX8_open_1 : jD cX8_open rX8_open_1 = true := by decide +kernel
def rX8_bid_0 : List jI := [(0, .aload_n 0, 1), (1, .aload_n 0, 1), (2, .iload_n 1, 1), (3, .invokevirtual 67, 3), (6, .ifCond .eq 10, 3), (9, .iload_n 2, 1), (10, .invokestatic 92, 3), (13, .ifCond .ne 7, 3), (16, .iconst 1, 1), (17, .goto 18, 3), (20, .iload_n 3, 1), (21, .iconst 1, 1), (22, .ldc 88, 2), (24, .invokestatic 36, 3), (27, .ifCond .ne 7, 3), (30, .iconst 2, 1), (31, .goto 4, 3), (34, .iconst 0, 1), (35, .putfield 1, 3), (38, .aload_n 0, 1), (39, .getfield 1, 3), (42, .ifCond .eq 5, 3), (45, .iconst 0, 1), (46, .ireturn, 1), (47, .aload_n 0, 1), (48, .iload_n 1, 1), (49, .iload_n 2, 1), (50, .iload_n 3, 1), (51, .invokevirtual 167, 3), (54, .istore 4, 2), (56, .iload 4, 2), (58, .ifCond .eq 15, 3), (61, .aload_n 0, 1), (62, .iload 4, 2), (64, .putfield 158, 3), (67, .aload_n 0, 1), (68, .iconst 3, 1), (69, .invokevirtual 74, 3), (72, .ireturn, 1), (73, .aload_n 0, 1), (74, .invokevirtual 60, 3), (77, .aload_n 0, 1), (78, .iload_n 1, 1), (79, .iload_n 2, 1), (80, .iload_n 3, 1), (81, .aload_n 0, 1), (82, .invokevirtual 161, 3), (85, .invokevirtual 48, 3), (88, .aload_n 0, 1), (89, .iconst 2, 1), (90, .iload_n 1, 1), (91, .iload_n 2, 1), (92, .iload_n 3, 1), (93, .invokevirtual 164, 3), (96, .aload_n 0, 1), (97, .iload_n 1, 1), (98, .invokevirtual 131, 3), (101, .aload_n 0, 1), (102, .getfield 128, 3), (105, .ireturn, 1)]
theorem hX8_bid_0 : jD cX8_bid rX8_bid_0 = true := by decide +kernel
def rX8_refusal_0 : List jI := [(0, .aload_n 0, 1), (1, .iconst 0, 1), (2, .putfield 1, 3), (5, .aload_n 0, 1), (6, .getfield 158, 3), (9, .ifCond .ne 11, 3), (12, .aload_n 0, 1), (13, .iconst 1, 1), (14, .invokevirtual 74, 3), (17, .goto 7, 3), (20, .aload_n 0, 1), (21, .getfield 158, 3), (24, .ireturn, 1)]
theorem hX8_refusal_0 : jD cX8_refusal rX8_refusal_0 = true := by decide +kernel
def rX8_wouldRefuse_0 : List jI := [(0, .aload_n 0, 1), (1, .aload_n 0, 1), (2, .iload_n 2, 1), (3, .invokevirtual 67, 3), (6, .ifCond .eq 10, 3), (9, .iload_n 3, 1), (10, .invokestatic 92, 3), (13, .ifCond .ne 7, 3), (16, .iconst 1, 1), (17, .goto 19, 3), (20, .iload 4, 2), (22, .iconst 1, 1), (23, .ldc 59, 2), (25, .invokestatic 36, 3), (28, .ifCond .ne 7, 3), (31, .iconst 2, 1), (32, .goto 4, 3), (35, .iconst 0, 1), (36, .putfield 1, 3), (39, .aload_n 0, 1), (40, .getfield 1, 3), (43, .ifCond .eq 7, 3), (46, .iconst 0, 1), (47, .goto 26, 3), (50, .iload_n 1, 1), (51, .ifCond .eq 14, 3), (54, .aload_n 0, 1), (55, .iload_n 2, 1), (56, .iload_n 3, 1), (57, .iload 4, 2), (59, .invokevirtual 155, 3), (62, .goto 11, 3), (65, .aload_n 0, 1), (66, .iload_n 2, 1), (67, .iload_n 3, 1), (68, .iload 4, 2), (70, .invokevirtual 167, 3), (73, .ireturn, 1)]
theorem hX8_wouldRefuse_0 : jD cX8_wouldRefuse rX8_wouldRefuse_0 = true := by decide +kernel
def rX8_standing_0 : List jI := [(0, .aload_n 0, 1), (1, .aload_n 0, 1), (2, .iload_n 1, 1), (3, .invokevirtual 67, 3), (6, .ifCond .ne 7, 3), (9, .iconst 1, 1), (10, .goto 32, 3), (13, .iload_n 2, 1), (14, .iconst 0, 1), (15, .bipush 6, 2), (17, .invokestatic 36, 3), (20, .ifCond .ne 7, 3), (23, .iconst 2, 1), (24, .goto 18, 3), (27, .aload_n 0, 1), (28, .iload_n 1, 1), (29, .iconst 3, 1), (30, .invokevirtual 71, 3), (33, .iconst 1, 1), (34, .if_icmp .eq 7, 3), (37, .iconst 3, 1), (38, .goto 4, 3), (41, .iconst 0, 1), (42, .putfield 1, 3), (45, .aload_n 0, 1), (46, .getfield 1, 3), (49, .ifCond .eq 5, 3), (52, .iconst 0, 1), (53, .ireturn, 1), (54, .aload_n 0, 1), (55, .iload_n 1, 1), (56, .invokevirtual 131, 3), (59, .iload_n 2, 1), (60, .tableswitch 83 0 5 #[40, 45, 50, 59, 73, 78], 40), (100, .aload_n 0, 1), (101, .getfield 128, 3), (104, .ireturn, 1), (105, .aload_n 0, 1), (106, .getfield 119, 3), (109, .ireturn, 1), (110, .aload_n 0, 1), (111, .aload_n 0, 1), (112, .getfield 128, 3), (115, .invokevirtual 89, 3), (118, .ireturn, 1), (119, .aload_n 0, 1), (120, .iload_n 1, 1), (121, .invokevirtual 170, 3), (124, .ifCond .eq 7, 3), (127, .iconst 1, 1), (128, .goto 4, 3), (131, .iconst 0, 1), (132, .ireturn, 1), (133, .aload_n 0, 1), (134, .getfield 122, 3), (137, .ireturn, 1), (138, .aload_n 0, 1), (139, .getfield 125, 3), (142, .ireturn, 1), (143, .aload_n 0, 1)]
theorem hX8_standing_0 : jD cX8_standing rX8_standing_0 = true := by decide +kernel
def rX8_standing_1 : List jI := [(144, .iload_n 1, 1), (145, .invokevirtual 173, 3), (148, .ireturn, 1)]
theorem hX8_standing_1 : jD cX8_standing rX8_standing_1 = true := by decide +kernel
def rX8_limit_0 : List jI := [(0, .aload_n 0, 1), (1, .aload_n 0, 1), (2, .iload_n 1, 1), (3, .invokevirtual 67, 3), (6, .ifCond .ne 7, 3), (9, .iconst 1, 1), (10, .goto 31, 3), (13, .iload_n 3, 1), (14, .iconst 0, 1), (15, .iconst 2, 1), (16, .invokestatic 36, 3), (19, .ifCond .ne 7, 3), (22, .iconst 2, 1), (23, .goto 18, 3), (26, .aload_n 0, 1), (27, .iload_n 1, 1), (28, .iconst 3, 1), (29, .invokevirtual 71, 3), (32, .iconst 1, 1), (33, .if_icmp .eq 7, 3), (36, .iconst 3, 1), (37, .goto 4, 3), (40, .iconst 0, 1), (41, .putfield 1, 3), (44, .aload_n 0, 1), (45, .getfield 1, 3), (48, .ifCond .eq 5, 3), (51, .iconst 0, 1), (52, .ireturn, 1), (53, .aload_n 0, 1), (54, .iload_n 1, 1), (55, .iload_n 2, 1), (56, .invokevirtual 116, 3), (59, .istore 4, 2), (61, .iload 4, 2), (63, .iconst (-1), 1), (64, .if_icmp .ne 9, 3), (67, .aload_n 0, 1), (68, .iconst 4, 1), (69, .invokevirtual 74, 3), (72, .ireturn, 1), (73, .iload_n 3, 1), (74, .ifCond .ne 8, 3), (77, .iload 4, 2), (79, .goto 25, 3), (82, .iload_n 3, 1), (83, .iconst 1, 1), (84, .if_icmp .ne 13, 3), (87, .aload_n 0, 1), (88, .iload_n 1, 1), (89, .iload 4, 2), (91, .invokevirtual 101, 3), (94, .goto 10, 3), (97, .aload_n 0, 1), (98, .iload_n 1, 1), (99, .iload 4, 2), (101, .invokevirtual 107, 3), (104, .ireturn, 1)]
theorem hX8_limit_0 : jD cX8_limit rX8_limit_0 = true := by decide +kernel
def rX8_priceIf_0 : List jI := [(0, .aload_n 0, 1), (1, .aload_n 0, 1), (2, .iload_n 1, 1), (3, .invokevirtual 67, 3), (6, .ifCond .eq 10, 3), (9, .iload_n 2, 1), (10, .invokestatic 92, 3), (13, .ifCond .ne 7, 3), (16, .iconst 1, 1), (17, .goto 40, 3), (20, .iload_n 3, 1), (21, .iconst 1, 1), (22, .ldc 88, 2), (24, .invokestatic 36, 3), (27, .ifCond .eq 11, 3), (30, .aload_n 0, 1), (31, .iload_n 3, 1), (32, .invokevirtual 149, 3), (35, .ifCond .ne 7, 3), (38, .iconst 2, 1), (39, .goto 18, 3), (42, .aload_n 0, 1), (43, .iload_n 1, 1), (44, .iconst 3, 1), (45, .invokevirtual 71, 3), (48, .iconst 1, 1), (49, .if_icmp .eq 7, 3), (52, .iconst 3, 1), (53, .goto 4, 3), (56, .iconst 0, 1), (57, .putfield 1, 3), (60, .aload_n 0, 1), (61, .getfield 1, 3), (64, .ifCond .eq 5, 3), (67, .iconst 0, 1), (68, .ireturn, 1), (69, .bipush 10, 2), (71, .iload_n 1, 1), (72, .imul, 1), (73, .iload_n 2, 1), (74, .iadd, 1), (75, .istore 4, 2), (77, .aload_n 0, 1), (78, .getfield 13, 3), (81, .sipush 584, 3), (84, .iload 4, 2), (86, .iadd, 1), (87, .iaload, 1), (88, .istore 5, 2), (90, .aload_n 0, 1), (91, .getfield 13, 3), (94, .sipush 784, 3), (97, .iload 4, 2), (99, .iadd, 1), (100, .iaload, 1), (101, .istore 6, 2), (103, .iload_n 3, 1), (104, .aload_n 0, 1), (105, .iload_n 1, 1), (106, .iload_n 2, 1)]
theorem hX8_priceIf_0 : jD cX8_priceIf rX8_priceIf_0 = true := by decide +kernel
def rX8_priceIf_1 : List jI := [(107, .invokevirtual 101, 3), (110, .if_icmp .le 20, 3), (113, .aload_n 0, 1), (114, .iload_n 1, 1), (115, .iload_n 2, 1), (116, .iload_n 3, 1), (117, .aload_n 0, 1), (118, .getfield 13, 3), (121, .sipush 984, 3), (124, .iaload, 1), (125, .iconst 1, 1), (126, .iadd, 1), (127, .invokevirtual 48, 3), (130, .aload_n 0, 1), (131, .iload_n 1, 1), (132, .invokevirtual 131, 3), (135, .aload_n 0, 1), (136, .getfield 128, 3), (139, .istore 7, 2), (141, .aload_n 0, 1), (142, .iload_n 1, 1), (143, .iload_n 2, 1), (144, .iload 5, 2), (146, .iload 6, 2), (148, .invokevirtual 48, 3), (151, .iload 7, 2), (153, .ireturn, 1)]
theorem hX8_priceIf_1 : jD cX8_priceIf rX8_priceIf_1 = true := by decide +kernel
def rX8_close_0 : List jI := [(0, .aload_n 0, 1), (1, .aload_n 0, 1), (2, .iload_n 1, 1), (3, .invokevirtual 67, 3), (6, .ifCond .ne 7, 3), (9, .iconst 1, 1), (10, .goto 18, 3), (13, .aload_n 0, 1), (14, .iload_n 1, 1), (15, .iconst 3, 1), (16, .invokevirtual 71, 3), (19, .iconst 1, 1), (20, .if_icmp .eq 7, 3), (23, .iconst 2, 1), (24, .goto 4, 3), (27, .iconst 0, 1), (28, .putfield 1, 3), (31, .aload_n 0, 1), (32, .getfield 1, 3), (35, .ifCond .eq 5, 3), (38, .iconst 0, 1), (39, .ireturn, 1), (40, .aload_n 0, 1), (41, .invokevirtual 60, 3), (44, .aload_n 0, 1), (45, .iload_n 1, 1), (46, .invokevirtual 131, 3), (49, .iconst 0, 1), (50, .istore_n 2, 1), (51, .aload_n 0, 1), (52, .iload_n 1, 1), (53, .invokevirtual 170, 3), (56, .ifCond .eq 61, 3), (59, .aload_n 0, 1), (60, .getfield 128, 3), (63, .istore_n 2, 1), (64, .aload_n 0, 1), (65, .iload_n 1, 1), (66, .iconst 3, 1), (67, .iconst 2, 1), (68, .invokevirtual 40, 3), (71, .aload_n 0, 1), (72, .iload_n 1, 1), (73, .iconst 5, 1), (74, .iconst 0, 1), (75, .invokevirtual 40, 3), (78, .aload_n 0, 1), (79, .iload_n 1, 1), (80, .bipush 6, 2), (82, .aload_n 0, 1), (83, .getfield 119, 3), (86, .invokevirtual 40, 3), (89, .aload_n 0, 1), (90, .iload_n 1, 1), (91, .bipush 7, 2), (93, .aload_n 0, 1), (94, .getfield 128, 3), (97, .invokevirtual 40, 3), (100, .aload_n 0, 1), (101, .iconst 3, 1)]
theorem hX8_close_0 : jD cX8_close rX8_close_0 = true := by decide +kernel
def rX8_close_1 : List jI := [(102, .iload_n 1, 1), (103, .aload_n 0, 1), (104, .getfield 119, 3), (107, .aload_n 0, 1), (108, .getfield 128, 3), (111, .invokevirtual 164, 3), (114, .goto 81, 3), (117, .aload_n 0, 1), (118, .iload_n 1, 1), (119, .iconst 2, 1), (120, .invokevirtual 71, 3), (123, .iconst 2, 1), (124, .imul, 1), (125, .bipush 100, 2), (127, .idiv, 1), (128, .istore_n 3, 1), (129, .aload_n 0, 1), (130, .iload_n 1, 1), (131, .iconst 3, 1), (132, .iconst 3, 1), (133, .invokevirtual 40, 3), (136, .aload_n 0, 1), (137, .iload_n 1, 1), (138, .iconst 5, 1), (139, .aload_n 0, 1), (140, .getfield 119, 3), (143, .iconst (-1), 1), (144, .if_icmp .ne 7, 3), (147, .iconst 1, 1), (148, .goto 17, 3), (151, .aload_n 0, 1), (152, .getfield 119, 3), (155, .bipush 10, 2), (157, .if_icmp .ne 7, 3), (160, .iconst 2, 1), (161, .goto 4, 3), (164, .iconst 3, 1), (165, .invokevirtual 40, 3), (168, .aload_n 0, 1), (169, .getfield 13, 3), (172, .sipush 985, 3), (175, .aload_n 0, 1), (176, .iload_n 1, 1), (177, .iconst 0, 1), (178, .invokevirtual 71, 3), (181, .iadd, 1), (182, .dup2, 1), (183, .iaload, 1), (184, .iload_n 3, 1), (185, .iadd, 1), (186, .iastore, 1), (187, .aload_n 0, 1), (188, .iconst 4, 1), (189, .iload_n 1, 1), (190, .iconst (-1), 1), (191, .iload_n 3, 1), (192, .invokevirtual 164, 3), (195, .aload_n 0, 1), (196, .iload_n 1, 1), (197, .invokevirtual 176, 3)]
theorem hX8_close_1 : jD cX8_close rX8_close_1 = true := by decide +kernel
def rX8_close_2 : List jI := [(200, .istore_n 3, 1), (201, .iload_n 2, 1), (202, .ireturn, 1)]
theorem hX8_close_2 : jD cX8_close rX8_close_2 = true := by decide +kernel
def rX8_withdraw_0 : List jI := [(0, .aload_n 0, 1), (1, .aload_n 0, 1), (2, .iload_n 1, 1), (3, .invokevirtual 67, 3), (6, .ifCond .ne 7, 3), (9, .iconst 1, 1), (10, .goto 17, 3), (13, .aload_n 0, 1), (14, .iload_n 1, 1), (15, .iconst 3, 1), (16, .invokevirtual 71, 3), (19, .ifCond .eq 7, 3), (22, .iconst 2, 1), (23, .goto 4, 3), (26, .iconst 0, 1), (27, .putfield 1, 3), (30, .aload_n 0, 1), (31, .getfield 1, 3), (34, .ifCond .eq 5, 3), (37, .iconst 0, 1), (38, .ireturn, 1), (39, .aload_n 0, 1), (40, .invokevirtual 60, 3), (43, .aload_n 0, 1), (44, .iload_n 1, 1), (45, .iconst 3, 1), (46, .iconst 4, 1), (47, .invokevirtual 40, 3), (50, .aload_n 0, 1), (51, .iconst 5, 1), (52, .iload_n 1, 1), (53, .iconst (-1), 1), (54, .iconst 0, 1), (55, .invokevirtual 164, 3), (58, .aload_n 0, 1), (59, .iload_n 1, 1), (60, .invokevirtual 176, 3), (63, .ireturn, 1)]
theorem hX8_withdraw_0 : jD cX8_withdraw rX8_withdraw_0 = true := by decide +kernel
def rX8_offer_0 : List jI := [(0, .aload_n 0, 1), (1, .aload_n 0, 1), (2, .iload_n 1, 1), (3, .invokevirtual 67, 3), (6, .ifCond .ne 7, 3), (9, .iconst 1, 1), (10, .goto 36, 3), (13, .iload_n 2, 1), (14, .ifCond .lt 13, 3), (17, .iload_n 2, 1), (18, .aload_n 0, 1), (19, .iload_n 1, 1), (20, .iconst 2, 1), (21, .invokevirtual 71, 3), (24, .if_icmp .lt 7, 3), (27, .iconst 2, 1), (28, .goto 18, 3), (31, .aload_n 0, 1), (32, .iload_n 1, 1), (33, .iconst 3, 1), (34, .invokevirtual 71, 3), (37, .iconst 3, 1), (38, .if_icmp .eq 7, 3), (41, .iconst 3, 1), (42, .goto 4, 3), (45, .iconst 0, 1), (46, .putfield 1, 3), (49, .aload_n 0, 1), (50, .getfield 1, 3), (53, .ifCond .eq 5, 3), (56, .iconst 0, 1), (57, .ireturn, 1), (58, .aload_n 0, 1), (59, .invokevirtual 60, 3), (62, .aload_n 0, 1), (63, .iload_n 1, 1), (64, .iconst 2, 1), (65, .invokevirtual 71, 3), (68, .istore_n 3, 1), (69, .aload_n 0, 1), (70, .iload_n 1, 1), (71, .iconst 2, 1), (72, .iload_n 2, 1), (73, .invokevirtual 40, 3), (76, .aload_n 0, 1), (77, .iload_n 1, 1), (78, .iconst 3, 1), (79, .iconst 0, 1), (80, .invokevirtual 40, 3), (83, .aload_n 0, 1), (84, .bipush 8, 2), (86, .iload_n 1, 1), (87, .iconst (-1), 1), (88, .iload_n 2, 1), (89, .invokevirtual 164, 3), (92, .iload_n 3, 1), (93, .ireturn, 1)]
theorem hX8_offer_0 : jD cX8_offer rX8_offer_0 = true := by decide +kernel
def rX8_share_0 : List jI := [(0, .iload_n 0, 1), (1, .i2l, 1), (2, .iload_n 1, 1), (3, .i2l, 1), (4, .lmul, 1), (5, .iload_n 2, 1), (6, .i2l, 1), (7, .ldiv, 1), (8, .l2i, 1), (9, .ireturn, 1)]
theorem hX8_share_0 : jD cX8_share rX8_share_0 = true := by decide +kernel
def rX8_quantityOf_0 : List jI := [(0, .iload_n 0, 1), (1, .iload_n 1, 1), (2, .idiv, 1), (3, .iload_n 2, 1), (4, .iload_n 0, 1), (5, .iload_n 1, 1), (6, .irem, 1), (7, .if_icmp .ge 7, 3), (10, .iconst 1, 1), (11, .goto 4, 3), (14, .iconst 0, 1), (15, .iadd, 1), (16, .ireturn, 1)]
theorem hX8_quantityOf_0 : jD cX8_quantityOf rX8_quantityOf_0 = true := by decide +kernel
def rX8_splitOrders_0 : List jI := [(0, .iconst 0, 1), (1, .istore_n 3, 1), (2, .aload_n 0, 1), (3, .iload_n 1, 1), (4, .iconst 1, 1), (5, .invokevirtual 71, 3), (8, .istore 4, 2), (10, .iconst 0, 1), (11, .istore 5, 2), (13, .iload 5, 2), (15, .iload_n 2, 1), (16, .if_icmp .ge 56, 3), (19, .iconst 0, 1), (20, .istore 6, 2), (22, .iload 6, 2), (24, .bipush 10, 2), (26, .if_icmp .ge 40, 3), (29, .iload_n 3, 1), (30, .aload_n 0, 1), (31, .iload_n 1, 1), (32, .iload 6, 2), (34, .invokevirtual 51, 3), (37, .iload 4, 2), (39, .iload_n 2, 1), (40, .iload 5, 2), (42, .invokestatic 179, 3), (45, .iload 4, 2), (47, .invokestatic 182, 3), (50, .ifCond .le 7, 3), (53, .iconst 1, 1), (54, .goto 4, 3), (57, .iconst 0, 1), (58, .iadd, 1), (59, .istore_n 3, 1), (60, .iinc 6 1, 3), (63, .goto (-41), 3), (66, .iinc 5 1, 3), (69, .goto (-56), 3), (72, .iload_n 3, 1), (73, .ireturn, 1)]
theorem hX8_splitOrders_0 : jD cX8_splitOrders rX8_splitOrders_0 = true := by decide +kernel
def rX8_split_0 : List jI := [(0, .aload_n 0, 1), (1, .iconst 0, 1), (2, .putfield 1, 3), (5, .aload_n 0, 1), (6, .iload_n 1, 1), (7, .invokevirtual 67, 3), (10, .ifCond .ne 9, 3), (13, .aload_n 0, 1), (14, .iconst 1, 1), (15, .invokevirtual 74, 3), (18, .ireturn, 1), (19, .aload_n 0, 1), (20, .iload_n 1, 1), (21, .iconst 1, 1), (22, .invokevirtual 71, 3), (25, .istore_n 3, 1), (26, .iload_n 2, 1), (27, .iconst 2, 1), (28, .iconst 4, 1), (29, .invokestatic 36, 3), (32, .ifCond .eq 8, 3), (35, .iload_n 2, 1), (36, .iload_n 3, 1), (37, .if_icmp .le 9, 3), (40, .aload_n 0, 1), (41, .iconst 2, 1), (42, .invokevirtual 74, 3), (45, .ireturn, 1), (46, .aload_n 0, 1), (47, .iload_n 1, 1), (48, .iconst 3, 1), (49, .invokevirtual 71, 3), (52, .ifCond .ne 39, 3), (55, .aload_n 0, 1), (56, .getfield 13, 3), (59, .bipush 23, 2), (61, .iaload, 1), (62, .iload_n 2, 1), (63, .iadd, 1), (64, .bipush 20, 2), (66, .if_icmp .gt 25, 3), (69, .aload_n 0, 1), (70, .invokevirtual 145, 3), (73, .aload_n 0, 1), (74, .iload_n 1, 1), (75, .invokevirtual 55, 3), (78, .isub, 1), (79, .aload_n 0, 1), (80, .iload_n 1, 1), (81, .iload_n 2, 1), (82, .invokevirtual 185, 3), (85, .iadd, 1), (86, .bipush 40, 2), (88, .if_icmp .le 9, 3), (91, .aload_n 0, 1), (92, .iconst 3, 1), (93, .invokevirtual 74, 3), (96, .ireturn, 1), (97, .aload_n 0, 1), (98, .invokevirtual 60, 3)]
theorem hX8_split_0 : jD cX8_split rX8_split_0 = true := by decide +kernel
def rX8_split_1 : List jI := [(101, .aload_n 0, 1), (102, .getfield 13, 3), (105, .bipush 23, 2), (107, .iaload, 1), (108, .istore 4, 2), (110, .iconst 0, 1), (111, .istore 5, 2), (113, .iload 5, 2), (115, .iload_n 2, 1), (116, .if_icmp .ge 94, 3), (119, .iload_n 3, 1), (120, .iload_n 2, 1), (121, .iload 5, 2), (123, .invokestatic 179, 3), (126, .istore 6, 2), (128, .aload_n 0, 1), (129, .aload_n 0, 1), (130, .iload_n 1, 1), (131, .iconst 0, 1), (132, .invokevirtual 71, 3), (135, .iload 6, 2), (137, .aload_n 0, 1), (138, .iload_n 1, 1), (139, .iconst 2, 1), (140, .invokevirtual 71, 3), (143, .iload 6, 2), (145, .iload_n 3, 1), (146, .invokestatic 182, 3), (149, .invokevirtual 63, 3), (152, .istore 7, 2), (154, .iconst 0, 1), (155, .istore 8, 2), (157, .iload 8, 2), (159, .bipush 10, 2), (161, .if_icmp .ge 43, 3), (164, .aload_n 0, 1), (165, .iload_n 1, 1), (166, .iload 8, 2), (168, .invokevirtual 51, 3), (171, .iload 6, 2), (173, .iload_n 3, 1), (174, .invokestatic 182, 3), (177, .istore 9, 2), (179, .iload 9, 2), (181, .ifCond .le 17, 3), (184, .aload_n 0, 1), (185, .iload 7, 2), (187, .iload 8, 2), (189, .iload 9, 2), (191, .aload_n 0, 1), (192, .invokevirtual 161, 3), (195, .invokevirtual 44, 3), (198, .iinc 8 1, 3), (201, .goto (-44), 3), (204, .iinc 5 1, 3), (207, .goto (-94), 3), (210, .aload_n 0, 1), (211, .iload_n 1, 1), (212, .invokevirtual 176, 3), (215, .istore 5, 2)]
theorem hX8_split_1 : jD cX8_split rX8_split_1 = true := by decide +kernel
def rX8_split_2 : List jI := [(217, .aload_n 0, 1), (218, .iload_n 1, 1), (219, .iconst 3, 1), (220, .iconst 5, 1), (221, .invokevirtual 40, 3), (224, .aload_n 0, 1), (225, .bipush 6, 2), (227, .iload_n 1, 1), (228, .iconst (-1), 1), (229, .iload 4, 2), (231, .invokevirtual 164, 3), (234, .iload 4, 2), (236, .ireturn, 1)]
theorem hX8_split_2 : jD cX8_split rX8_split_2 = true := by decide +kernel
def rX8_group_0 : List jI := [(0, .aload_n 0, 1), (1, .iconst 0, 1), (2, .putfield 1, 3), (5, .aload_n 0, 1), (6, .iload_n 1, 1), (7, .invokevirtual 67, 3), (10, .ifCond .eq 11, 3), (13, .aload_n 0, 1), (14, .iload_n 2, 1), (15, .invokevirtual 67, 3), (18, .ifCond .ne 9, 3), (21, .aload_n 0, 1), (22, .iconst 1, 1), (23, .invokevirtual 74, 3), (26, .ireturn, 1), (27, .iload_n 1, 1), (28, .iload_n 2, 1), (29, .if_icmp .eq 54, 3), (32, .aload_n 0, 1), (33, .iload_n 1, 1), (34, .iconst 0, 1), (35, .invokevirtual 71, 3), (38, .aload_n 0, 1), (39, .iload_n 2, 1), (40, .iconst 0, 1), (41, .invokevirtual 71, 3), (44, .if_icmp .ne 39, 3), (47, .aload_n 0, 1), (48, .iload_n 1, 1), (49, .iconst 1, 1), (50, .invokevirtual 71, 3), (53, .aload_n 0, 1), (54, .iload_n 2, 1), (55, .iconst 1, 1), (56, .invokevirtual 71, 3), (59, .iadd, 1), (60, .bipush 20, 2), (62, .if_icmp .gt 21, 3), (65, .aload_n 0, 1), (66, .iload_n 1, 1), (67, .iconst 2, 1), (68, .invokevirtual 71, 3), (71, .aload_n 0, 1), (72, .iload_n 2, 1), (73, .iconst 2, 1), (74, .invokevirtual 71, 3), (77, .iadd, 1), (78, .ldc 59, 2), (80, .if_icmp .le 9, 3), (83, .aload_n 0, 1), (84, .iconst 2, 1), (85, .invokevirtual 74, 3), (88, .ireturn, 1), (89, .aload_n 0, 1), (90, .iload_n 1, 1), (91, .iconst 3, 1), (92, .invokevirtual 71, 3), (95, .ifCond .ne 24, 3), (98, .aload_n 0, 1), (99, .iload_n 2, 1)]
theorem hX8_group_0 : jD cX8_group rX8_group_0 = true := by decide +kernel
def rX8_group_1 : List jI := [(100, .iconst 3, 1), (101, .invokevirtual 71, 3), (104, .ifCond .ne 15, 3), (107, .aload_n 0, 1), (108, .getfield 13, 3), (111, .bipush 23, 2), (113, .iaload, 1), (114, .bipush 20, 2), (116, .if_icmp .ne 9, 3), (119, .aload_n 0, 1), (120, .iconst 3, 1), (121, .invokevirtual 74, 3), (124, .ireturn, 1), (125, .aload_n 0, 1), (126, .invokevirtual 60, 3), (129, .aload_n 0, 1), (130, .aload_n 0, 1), (131, .iload_n 1, 1), (132, .iconst 0, 1), (133, .invokevirtual 71, 3), (136, .aload_n 0, 1), (137, .iload_n 1, 1), (138, .iconst 1, 1), (139, .invokevirtual 71, 3), (142, .aload_n 0, 1), (143, .iload_n 2, 1), (144, .iconst 1, 1), (145, .invokevirtual 71, 3), (148, .iadd, 1), (149, .aload_n 0, 1), (150, .iload_n 1, 1), (151, .iconst 2, 1), (152, .invokevirtual 71, 3), (155, .aload_n 0, 1), (156, .iload_n 2, 1), (157, .iconst 2, 1), (158, .invokevirtual 71, 3), (161, .iadd, 1), (162, .invokevirtual 63, 3), (165, .istore_n 3, 1), (166, .iconst 0, 1), (167, .istore 4, 2), (169, .iload 4, 2), (171, .bipush 10, 2), (173, .if_icmp .ge 60, 3), (176, .aload_n 0, 1), (177, .iload_n 1, 1), (178, .iload 4, 2), (180, .invokevirtual 51, 3), (183, .ifCond .le 44, 3), (186, .aload_n 0, 1), (187, .iload_n 2, 1), (188, .iload 4, 2), (190, .invokevirtual 51, 3), (193, .ifCond .le 34, 3), (196, .aload_n 0, 1), (197, .iload_n 3, 1), (198, .iload 4, 2), (200, .ldc 59, 2), (202, .aload_n 0, 1)]
theorem hX8_group_1 : jD cX8_group rX8_group_1 = true := by decide +kernel
def rX8_group_2 : List jI := [(203, .iload_n 1, 1), (204, .iload 4, 2), (206, .invokevirtual 51, 3), (209, .aload_n 0, 1), (210, .iload_n 2, 1), (211, .iload 4, 2), (213, .invokevirtual 51, 3), (216, .iadd, 1), (217, .invokestatic 104, 3), (220, .aload_n 0, 1), (221, .invokevirtual 161, 3), (224, .invokevirtual 44, 3), (227, .iinc 4 1, 3), (230, .goto (-61), 3), (233, .aload_n 0, 1), (234, .iload_n 1, 1), (235, .invokevirtual 176, 3), (238, .aload_n 0, 1), (239, .iload_n 2, 1), (240, .invokevirtual 176, 3), (243, .iadd, 1), (244, .istore 4, 2), (246, .aload_n 0, 1), (247, .iload_n 1, 1), (248, .iconst 3, 1), (249, .bipush 6, 2), (251, .invokevirtual 40, 3), (254, .aload_n 0, 1), (255, .iload_n 2, 1), (256, .iconst 3, 1), (257, .bipush 6, 2), (259, .invokevirtual 40, 3), (262, .aload_n 0, 1), (263, .bipush 7, 2), (265, .iload_n 1, 1), (266, .iconst (-1), 1), (267, .iload_n 3, 1), (268, .invokevirtual 164, 3), (271, .iload_n 3, 1), (272, .ireturn, 1)]
theorem hX8_group_2 : jD cX8_group rX8_group_2 = true := by decide +kernel
def rX8_why_0 : List jI := [(0, .aload_n 0, 1), (1, .aload_n 0, 1), (2, .iload_n 1, 1), (3, .invokevirtual 67, 3), (6, .ifCond .ne 7, 3), (9, .iconst 1, 1), (10, .goto 18, 3), (13, .aload_n 0, 1), (14, .iload_n 1, 1), (15, .iconst 5, 1), (16, .invokevirtual 71, 3), (19, .iconst (-1), 1), (20, .if_icmp .ne 7, 3), (23, .iconst 2, 1), (24, .goto 4, 3), (27, .iconst 0, 1), (28, .putfield 1, 3), (31, .aload_n 0, 1), (32, .getfield 1, 3), (35, .ifCond .ne 12, 3), (38, .aload_n 0, 1), (39, .iload_n 1, 1), (40, .iconst 5, 1), (41, .invokevirtual 71, 3), (44, .goto 4, 3), (47, .iconst 0, 1), (48, .ireturn, 1)]
theorem hX8_why_0 : jD cX8_why rX8_why_0 = true := by decide +kernel
def rX8_sold_0 : List jI := [(0, .aload_n 0, 1), (1, .aload_n 0, 1), (2, .iload_n 1, 1), (3, .invokevirtual 67, 3), (6, .ifCond .ne 7, 3), (9, .iconst 1, 1), (10, .goto 18, 3), (13, .aload_n 0, 1), (14, .iload_n 1, 1), (15, .iconst 3, 1), (16, .invokevirtual 71, 3), (19, .iconst 2, 1), (20, .if_icmp .eq 7, 3), (23, .iconst 2, 1), (24, .goto 4, 3), (27, .iconst 0, 1), (28, .putfield 1, 3), (31, .aload_n 0, 1), (32, .getfield 1, 3), (35, .ifCond .ne 22, 3), (38, .aload_n 0, 1), (39, .iload_n 1, 1), (40, .iload_n 2, 1), (41, .ifCond .eq 8, 3), (44, .bipush 7, 2), (46, .goto 5, 3), (49, .bipush 6, 2), (51, .invokevirtual 71, 3), (54, .goto 4, 3), (57, .iconst 0, 1), (58, .ireturn, 1)]
theorem hX8_sold_0 : jD cX8_sold rX8_sold_0 = true := by decide +kernel
def rX8_premiumOf_0 : List jI := [(0, .iload_n 0, 1), (1, .sipush 1000, 3), (4, .invokestatic 104, 3), (7, .istore_n 1, 1), (8, .iconst 0, 1), (9, .iload_n 0, 1), (10, .sipush 5000, 3), (13, .invokestatic 104, 3), (16, .sipush 1000, 3), (19, .isub, 1), (20, .invokestatic 96, 3), (23, .istore_n 2, 1), (24, .iconst 0, 1), (25, .iload_n 0, 1), (26, .sipush 5000, 3), (29, .isub, 1), (30, .invokestatic 96, 3), (33, .istore_n 3, 1), (34, .iload_n 1, 1), (35, .bipush 25, 2), (37, .imul, 1), (38, .bipush 100, 2), (40, .idiv, 1), (41, .iload_n 2, 1), (42, .bipush 20, 2), (44, .imul, 1), (45, .bipush 100, 2), (47, .idiv, 1), (48, .iadd, 1), (49, .iload_n 3, 1), (50, .bipush 12, 2), (52, .imul, 1), (53, .bipush 100, 2), (55, .idiv, 1), (56, .iadd, 1), (57, .ireturn, 1)]
theorem hX8_premiumOf_0 : jD cX8_premiumOf rX8_premiumOf_0 = true := by decide +kernel
def rX8_commissionOf_0 : List jI := [(0, .iload_n 0, 1), (1, .iconst 5, 1), (2, .iload_n 0, 1), (3, .bipush 10, 2), (5, .idiv, 1), (6, .invokestatic 96, 3), (9, .invokestatic 104, 3), (12, .ireturn, 1)]
theorem hX8_commissionOf_0 : jD cX8_commissionOf rX8_commissionOf_0 = true := by decide +kernel
def rX8_premium_0 : List jI := [(0, .aload_n 0, 1), (1, .iconst 0, 1), (2, .putfield 1, 3), (5, .iload_n 1, 1), (6, .iconst 0, 1), (7, .ldc 88, 2), (9, .invokestatic 36, 3), (12, .ifCond .eq 10, 3), (15, .iload_n 1, 1), (16, .invokestatic 135, 3), (19, .goto 8, 3), (22, .aload_n 0, 1), (23, .iconst 1, 1), (24, .invokevirtual 74, 3), (27, .ireturn, 1)]
theorem hX8_premium_0 : jD cX8_premium rX8_premium_0 = true := by decide +kernel
def rX8_leads_0 : List jI := [(0, .iconst 0, 1), (1, .istore_n 2, 1), (2, .iconst 0, 1), (3, .istore_n 3, 1), (4, .iload_n 3, 1), (5, .aload_n 0, 1), (6, .getfield 13, 3), (9, .bipush 23, 2), (11, .iaload, 1), (12, .if_icmp .ge 26, 3), (15, .iload_n 2, 1), (16, .aload_n 0, 1), (17, .iload_n 3, 1), (18, .iload_n 1, 1), (19, .invokevirtual 141, 3), (22, .ifCond .eq 7, 3), (25, .iconst 1, 1), (26, .goto 4, 3), (29, .iconst 0, 1), (30, .iadd, 1), (31, .istore_n 2, 1), (32, .iinc 3 1, 3), (35, .goto (-31), 3), (38, .iload_n 2, 1), (39, .ireturn, 1)]
theorem hX8_leads_0 : jD cX8_leads rX8_leads_0 = true := by decide +kernel
def rX8_bidder_0 : List jI := [(0, .aload_n 0, 1), (1, .iload_n 1, 1), (2, .invokestatic 92, 3), (5, .ifCond .ne 7, 3), (8, .iconst 1, 1), (9, .goto 18, 3), (12, .iload_n 2, 1), (13, .iconst 0, 1), (14, .bipush 6, 2), (16, .invokestatic 36, 3), (19, .ifCond .ne 7, 3), (22, .iconst 2, 1), (23, .goto 4, 3), (26, .iconst 0, 1), (27, .putfield 1, 3), (30, .aload_n 0, 1), (31, .getfield 1, 3), (34, .ifCond .eq 5, 3), (37, .iconst 0, 1), (38, .ireturn, 1), (39, .iload_n 2, 1), (40, .tableswitch 91 0 5 #[40, 50, 57, 64, 78, 85], 40), (80, .aload_n 0, 1), (81, .getfield 13, 3), (84, .bipush 13, 2), (86, .iload_n 1, 1), (87, .iadd, 1), (88, .iaload, 1), (89, .ireturn, 1), (90, .aload_n 0, 1), (91, .iload_n 1, 1), (92, .iconst 1, 1), (93, .invokevirtual 138, 3), (96, .ireturn, 1), (97, .aload_n 0, 1), (98, .iload_n 1, 1), (99, .iconst 2, 1), (100, .invokevirtual 138, 3), (103, .ireturn, 1), (104, .aload_n 0, 1), (105, .iload_n 1, 1), (106, .iconst 1, 1), (107, .invokevirtual 138, 3), (110, .aload_n 0, 1), (111, .iload_n 1, 1), (112, .iconst 2, 1), (113, .invokevirtual 138, 3), (116, .iadd, 1), (117, .ireturn, 1), (118, .aload_n 0, 1), (119, .iload_n 1, 1), (120, .iconst 0, 1), (121, .invokevirtual 138, 3), (124, .ireturn, 1), (125, .aload_n 0, 1), (126, .iload_n 1, 1), (127, .invokevirtual 152, 3), (130, .ireturn, 1), (131, .aload_n 0, 1), (132, .iload_n 1, 1)]
theorem hX8_bidder_0 : jD cX8_bidder rX8_bidder_0 = true := by decide +kernel
def rX8_bidder_1 : List jI := [(133, .invokevirtual 188, 3), (136, .ireturn, 1)]
theorem hX8_bidder_1 : jD cX8_bidder rX8_bidder_1 = true := by decide +kernel
def rX8_soldBy_0 : List jI := [(0, .iconst 0, 1), (1, .istore_n 3, 1), (2, .iconst 0, 1), (3, .istore 4, 2), (5, .iload 4, 2), (7, .aload_n 0, 1), (8, .getfield 13, 3), (11, .bipush 23, 2), (13, .iaload, 1), (14, .if_icmp .ge 94, 3), (17, .aload_n 0, 1), (18, .iload 4, 2), (20, .iconst 0, 1), (21, .invokevirtual 71, 3), (24, .iload_n 1, 1), (25, .if_icmp .ne 27, 3), (28, .aload_n 0, 1), (29, .iload 4, 2), (31, .iconst 3, 1), (32, .invokevirtual 71, 3), (35, .iload_n 2, 1), (36, .iconst 5, 1), (37, .if_icmp .ne 7, 3), (40, .iconst 3, 1), (41, .goto 4, 3), (44, .iconst 2, 1), (45, .if_icmp .ne 7, 3), (48, .iconst 1, 1), (49, .goto 4, 3), (52, .iconst 0, 1), (53, .istore 5, 2), (55, .iload_n 3, 1), (56, .iload 5, 2), (58, .ifCond .ne 7, 3), (61, .iconst 0, 1), (62, .goto 38, 3), (65, .iload_n 2, 1), (66, .ifCond .ne 14, 3), (69, .aload_n 0, 1), (70, .iload 4, 2), (72, .bipush 7, 2), (74, .invokevirtual 71, 3), (77, .goto 23, 3), (80, .iload_n 2, 1), (81, .iconst 1, 1), (82, .if_icmp .ne 17, 3), (85, .aload_n 0, 1), (86, .iload 4, 2), (88, .bipush 7, 2), (90, .invokevirtual 71, 3), (93, .invokestatic 191, 3), (96, .goto 4, 3), (99, .iconst 1, 1), (100, .iadd, 1), (101, .istore_n 3, 1), (102, .iinc 4 1, 3), (105, .goto (-100), 3), (108, .iload_n 3, 1), (109, .ireturn, 1)]
theorem hX8_soldBy_0 : jD cX8_soldBy rX8_soldBy_0 = true := by decide +kernel
def rX8_gets_0 : List jI := [(0, .aload_n 0, 1), (1, .iload_n 1, 1), (2, .iconst 0, 1), (3, .invokevirtual 194, 3), (6, .aload_n 0, 1), (7, .iload_n 1, 1), (8, .iconst 1, 1), (9, .invokevirtual 194, 3), (12, .isub, 1), (13, .aload_n 0, 1), (14, .getfield 13, 3), (17, .sipush 985, 3), (20, .iload_n 1, 1), (21, .iadd, 1), (22, .iaload, 1), (23, .isub, 1), (24, .ireturn, 1)]
theorem hX8_gets_0 : jD cX8_gets rX8_gets_0 = true := by decide +kernel
def rX8_seller_0 : List jI := [(0, .aload_n 0, 1), (1, .iload_n 1, 1), (2, .iconst 0, 1), (3, .iconst 5, 1), (4, .invokestatic 36, 3), (7, .ifCond .ne 7, 3), (10, .iconst 1, 1), (11, .goto 17, 3), (14, .iload_n 2, 1), (15, .iconst 0, 1), (16, .iconst 5, 1), (17, .invokestatic 36, 3), (20, .ifCond .ne 7, 3), (23, .iconst 2, 1), (24, .goto 4, 3), (27, .iconst 0, 1), (28, .putfield 1, 3), (31, .aload_n 0, 1), (32, .getfield 1, 3), (35, .ifCond .eq 7, 3), (38, .iconst 0, 1), (39, .goto 40, 3), (42, .iload_n 2, 1), (43, .iconst 2, 1), (44, .if_icmp .ne 16, 3), (47, .aload_n 0, 1), (48, .getfield 13, 3), (51, .sipush 985, 3), (54, .iload_n 1, 1), (55, .iadd, 1), (56, .iaload, 1), (57, .goto 22, 3), (60, .iload_n 2, 1), (61, .iconst 3, 1), (62, .if_icmp .ne 11, 3), (65, .aload_n 0, 1), (66, .iload_n 1, 1), (67, .invokevirtual 197, 3), (70, .goto 9, 3), (73, .aload_n 0, 1), (74, .iload_n 1, 1), (75, .iload_n 2, 1), (76, .invokevirtual 194, 3), (79, .ireturn, 1)]
theorem hX8_seller_0 : jD cX8_seller rX8_seller_0 = true := by decide +kernel
def rX8_house_0 : List jI := [(0, .aload_n 0, 1), (1, .iconst 0, 1), (2, .putfield 1, 3), (5, .iload_n 1, 1), (6, .iconst 0, 1), (7, .iconst 3, 1), (8, .invokestatic 36, 3), (11, .ifCond .ne 9, 3), (14, .aload_n 0, 1), (15, .iconst 1, 1), (16, .invokevirtual 74, 3), (19, .ireturn, 1), (20, .iconst 0, 1), (21, .istore_n 2, 1), (22, .iconst 0, 1), (23, .istore_n 3, 1), (24, .iconst 0, 1), (25, .istore 4, 2), (27, .iload 4, 2), (29, .bipush 10, 2), (31, .if_icmp .ge 29, 3), (34, .iload_n 2, 1), (35, .aload_n 0, 1), (36, .iload 4, 2), (38, .iconst 1, 1), (39, .invokevirtual 138, 3), (42, .iadd, 1), (43, .istore_n 2, 1), (44, .iload_n 3, 1), (45, .aload_n 0, 1), (46, .iload 4, 2), (48, .iconst 2, 1), (49, .invokevirtual 138, 3), (52, .iadd, 1), (53, .istore_n 3, 1), (54, .iinc 4 1, 3), (57, .goto (-30), 3), (60, .iconst 0, 1), (61, .istore 4, 2), (63, .iconst 0, 1), (64, .istore 5, 2), (66, .iconst 0, 1), (67, .istore 6, 2), (69, .iload 6, 2), (71, .bipush 6, 2), (73, .if_icmp .ge 37, 3), (76, .iload 4, 2), (78, .aload_n 0, 1), (79, .iload 6, 2), (81, .iconst 1, 1), (82, .invokevirtual 194, 3), (85, .iadd, 1), (86, .istore 4, 2), (88, .iload 5, 2), (90, .aload_n 0, 1), (91, .getfield 13, 3), (94, .sipush 985, 3), (97, .iload 6, 2), (99, .iadd, 1), (100, .iaload, 1)]
theorem hX8_house_0 : jD cX8_house rX8_house_0 = true := by decide +kernel
def rX8_house_1 : List jI := [(101, .iadd, 1), (102, .istore 5, 2), (104, .iinc 6 1, 3), (107, .goto (-38), 3), (110, .iload_n 1, 1), (111, .ifCond .ne 13, 3), (114, .iload_n 3, 1), (115, .iload 4, 2), (117, .iadd, 1), (118, .iload 5, 2), (120, .iadd, 1), (121, .goto 30, 3), (124, .iload_n 1, 1), (125, .iconst 1, 1), (126, .if_icmp .ne 7, 3), (129, .iload_n 2, 1), (130, .goto 21, 3), (133, .iload_n 1, 1), (134, .iconst 2, 1), (135, .if_icmp .ne 9, 3), (138, .iload_n 2, 1), (139, .iload_n 3, 1), (140, .iadd, 1), (141, .goto 10, 3), (144, .iload_n 2, 1), (145, .iload 4, 2), (147, .isub, 1), (148, .iload 5, 2), (150, .isub, 1), (151, .ireturn, 1)]
theorem hX8_house_1 : jD cX8_house rX8_house_1 = true := by decide +kernel
def rX8_eventsOf_0 : List jI := [(0, .iconst 0, 1), (1, .istore_n 2, 1), (2, .iconst 0, 1), (3, .istore_n 3, 1), (4, .iload_n 3, 1), (5, .aload_n 0, 1), (6, .getfield 13, 3), (9, .sipush 991, 3), (12, .iaload, 1), (13, .if_icmp .ge 38, 3), (16, .iload_n 2, 1), (17, .iload_n 1, 1), (18, .iconst (-1), 1), (19, .if_icmp .eq 19, 3), (22, .aload_n 0, 1), (23, .getfield 13, 3), (26, .sipush 992, 3), (29, .iconst 4, 1), (30, .iload_n 3, 1), (31, .imul, 1), (32, .iadd, 1), (33, .iaload, 1), (34, .iload_n 1, 1), (35, .if_icmp .ne 7, 3), (38, .iconst 1, 1), (39, .goto 4, 3), (42, .iconst 0, 1), (43, .iadd, 1), (44, .istore_n 2, 1), (45, .iinc 3 1, 3), (48, .goto (-44), 3), (51, .iload_n 2, 1), (52, .ireturn, 1)]
theorem hX8_eventsOf_0 : jD cX8_eventsOf rX8_eventsOf_0 = true := by decide +kernel
def rX8_soldShare_0 : List jI := [(0, .aload_n 0, 1), (1, .iconst 0, 1), (2, .putfield 1, 3), (5, .aload_n 0, 1), (6, .iconst 3, 1), (7, .invokevirtual 200, 3), (10, .aload_n 0, 1), (11, .iconst 4, 1), (12, .invokevirtual 200, 3), (15, .iadd, 1), (16, .istore_n 1, 1), (17, .iload_n 1, 1), (18, .ifCond .ne 12, 3), (21, .aload_n 0, 1), (22, .iconst 1, 1), (23, .invokevirtual 74, 3), (26, .i2d, 1), (27, .goto 12, 3), (30, .aload_n 0, 1), (31, .iconst 3, 1), (32, .invokevirtual 200, 3), (35, .i2d, 1), (36, .iload_n 1, 1), (37, .i2d, 1), (38, .ddiv, 1), (39, .dreturn, 1)]
theorem hX8_soldShare_0 : jD cX8_soldShare rX8_soldShare_0 = true := by decide +kernel
def rX8_events_0 : List jI := [(0, .aload_n 0, 1), (1, .iconst 0, 1), (2, .putfield 1, 3), (5, .iload_n 1, 1), (6, .iconst (-1), 1), (7, .bipush 9, 2), (9, .invokestatic 36, 3), (12, .ifCond .eq 11, 3), (15, .aload_n 0, 1), (16, .iload_n 1, 1), (17, .invokevirtual 200, 3), (20, .goto 8, 3), (23, .aload_n 0, 1), (24, .iconst 1, 1), (25, .invokevirtual 74, 3), (28, .ireturn, 1)]
theorem hX8_events_0 : jD cX8_events rX8_events_0 = true := by decide +kernel
def rX8_event_0 : List jI := [(0, .aload_n 0, 1), (1, .iload_n 1, 1), (2, .iconst 0, 1), (3, .aload_n 0, 1), (4, .getfield 13, 3), (7, .sipush 991, 3), (10, .iaload, 1), (11, .iconst 1, 1), (12, .isub, 1), (13, .invokestatic 36, 3), (16, .ifCond .ne 7, 3), (19, .iconst 1, 1), (20, .goto 17, 3), (23, .iload_n 2, 1), (24, .iconst 0, 1), (25, .iconst 3, 1), (26, .invokestatic 36, 3), (29, .ifCond .ne 7, 3), (32, .iconst 2, 1), (33, .goto 4, 3), (36, .iconst 0, 1), (37, .putfield 1, 3), (40, .aload_n 0, 1), (41, .getfield 1, 3), (44, .ifCond .ne 20, 3), (47, .aload_n 0, 1), (48, .getfield 13, 3), (51, .sipush 992, 3), (54, .iconst 4, 1), (55, .iload_n 1, 1), (56, .imul, 1), (57, .iadd, 1), (58, .iload_n 2, 1), (59, .iadd, 1), (60, .iaload, 1), (61, .goto 4, 3), (64, .iconst 0, 1), (65, .ireturn, 1)]
theorem hX8_event_0 : jD cX8_event rX8_event_0 = true := by decide +kernel
def rX8_sumOf_0 : List jI := [(0, .iconst 0, 1), (1, .istore 4, 2), (3, .iconst 0, 1), (4, .istore 5, 2), (6, .iload 5, 2), (8, .aload_n 0, 1), (9, .getfield 13, 3), (12, .sipush 991, 3), (15, .iaload, 1), (16, .if_icmp .ge 101, 3), (19, .sipush 992, 3), (22, .iconst 4, 1), (23, .iload 5, 2), (25, .imul, 1), (26, .iadd, 1), (27, .istore 6, 2), (29, .aload_n 0, 1), (30, .getfield 13, 3), (33, .iload 6, 2), (35, .iaload, 1), (36, .iload_n 1, 1), (37, .if_icmp .ne 48, 3), (40, .iload_n 2, 1), (41, .iconst (-1), 1), (42, .if_icmp .eq 16, 3), (45, .aload_n 0, 1), (46, .getfield 13, 3), (49, .iload 6, 2), (51, .iconst 2, 1), (52, .iadd, 1), (53, .iaload, 1), (54, .iload_n 2, 1), (55, .if_icmp .ne 30, 3), (58, .iload_n 3, 1), (59, .iconst (-1), 1), (60, .if_icmp .eq 21, 3), (63, .aload_n 0, 1), (64, .aload_n 0, 1), (65, .getfield 13, 3), (68, .iload 6, 2), (70, .iconst 1, 1), (71, .iadd, 1), (72, .iaload, 1), (73, .iconst 0, 1), (74, .invokevirtual 71, 3), (77, .iload_n 3, 1), (78, .if_icmp .ne 7, 3), (81, .iconst 1, 1), (82, .goto 4, 3), (85, .iconst 0, 1), (86, .istore 7, 2), (88, .iload 4, 2), (90, .iload 7, 2), (92, .ifCond .eq 15, 3), (95, .aload_n 0, 1), (96, .getfield 13, 3), (99, .iload 6, 2), (101, .iconst 3, 1), (102, .iadd, 1), (103, .iaload, 1)]
theorem hX8_sumOf_0 : jD cX8_sumOf rX8_sumOf_0 = true := by decide +kernel
def rX8_sumOf_1 : List jI := [(104, .goto 4, 3), (107, .iconst 0, 1), (108, .iadd, 1), (109, .istore 4, 2), (111, .iinc 5 1, 3), (114, .goto (-108), 3), (117, .iload 4, 2), (119, .ireturn, 1)]
theorem hX8_sumOf_1 : jD cX8_sumOf rX8_sumOf_1 = true := by decide +kernel
def rX8_audit_0 : List jI := [(0, .aload_n 0, 1), (1, .iconst 0, 1), (2, .putfield 1, 3), (5, .iconst 0, 1), (6, .istore_n 1, 1), (7, .iconst 0, 1), (8, .istore_n 2, 1), (9, .iload_n 2, 1), (10, .bipush 10, 2), (12, .if_icmp .ge 33, 3), (15, .iload_n 1, 1), (16, .aload_n 0, 1), (17, .iconst 3, 1), (18, .iload_n 2, 1), (19, .iconst (-1), 1), (20, .invokevirtual 203, 3), (23, .aload_n 0, 1), (24, .iload_n 2, 1), (25, .iconst 1, 1), (26, .invokevirtual 138, 3), (29, .if_icmp .eq 7, 3), (32, .iconst 1, 1), (33, .goto 4, 3), (36, .iconst 0, 1), (37, .iadd, 1), (38, .istore_n 1, 1), (39, .iinc 2 1, 3), (42, .goto (-33), 3), (45, .iconst 0, 1), (46, .istore_n 2, 1), (47, .iload_n 2, 1), (48, .bipush 6, 2), (50, .if_icmp .ge 37, 3), (53, .iload_n 1, 1), (54, .aload_n 0, 1), (55, .iconst 4, 1), (56, .iconst (-1), 1), (57, .iload_n 2, 1), (58, .invokevirtual 203, 3), (61, .aload_n 0, 1), (62, .getfield 13, 3), (65, .sipush 985, 3), (68, .iload_n 2, 1), (69, .iadd, 1), (70, .iaload, 1), (71, .if_icmp .eq 7, 3), (74, .iconst 1, 1), (75, .goto 4, 3), (78, .iconst 0, 1), (79, .iadd, 1), (80, .istore_n 1, 1), (81, .iinc 2 1, 3), (84, .goto (-37), 3), (87, .iload_n 1, 1), (88, .ireturn, 1)]
theorem hX8_audit_0 : jD cX8_audit rX8_audit_0 = true := by decide +kernel
def rX8_append_0 : List jI := [(0, .aload_n 0, 1), (1, .iconst 0, 1), (2, .putfield 1, 3), (5, .aload_n 0, 1), (6, .getfield 206, 3), (9, .bipush 60, 2), (11, .if_icmp .ne 9, 3), (14, .aload_n 0, 1), (15, .iconst 1, 1), (16, .putfield 1, 3), (19, .return_, 1), (20, .aload_n 0, 1), (21, .getfield 23, 3), (24, .aload_n 0, 1), (25, .getfield 206, 3), (28, .iload_n 1, 1), (29, .castore, 1), (30, .aload_n 0, 1), (31, .dup, 1), (32, .getfield 206, 3), (35, .iconst 1, 1), (36, .iadd, 1), (37, .putfield 206, 3), (40, .return_, 1)]
theorem hX8_append_0 : jD cX8_append rX8_append_0 = true := by decide +kernel
def rX8_sign_0 : List jI := [(0, .aload_n 0, 1), (1, .getfield 209, 3), (4, .aload_n 0, 1), (5, .getfield 212, 3), (8, .if_icmp .ge 15, 3), (11, .aload_n 0, 1), (12, .getfield 23, 3), (15, .aload_n 0, 1), (16, .getfield 209, 3), (19, .caload, 1), (20, .goto 4, 3), (23, .iconst (-1), 1), (24, .ireturn, 1)]
theorem hX8_sign_0 : jD cX8_sign rX8_sign_0 = true := by decide +kernel
def rX8_goes_0 : List jI := [(0, .aload_n 0, 1), (1, .getfield 27, 3), (4, .iconst (-1), 1), (5, .if_icmp .ne 15, 3), (8, .aload_n 0, 1), (9, .invokevirtual 215, 3), (12, .iload_n 1, 1), (13, .if_icmp .ne 7, 3), (16, .iconst 1, 1), (17, .goto 4, 3), (20, .iconst 0, 1), (21, .istore_n 2, 1), (22, .aload_n 0, 1), (23, .dup, 1), (24, .getfield 209, 3), (27, .iload_n 2, 1), (28, .ifCond .eq 7, 3), (31, .iconst 1, 1), (32, .goto 4, 3), (35, .iconst 0, 1), (36, .iadd, 1), (37, .putfield 209, 3), (40, .iload_n 2, 1), (41, .ireturn, 1)]
theorem hX8_goes_0 : jD cX8_goes rX8_goes_0 = true := by decide +kernel
def rX8_faultHere_0 : List jI := [(0, .aload_n 0, 1), (1, .aload_n 0, 1), (2, .getfield 27, 3), (5, .iconst (-1), 1), (6, .if_icmp .ne 10, 3), (9, .aload_n 0, 1), (10, .getfield 209, 3), (13, .goto 7, 3), (16, .aload_n 0, 1), (17, .getfield 27, 3), (20, .putfield 27, 3), (23, .return_, 1)]
theorem hX8_faultHere_0 : jD cX8_faultHere rX8_faultHere_0 = true := by decide +kernel
def rX8_number_0 : List jI := [(0, .iconst 0, 1), (1, .istore_n 1, 1), (2, .iconst 0, 1), (3, .istore_n 2, 1), (4, .aload_n 0, 1), (5, .getfield 27, 3), (8, .iconst (-1), 1), (9, .if_icmp .ne 51, 3), (12, .iload_n 2, 1), (13, .iconst 5, 1), (14, .if_icmp .ge 46, 3), (17, .aload_n 0, 1), (18, .invokevirtual 215, 3), (21, .bipush 48, 2), (23, .bipush 57, 2), (25, .invokestatic 36, 3), (28, .ifCond .eq 32, 3), (31, .bipush 10, 2), (33, .iload_n 1, 1), (34, .imul, 1), (35, .aload_n 0, 1), (36, .invokevirtual 215, 3), (39, .iadd, 1), (40, .bipush 48, 2), (42, .isub, 1), (43, .istore_n 1, 1), (44, .iinc 2 1, 3), (47, .aload_n 0, 1), (48, .dup, 1), (49, .getfield 209, 3), (52, .iconst 1, 1), (53, .iadd, 1), (54, .putfield 209, 3), (57, .goto (-53), 3), (60, .iload_n 2, 1), (61, .ifCond .ne 7, 3), (64, .aload_n 0, 1), (65, .invokevirtual 218, 3), (68, .iload_n 1, 1), (69, .ireturn, 1)]
theorem hX8_number_0 : jD cX8_number rX8_number_0 = true := by decide +kernel
def rX8_numbersOf_0 : List jI := [(0, .iload_n 0, 1), (1, .bipush 111, 2), (3, .if_icmp .eq 15, 3), (6, .iload_n 0, 1), (7, .bipush 104, 2), (9, .if_icmp .eq 9, 3), (12, .iload_n 0, 1), (13, .bipush 119, 2), (15, .if_icmp .ne 7, 3), (18, .iconst 1, 1), (19, .goto 30, 3), (22, .iload_n 0, 1), (23, .bipush 99, 2), (25, .if_icmp .ne 7, 3), (28, .iconst 2, 1), (29, .goto 20, 3), (32, .iload_n 0, 1), (33, .bipush 97, 2), (35, .if_icmp .eq 9, 3), (38, .iload_n 0, 1), (39, .bipush 98, 2), (41, .if_icmp .ne 7, 3), (44, .iconst 3, 1), (45, .goto 4, 3), (48, .iconst 0, 1), (49, .ireturn, 1)]
theorem hX8_numbersOf_0 : jD cX8_numbersOf rX8_numbersOf_0 = true := by decide +kernel
def rX8_command_0 : List jI := [(0, .aload_n 0, 1), (1, .invokevirtual 215, 3), (4, .istore_n 1, 1), (5, .aload_n 0, 1), (6, .getfield 27, 3), (9, .iconst (-1), 1), (10, .if_icmp .ne 10, 3), (13, .iload_n 1, 1), (14, .invokestatic 221, 3), (17, .goto 4, 3), (20, .iconst 0, 1), (21, .istore_n 2, 1), (22, .iload_n 2, 1), (23, .ifCond .ne 8, 3), (26, .aload_n 0, 1), (27, .invokevirtual 218, 3), (30, .return_, 1), (31, .iconst 4, 1), (32, .aload_n 0, 1), (33, .getfield 224, 3), (36, .imul, 1), (37, .istore_n 3, 1), (38, .aload_n 0, 1), (39, .getfield 30, 3), (42, .iload_n 3, 1), (43, .iload_n 1, 1), (44, .iastore, 1), (45, .aload_n 0, 1), (46, .dup, 1), (47, .getfield 209, 3), (50, .iconst 1, 1), (51, .iadd, 1), (52, .putfield 209, 3), (55, .iconst 0, 1), (56, .istore 4, 2), (58, .iload 4, 2), (60, .iload_n 2, 1), (61, .if_icmp .ge 42, 3), (64, .iload 4, 2), (66, .ifCond .le 16, 3), (69, .aload_n 0, 1), (70, .bipush 44, 2), (72, .invokevirtual 227, 3), (75, .ifCond .ne 7, 3), (78, .aload_n 0, 1), (79, .invokevirtual 218, 3), (82, .aload_n 0, 1), (83, .getfield 30, 3), (86, .iload_n 3, 1), (87, .iconst 1, 1), (88, .iadd, 1), (89, .iload 4, 2), (91, .iadd, 1), (92, .aload_n 0, 1), (93, .invokevirtual 231, 3), (96, .iastore, 1), (97, .iinc 4 1, 3), (100, .goto (-42), 3), (103, .aload_n 0, 1), (104, .dup, 1)]
theorem hX8_command_0 : jD cX8_command rX8_command_0 = true := by decide +kernel
def rX8_command_1 : List jI := [(105, .getfield 224, 3), (108, .iconst 1, 1), (109, .iadd, 1), (110, .putfield 224, 3), (113, .return_, 1)]
theorem hX8_command_1 : jD cX8_command rX8_command_1 = true := by decide +kernel
def rX8_carryOut_0 : List jI := [(0, .aload_n 0, 1), (1, .getfield 30, 3), (4, .iload_n 1, 1), (5, .iconst 1, 1), (6, .iadd, 1), (7, .iaload, 1), (8, .istore_n 2, 1), (9, .aload_n 0, 1), (10, .getfield 30, 3), (13, .iload_n 1, 1), (14, .iconst 2, 1), (15, .iadd, 1), (16, .iaload, 1), (17, .istore_n 3, 1), (18, .aload_n 0, 1), (19, .getfield 30, 3), (22, .iload_n 1, 1), (23, .iconst 3, 1), (24, .iadd, 1), (25, .iaload, 1), (26, .istore 4, 2), (28, .iconst 0, 1), (29, .istore 5, 2), (31, .aload_n 0, 1), (32, .getfield 30, 3), (35, .iload_n 1, 1), (36, .iaload, 1), (37, .lookupswitch 107 #[(97, 94), (98, 81), (104, 61), (111, 51), (119, 71)], 51), (88, .aload_n 0, 1), (89, .iload_n 2, 1), (90, .invokevirtual 234, 3), (93, .istore 5, 2), (95, .goto 57, 3), (98, .aload_n 0, 1), (99, .iload_n 2, 1), (100, .invokevirtual 237, 3), (103, .istore 5, 2), (105, .goto 47, 3), (108, .aload_n 0, 1), (109, .iload_n 2, 1), (110, .invokevirtual 240, 3), (113, .istore 5, 2), (115, .goto 37, 3), (118, .aload_n 0, 1), (119, .iload_n 2, 1), (120, .iload_n 3, 1), (121, .iload 4, 2), (123, .invokevirtual 243, 3), (126, .istore 5, 2), (128, .goto 24, 3), (131, .aload_n 0, 1), (132, .iload_n 2, 1), (133, .iload_n 3, 1), (134, .iload 4, 2), (136, .invokevirtual 246, 3), (139, .istore 5, 2), (141, .goto 11, 3), (144, .aload_n 0, 1), (145, .iload_n 2, 1), (146, .iload_n 3, 1)]
theorem hX8_carryOut_0 : jD cX8_carryOut rX8_carryOut_0 = true := by decide +kernel
def rX8_carryOut_1 : List jI := [(147, .invokevirtual 249, 3), (150, .istore 5, 2), (152, .return_, 1)]
theorem hX8_carryOut_1 : jD cX8_carryOut rX8_carryOut_1 = true := by decide +kernel
def rX8_read_0 : List jI := [(0, .aload_n 0, 1), (1, .iconst 0, 1), (2, .putfield 1, 3), (5, .aload_n 0, 1), (6, .aload_n 0, 1), (7, .getfield 206, 3), (10, .putfield 212, 3), (13, .aload_n 0, 1), (14, .iconst 0, 1), (15, .putfield 206, 3), (18, .aload_n 0, 1), (19, .iconst 0, 1), (20, .putfield 209, 3), (23, .aload_n 0, 1), (24, .iconst (-1), 1), (25, .putfield 27, 3), (28, .aload_n 0, 1), (29, .iconst 0, 1), (30, .putfield 224, 3), (33, .aload_n 0, 1), (34, .invokevirtual 252, 3), (37, .aload_n 0, 1), (38, .bipush 59, 2), (40, .invokevirtual 227, 3), (43, .ifCond .eq 10, 3), (46, .aload_n 0, 1), (47, .invokevirtual 252, 3), (50, .goto (-13), 3), (53, .aload_n 0, 1), (54, .getfield 209, 3), (57, .aload_n 0, 1), (58, .getfield 212, 3), (61, .if_icmp .ge 7, 3), (64, .aload_n 0, 1), (65, .invokevirtual 218, 3), (68, .aload_n 0, 1), (69, .getfield 27, 3), (72, .iconst (-1), 1), (73, .if_icmp .eq 9, 3), (76, .aload_n 0, 1), (77, .iconst 1, 1), (78, .invokevirtual 74, 3), (81, .ireturn, 1), (82, .iconst 0, 1), (83, .istore_n 1, 1), (84, .iload_n 1, 1), (85, .aload_n 0, 1), (86, .getfield 224, 3), (89, .if_icmp .ge 35, 3), (92, .aload_n 0, 1), (93, .getfield 1, 3), (96, .ifCond .ne 28, 3), (99, .aload_n 0, 1), (100, .iconst 4, 1), (101, .iload_n 1, 1), (102, .imul, 1), (103, .invokevirtual 255, 3), (106, .iload_n 1, 1), (107, .aload_n 0, 1), (108, .getfield 1, 3)]
theorem hX8_read_0 : jD cX8_read rX8_read_0 = true := by decide +kernel
def rX8_read_1 : List jI := [(111, .ifCond .ne 7, 3), (114, .iconst 1, 1), (115, .goto 4, 3), (118, .iconst 0, 1), (119, .iadd, 1), (120, .istore_n 1, 1), (121, .goto (-37), 3), (124, .aload_n 0, 1), (125, .iconst 0, 1), (126, .putfield 1, 3), (129, .iload_n 1, 1), (130, .ireturn, 1)]
theorem hX8_read_1 : jD cX8_read rX8_read_1 = true := by decide +kernel
def rX8_faultPosition_0 : List jI := [(0, .aload_n 0, 1), (1, .iconst 0, 1), (2, .putfield 1, 3), (5, .aload_n 0, 1), (6, .getfield 27, 3), (9, .ireturn, 1)]
theorem hX8_faultPosition_0 : jD cX8_faultPosition rX8_faultPosition_0 = true := by decide +kernel
def rX8_undo_0 : List jI := [(0, .aload_n 0, 1), (1, .iconst 0, 1), (2, .putfield 1, 3), (5, .aload_n 0, 1), (6, .getfield 33, 3), (9, .ifCond .ne 9, 3), (12, .aload_n 0, 1), (13, .iconst 1, 1), (14, .invokevirtual 74, 3), (17, .ireturn, 1), (18, .aload_n 0, 1), (19, .dup, 1), (20, .getfield 33, 3), (23, .iconst 1, 1), (24, .isub, 1), (25, .putfield 33, 3), (28, .iconst 0, 1), (29, .istore_n 1, 1), (30, .iload_n 1, 1), (31, .sipush 1992, 3), (34, .if_icmp .ge 30, 3), (37, .aload_n 0, 1), (38, .getfield 13, 3), (41, .iload_n 1, 1), (42, .aload_n 0, 1), (43, .getfield 17, 3), (46, .sipush 1992, 3), (49, .aload_n 0, 1), (50, .getfield 33, 3), (53, .imul, 1), (54, .iload_n 1, 1), (55, .iadd, 1), (56, .iaload, 1), (57, .iastore, 1), (58, .iinc 1 1, 3), (61, .goto (-31), 3), (64, .aload_n 0, 1), (65, .getfield 33, 3), (68, .ireturn, 1)]
theorem hX8_undo_0 : jD cX8_undo rX8_undo_0 = true := by decide +kernel
def rX8_save_0 : List jI := [(0, .aload_n 0, 1), (1, .iconst 0, 1), (2, .putfield 1, 3), (5, .aload_n 0, 1), (6, .iconst 1, 1), (7, .putfield 258, 3), (10, .iconst 0, 1), (11, .istore_n 1, 1), (12, .iload_n 1, 1), (13, .sipush 1992, 3), (16, .if_icmp .ge 21, 3), (19, .aload_n 0, 1), (20, .getfield 20, 3), (23, .iload_n 1, 1), (24, .aload_n 0, 1), (25, .getfield 13, 3), (28, .iload_n 1, 1), (29, .iaload, 1), (30, .iastore, 1), (31, .iinc 1 1, 3), (34, .goto (-22), 3), (37, .return_, 1)]
theorem hX8_save_0 : jD cX8_save rX8_save_0 = true := by decide +kernel
def rX8_restore_0 : List jI := [(0, .aload_n 0, 1), (1, .aload_n 0, 1), (2, .getfield 258, 3), (5, .ifCond .eq 7, 3), (8, .iconst 0, 1), (9, .goto 4, 3), (12, .iconst 1, 1), (13, .putfield 1, 3), (16, .aload_n 0, 1), (17, .getfield 1, 3), (20, .ifCond .eq 4, 3), (23, .return_, 1), (24, .aload_n 0, 1), (25, .iconst 0, 1), (26, .putfield 33, 3), (29, .iconst 0, 1), (30, .istore_n 1, 1), (31, .iload_n 1, 1), (32, .sipush 1992, 3), (35, .if_icmp .ge 21, 3), (38, .aload_n 0, 1), (39, .getfield 13, 3), (42, .iload_n 1, 1), (43, .aload_n 0, 1), (44, .getfield 20, 3), (47, .iload_n 1, 1), (48, .iaload, 1), (49, .iastore, 1), (50, .iinc 1 1, 3), (53, .goto (-22), 3), (56, .return_, 1)]
theorem hX8_restore_0 : jD cX8_restore rX8_restore_0 = true := by decide +kernel
def rJx00060_init_a7421_0 : List jI := [(0, .aload_n 0, 1), (1, .aload_n 1, 1), (2, .invokespecial 7, 3), (5, .return_, 1)]
theorem hJx00060_init_a7421_0 : jD cJx00060_init_a7421 rJx00060_init_a7421_0 = true := by decide +kernel
def rJ9_max_7cf53_0 : List jI := [(0, .iload_n 0, 1), (1, .iload_n 1, 1), (2, .if_icmp .lt 7, 3), (5, .iload_n 0, 1), (6, .goto 4, 3), (9, .iload_n 1, 1), (10, .ireturn, 1)]
theorem hJ9_max_7cf53_0 : jD cJ9_max_7cf53 rJ9_max_7cf53_0 = true := by decide +kernel
def rJ9_min_7cf53_0 : List jI := [(0, .iload_n 0, 1), (1, .iload_n 1, 1), (2, .if_icmp .gt 7, 3), (5, .iload_n 0, 1), (6, .goto 4, 3), (9, .iload_n 1, 1), (10, .ireturn, 1)]
theorem hJ9_min_7cf53_0 : jD cJ9_min_7cf53 rJ9_min_7cf53_0 = true := by decide +kernel
def rL_addLot_0 : List jI := [(0, .aload 4, 2), (2, .iconst 0, 1), (3, .aload_n 0, 1), (4, .iload_n 1, 1), (5, .iload_n 2, 1), (6, .iload_n 3, 1), (7, .invokevirtual 7, 3), (10, .i2l, 1), (11, .lastore, 1), (12, .goto 11, 3), (15, .astore 5, 2), (17, .iconst 1, 1), (18, .ireturn, 1), (19, .astore 5, 2), (21, .iconst 2, 1), (22, .ireturn, 1), (23, .iconst 0, 1), (24, .ireturn, 1)]
theorem hL_addLot_0 : jD cL_addLot rL_addLot_0 = true := by decide +kernel
def rL_lot_0 : List jI := [(0, .aload_n 3, 1), (1, .iconst 0, 1), (2, .aload_n 0, 1), (3, .iload_n 1, 1), (4, .iload_n 2, 1), (5, .invokevirtual 17, 3), (8, .i2l, 1), (9, .lastore, 1), (10, .goto 11, 3), (13, .astore 4, 2), (15, .iconst 1, 1), (16, .ireturn, 1), (17, .astore 4, 2), (19, .iconst 2, 1), (20, .ireturn, 1), (21, .iconst 0, 1), (22, .ireturn, 1)]
theorem hL_lot_0 : jD cL_lot rL_lot_0 = true := by decide +kernel
def rL_lots_0 : List jI := [(0, .aload_n 2, 1), (1, .iconst 0, 1), (2, .aload_n 0, 1), (3, .iload_n 1, 1), (4, .invokevirtual 23, 3), (7, .i2l, 1), (8, .lastore, 1), (9, .goto 6, 3), (12, .astore_n 3, 1), (13, .iconst 1, 1), (14, .ireturn, 1), (15, .iconst 0, 1), (16, .ireturn, 1)]
theorem hL_lots_0 : jD cL_lots rL_lots_0 = true := by decide +kernel
def rL_setRows_0 : List jI := [(0, .aload 4, 2), (2, .iconst 0, 1), (3, .aload_n 0, 1), (4, .iload_n 1, 1), (5, .iload_n 2, 1), (6, .iload_n 3, 1), (7, .invokevirtual 27, 3), (10, .i2l, 1), (11, .lastore, 1), (12, .goto 15, 3), (15, .astore 5, 2), (17, .iconst 1, 1), (18, .ireturn, 1), (19, .astore 5, 2), (21, .iconst 2, 1), (22, .ireturn, 1), (23, .astore 5, 2), (25, .iconst 3, 1), (26, .ireturn, 1), (27, .iconst 0, 1), (28, .ireturn, 1)]
theorem hL_setRows_0 : jD cL_setRows rL_setRows_0 = true := by decide +kernel
def rL_row_0 : List jI := [(0, .aload_n 3, 1), (1, .iconst 0, 1), (2, .aload_n 0, 1), (3, .iload_n 1, 1), (4, .iload_n 2, 1), (5, .invokevirtual 30, 3), (8, .i2l, 1), (9, .lastore, 1), (10, .goto 11, 3), (13, .astore 4, 2), (15, .iconst 1, 1), (16, .ireturn, 1), (17, .astore 4, 2), (19, .iconst 2, 1), (20, .ireturn, 1), (21, .iconst 0, 1), (22, .ireturn, 1)]
theorem hL_row_0 : jD cL_row rL_row_0 = true := by decide +kernel
def rL_step_0 : List jI := [(0, .aload_n 2, 1), (1, .iconst 0, 1), (2, .aload_n 0, 1), (3, .iload_n 1, 1), (4, .invokevirtual 33, 3), (7, .i2l, 1), (8, .lastore, 1), (9, .goto 6, 3), (12, .astore_n 3, 1), (13, .iconst 1, 1), (14, .ireturn, 1), (15, .iconst 0, 1), (16, .ireturn, 1)]
theorem hL_step_0 : jD cL_step rL_step_0 = true := by decide +kernel
def rL_nextStep_0 : List jI := [(0, .aload_n 2, 1), (1, .iconst 0, 1), (2, .aload_n 0, 1), (3, .iload_n 1, 1), (4, .invokevirtual 36, 3), (7, .i2l, 1), (8, .lastore, 1), (9, .goto 6, 3), (12, .astore_n 3, 1), (13, .iconst 1, 1), (14, .ireturn, 1), (15, .iconst 0, 1), (16, .ireturn, 1)]
theorem hL_nextStep_0 : jD cL_nextStep rL_nextStep_0 = true := by decide +kernel
def rL_setCredit_0 : List jI := [(0, .aload_n 3, 1), (1, .iconst 0, 1), (2, .aload_n 0, 1), (3, .iload_n 1, 1), (4, .iload_n 2, 1), (5, .invokevirtual 39, 3), (8, .i2l, 1), (9, .lastore, 1), (10, .goto 11, 3), (13, .astore 4, 2), (15, .iconst 1, 1), (16, .ireturn, 1), (17, .astore 4, 2), (19, .iconst 2, 1), (20, .ireturn, 1), (21, .iconst 0, 1), (22, .ireturn, 1)]
theorem hL_setCredit_0 : jD cL_setCredit rL_setCredit_0 = true := by decide +kernel
def rL_order_0 : List jI := [(0, .aload 4, 2), (2, .iconst 0, 1), (3, .aload_n 0, 1), (4, .iload_n 1, 1), (5, .iload_n 2, 1), (6, .iload_n 3, 1), (7, .invokevirtual 42, 3), (10, .i2l, 1), (11, .lastore, 1), (12, .goto 15, 3), (15, .astore 5, 2), (17, .iconst 1, 1), (18, .ireturn, 1), (19, .astore 5, 2), (21, .iconst 2, 1), (22, .ireturn, 1), (23, .astore 5, 2), (25, .iconst 3, 1), (26, .ireturn, 1), (27, .iconst 0, 1), (28, .ireturn, 1)]
theorem hL_order_0 : jD cL_order rL_order_0 = true := by decide +kernel
def rL_cancel_0 : List jI := [(0, .aload_n 3, 1), (1, .iconst 0, 1), (2, .aload_n 0, 1), (3, .iload_n 1, 1), (4, .iload_n 2, 1), (5, .invokevirtual 47, 3), (8, .i2l, 1), (9, .lastore, 1), (10, .goto 15, 3), (13, .astore 4, 2), (15, .iconst 1, 1), (16, .ireturn, 1), (17, .astore 4, 2), (19, .iconst 2, 1), (20, .ireturn, 1), (21, .astore 4, 2), (23, .iconst 3, 1), (24, .ireturn, 1), (25, .iconst 0, 1), (26, .ireturn, 1)]
theorem hL_cancel_0 : jD cL_cancel rL_cancel_0 = true := by decide +kernel
def rL_maximum_0 : List jI := [(0, .aload_n 3, 1), (1, .iconst 0, 1), (2, .aload_n 0, 1), (3, .iload_n 1, 1), (4, .iload_n 2, 1), (5, .invokevirtual 52, 3), (8, .i2l, 1), (9, .lastore, 1), (10, .goto 11, 3), (13, .astore 4, 2), (15, .iconst 1, 1), (16, .ireturn, 1), (17, .astore 4, 2), (19, .iconst 2, 1), (20, .ireturn, 1), (21, .iconst 0, 1), (22, .ireturn, 1)]
theorem hL_maximum_0 : jD cL_maximum rL_maximum_0 = true := by decide +kernel
def rL_orders_0 : List jI := [(0, .aload_n 2, 1), (1, .iconst 0, 1), (2, .aload_n 0, 1), (3, .iload_n 1, 1), (4, .invokevirtual 55, 3), (7, .i2l, 1), (8, .lastore, 1), (9, .goto 6, 3), (12, .astore_n 3, 1), (13, .iconst 1, 1), (14, .ireturn, 1), (15, .iconst 0, 1), (16, .ireturn, 1)]
theorem hL_orders_0 : jD cL_orders rL_orders_0 = true := by decide +kernel
def rL_open_0 : List jI := [(0, .aload_n 2, 1), (1, .iconst 0, 1), (2, .aload_n 0, 1), (3, .iload_n 1, 1), (4, .invokevirtual 58, 3), (7, .i2l, 1), (8, .lastore, 1), (9, .goto 9, 3), (12, .astore_n 3, 1), (13, .iconst 1, 1), (14, .ireturn, 1), (15, .astore_n 3, 1), (16, .iconst 2, 1), (17, .ireturn, 1), (18, .iconst 0, 1), (19, .ireturn, 1)]
theorem hL_open_0 : jD cL_open rL_open_0 = true := by decide +kernel
def rL_bid_0 : List jI := [(0, .aload 4, 2), (2, .iconst 0, 1), (3, .aload_n 0, 1), (4, .iload_n 1, 1), (5, .iload_n 2, 1), (6, .iload_n 3, 1), (7, .invokevirtual 61, 3), (10, .i2l, 1), (11, .lastore, 1), (12, .goto 15, 3), (15, .astore 5, 2), (17, .iconst 1, 1), (18, .ireturn, 1), (19, .astore 5, 2), (21, .iconst 2, 1), (22, .ireturn, 1), (23, .astore 5, 2), (25, .iconst 3, 1), (26, .ireturn, 1), (27, .iconst 0, 1), (28, .ireturn, 1)]
theorem hL_bid_0 : jD cL_bid rL_bid_0 = true := by decide +kernel
def rL_refusal_0 : List jI := [(0, .aload_n 1, 1), (1, .iconst 0, 1), (2, .aload_n 0, 1), (3, .invokevirtual 64, 3), (6, .i2l, 1), (7, .lastore, 1), (8, .goto 6, 3), (11, .astore_n 2, 1), (12, .iconst 1, 1), (13, .ireturn, 1), (14, .iconst 0, 1), (15, .ireturn, 1)]
theorem hL_refusal_0 : jD cL_refusal rL_refusal_0 = true := by decide +kernel
def rL_wouldRefuse_0 : List jI := [(0, .aload 5, 2), (2, .iconst 0, 1), (3, .aload_n 0, 1), (4, .iload_n 1, 1), (5, .iload_n 2, 1), (6, .iload_n 3, 1), (7, .iload 4, 2), (9, .invokevirtual 68, 3), (12, .i2l, 1), (13, .lastore, 1), (14, .goto 11, 3), (17, .astore 6, 2), (19, .iconst 1, 1), (20, .ireturn, 1), (21, .astore 6, 2), (23, .iconst 2, 1), (24, .ireturn, 1), (25, .iconst 0, 1), (26, .ireturn, 1)]
theorem hL_wouldRefuse_0 : jD cL_wouldRefuse rL_wouldRefuse_0 = true := by decide +kernel
def rL_standing_0 : List jI := [(0, .aload_n 3, 1), (1, .iconst 0, 1), (2, .aload_n 0, 1), (3, .iload_n 1, 1), (4, .iload_n 2, 1), (5, .invokevirtual 72, 3), (8, .i2l, 1), (9, .lastore, 1), (10, .goto 15, 3), (13, .astore 4, 2), (15, .iconst 1, 1), (16, .ireturn, 1), (17, .astore 4, 2), (19, .iconst 2, 1), (20, .ireturn, 1), (21, .astore 4, 2), (23, .iconst 3, 1), (24, .ireturn, 1), (25, .iconst 0, 1), (26, .ireturn, 1)]
theorem hL_standing_0 : jD cL_standing rL_standing_0 = true := by decide +kernel
def rL_limit_0 : List jI := [(0, .aload 4, 2), (2, .iconst 0, 1), (3, .aload_n 0, 1), (4, .iload_n 1, 1), (5, .iload_n 2, 1), (6, .iload_n 3, 1), (7, .invokevirtual 75, 3), (10, .i2l, 1), (11, .lastore, 1), (12, .goto 19, 3), (15, .astore 5, 2), (17, .iconst 1, 1), (18, .ireturn, 1), (19, .astore 5, 2), (21, .iconst 2, 1), (22, .ireturn, 1), (23, .astore 5, 2), (25, .iconst 3, 1), (26, .ireturn, 1), (27, .astore 5, 2), (29, .iconst 4, 1), (30, .ireturn, 1), (31, .iconst 0, 1), (32, .ireturn, 1)]
theorem hL_limit_0 : jD cL_limit rL_limit_0 = true := by decide +kernel
def rL_priceIf_0 : List jI := [(0, .aload 4, 2), (2, .iconst 0, 1), (3, .aload_n 0, 1), (4, .iload_n 1, 1), (5, .iload_n 2, 1), (6, .iload_n 3, 1), (7, .invokevirtual 78, 3), (10, .i2l, 1), (11, .lastore, 1), (12, .goto 15, 3), (15, .astore 5, 2), (17, .iconst 1, 1), (18, .ireturn, 1), (19, .astore 5, 2), (21, .iconst 2, 1), (22, .ireturn, 1), (23, .astore 5, 2), (25, .iconst 3, 1), (26, .ireturn, 1), (27, .iconst 0, 1), (28, .ireturn, 1)]
theorem hL_priceIf_0 : jD cL_priceIf rL_priceIf_0 = true := by decide +kernel
def rL_close_0 : List jI := [(0, .aload_n 2, 1), (1, .iconst 0, 1), (2, .aload_n 0, 1), (3, .iload_n 1, 1), (4, .invokevirtual 81, 3), (7, .i2l, 1), (8, .lastore, 1), (9, .goto 9, 3), (12, .astore_n 3, 1), (13, .iconst 1, 1), (14, .ireturn, 1), (15, .astore_n 3, 1), (16, .iconst 2, 1), (17, .ireturn, 1), (18, .iconst 0, 1), (19, .ireturn, 1)]
theorem hL_close_0 : jD cL_close rL_close_0 = true := by decide +kernel
def rL_withdraw_0 : List jI := [(0, .aload_n 2, 1), (1, .iconst 0, 1), (2, .aload_n 0, 1), (3, .iload_n 1, 1), (4, .invokevirtual 84, 3), (7, .i2l, 1), (8, .lastore, 1), (9, .goto 9, 3), (12, .astore_n 3, 1), (13, .iconst 1, 1), (14, .ireturn, 1), (15, .astore_n 3, 1), (16, .iconst 2, 1), (17, .ireturn, 1), (18, .iconst 0, 1), (19, .ireturn, 1)]
theorem hL_withdraw_0 : jD cL_withdraw rL_withdraw_0 = true := by decide +kernel
def rL_offer_0 : List jI := [(0, .aload_n 3, 1), (1, .iconst 0, 1), (2, .aload_n 0, 1), (3, .iload_n 1, 1), (4, .iload_n 2, 1), (5, .invokevirtual 87, 3), (8, .i2l, 1), (9, .lastore, 1), (10, .goto 15, 3), (13, .astore 4, 2), (15, .iconst 1, 1), (16, .ireturn, 1), (17, .astore 4, 2), (19, .iconst 2, 1), (20, .ireturn, 1), (21, .astore 4, 2), (23, .iconst 3, 1), (24, .ireturn, 1), (25, .iconst 0, 1), (26, .ireturn, 1)]
theorem hL_offer_0 : jD cL_offer rL_offer_0 = true := by decide +kernel
def rL_split_0 : List jI := [(0, .aload_n 3, 1), (1, .iconst 0, 1), (2, .aload_n 0, 1), (3, .iload_n 1, 1), (4, .iload_n 2, 1), (5, .invokevirtual 90, 3), (8, .i2l, 1), (9, .lastore, 1), (10, .goto 15, 3), (13, .astore 4, 2), (15, .iconst 1, 1), (16, .ireturn, 1), (17, .astore 4, 2), (19, .iconst 2, 1), (20, .ireturn, 1), (21, .astore 4, 2), (23, .iconst 3, 1), (24, .ireturn, 1), (25, .iconst 0, 1), (26, .ireturn, 1)]
theorem hL_split_0 : jD cL_split rL_split_0 = true := by decide +kernel
def rL_group_0 : List jI := [(0, .aload_n 3, 1), (1, .iconst 0, 1), (2, .aload_n 0, 1), (3, .iload_n 1, 1), (4, .iload_n 2, 1), (5, .invokevirtual 93, 3), (8, .i2l, 1), (9, .lastore, 1), (10, .goto 15, 3), (13, .astore 4, 2), (15, .iconst 1, 1), (16, .ireturn, 1), (17, .astore 4, 2), (19, .iconst 2, 1), (20, .ireturn, 1), (21, .astore 4, 2), (23, .iconst 3, 1), (24, .ireturn, 1), (25, .iconst 0, 1), (26, .ireturn, 1)]
theorem hL_group_0 : jD cL_group rL_group_0 = true := by decide +kernel
def rL_why_0 : List jI := [(0, .aload_n 2, 1), (1, .iconst 0, 1), (2, .aload_n 0, 1), (3, .iload_n 1, 1), (4, .invokevirtual 96, 3), (7, .i2l, 1), (8, .lastore, 1), (9, .goto 9, 3), (12, .astore_n 3, 1), (13, .iconst 1, 1), (14, .ireturn, 1), (15, .astore_n 3, 1), (16, .iconst 2, 1), (17, .ireturn, 1), (18, .iconst 0, 1), (19, .ireturn, 1)]
theorem hL_why_0 : jD cL_why rL_why_0 = true := by decide +kernel
def rL_sold_0 : List jI := [(0, .aload_n 3, 1), (1, .iconst 0, 1), (2, .aload_n 0, 1), (3, .iload_n 1, 1), (4, .iload_n 2, 1), (5, .invokevirtual 99, 3), (8, .i2l, 1), (9, .lastore, 1), (10, .goto 11, 3), (13, .astore 4, 2), (15, .iconst 1, 1), (16, .ireturn, 1), (17, .astore 4, 2), (19, .iconst 2, 1), (20, .ireturn, 1), (21, .iconst 0, 1), (22, .ireturn, 1)]
theorem hL_sold_0 : jD cL_sold rL_sold_0 = true := by decide +kernel
def rL_premium_0 : List jI := [(0, .aload_n 2, 1), (1, .iconst 0, 1), (2, .aload_n 0, 1), (3, .iload_n 1, 1), (4, .invokevirtual 103, 3), (7, .i2l, 1), (8, .lastore, 1), (9, .goto 6, 3), (12, .astore_n 3, 1), (13, .iconst 1, 1), (14, .ireturn, 1), (15, .iconst 0, 1), (16, .ireturn, 1)]
theorem hL_premium_0 : jD cL_premium rL_premium_0 = true := by decide +kernel
def rL_bidder_0 : List jI := [(0, .aload_n 3, 1), (1, .iconst 0, 1), (2, .aload_n 0, 1), (3, .iload_n 1, 1), (4, .iload_n 2, 1), (5, .invokevirtual 106, 3), (8, .i2l, 1), (9, .lastore, 1), (10, .goto 11, 3), (13, .astore 4, 2), (15, .iconst 1, 1), (16, .ireturn, 1), (17, .astore 4, 2), (19, .iconst 2, 1), (20, .ireturn, 1), (21, .iconst 0, 1), (22, .ireturn, 1)]
theorem hL_bidder_0 : jD cL_bidder rL_bidder_0 = true := by decide +kernel
def rL_seller_0 : List jI := [(0, .aload_n 3, 1), (1, .iconst 0, 1), (2, .aload_n 0, 1), (3, .iload_n 1, 1), (4, .iload_n 2, 1), (5, .invokevirtual 109, 3), (8, .i2l, 1), (9, .lastore, 1), (10, .goto 11, 3), (13, .astore 4, 2), (15, .iconst 1, 1), (16, .ireturn, 1), (17, .astore 4, 2), (19, .iconst 2, 1), (20, .ireturn, 1), (21, .iconst 0, 1), (22, .ireturn, 1)]
theorem hL_seller_0 : jD cL_seller rL_seller_0 = true := by decide +kernel
def rL_house_0 : List jI := [(0, .aload_n 2, 1), (1, .iconst 0, 1), (2, .aload_n 0, 1), (3, .iload_n 1, 1), (4, .invokevirtual 112, 3), (7, .i2l, 1), (8, .lastore, 1), (9, .goto 6, 3), (12, .astore_n 3, 1), (13, .iconst 1, 1), (14, .ireturn, 1), (15, .iconst 0, 1), (16, .ireturn, 1)]
theorem hL_house_0 : jD cL_house rL_house_0 = true := by decide +kernel
def rL_soldShare_0 : List jI := [(0, .aload_n 1, 1), (1, .iconst 0, 1), (2, .aload_n 0, 1), (3, .invokevirtual 115, 3), (6, .dastore, 1), (7, .goto 6, 3), (10, .astore_n 2, 1), (11, .iconst 1, 1), (12, .ireturn, 1), (13, .iconst 0, 1), (14, .ireturn, 1)]
theorem hL_soldShare_0 : jD cL_soldShare rL_soldShare_0 = true := by decide +kernel
def rL_events_0 : List jI := [(0, .aload_n 2, 1), (1, .iconst 0, 1), (2, .aload_n 0, 1), (3, .iload_n 1, 1), (4, .invokevirtual 121, 3), (7, .i2l, 1), (8, .lastore, 1), (9, .goto 6, 3), (12, .astore_n 3, 1), (13, .iconst 1, 1), (14, .ireturn, 1), (15, .iconst 0, 1), (16, .ireturn, 1)]
theorem hL_events_0 : jD cL_events rL_events_0 = true := by decide +kernel
def rL_event_0 : List jI := [(0, .aload_n 3, 1), (1, .iconst 0, 1), (2, .aload_n 0, 1), (3, .iload_n 1, 1), (4, .iload_n 2, 1), (5, .invokevirtual 124, 3), (8, .i2l, 1), (9, .lastore, 1), (10, .goto 11, 3), (13, .astore 4, 2), (15, .iconst 1, 1), (16, .ireturn, 1), (17, .astore 4, 2), (19, .iconst 2, 1), (20, .ireturn, 1), (21, .iconst 0, 1), (22, .ireturn, 1)]
theorem hL_event_0 : jD cL_event rL_event_0 = true := by decide +kernel
def rL_append_0 : List jI := [(0, .aload_n 0, 1), (1, .iload_n 1, 1), (2, .invokevirtual 127, 3), (5, .goto 6, 3), (8, .astore_n 2, 1), (9, .iconst 1, 1), (10, .ireturn, 1), (11, .iconst 0, 1), (12, .ireturn, 1)]
theorem hL_append_0 : jD cL_append rL_append_0 = true := by decide +kernel
def rL_read_0 : List jI := [(0, .aload_n 1, 1), (1, .iconst 0, 1), (2, .aload_n 0, 1), (3, .invokevirtual 131, 3), (6, .i2l, 1), (7, .lastore, 1), (8, .goto 6, 3), (11, .astore_n 2, 1), (12, .iconst 1, 1), (13, .ireturn, 1), (14, .iconst 0, 1), (15, .ireturn, 1)]
theorem hL_read_0 : jD cL_read rL_read_0 = true := by decide +kernel
def rL_undo_0 : List jI := [(0, .aload_n 1, 1), (1, .iconst 0, 1), (2, .aload_n 0, 1), (3, .invokevirtual 134, 3), (6, .i2l, 1), (7, .lastore, 1), (8, .goto 6, 3), (11, .astore_n 2, 1), (12, .iconst 1, 1), (13, .ireturn, 1), (14, .iconst 0, 1), (15, .ireturn, 1)]
theorem hL_undo_0 : jD cL_undo rL_undo_0 = true := by decide +kernel
def rL_restore_0 : List jI := [(0, .aload_n 0, 1), (1, .invokevirtual 137, 3), (4, .goto 6, 3), (7, .astore_n 1, 1), (8, .iconst 1, 1), (9, .ireturn, 1), (10, .iconst 0, 1), (11, .ireturn, 1)]
theorem hL_restore_0 : jD cL_restore rL_restore_0 = true := by decide +kernel
def rL_law_0 : List jI := [(0, .new 8, 3), (3, .dup, 1), (4, .invokespecial 140, 3), (7, .astore_n 1, 1), (8, .new 141, 3), (11, .dup, 1), (12, .invokespecial 143, 3), (15, .astore_n 2, 1), (16, .iconst 1, 1), (17, .newarray .long, 2), (19, .astore_n 3, 1), (20, .iconst 1, 1), (21, .newarray .double, 2), (23, .astore 4, 2), (25, .iconst 0, 1), (26, .istore 5, 2), (28, .iload 5, 2), (30, .aload_n 0, 1), (31, .arraylength, 1), (32, .iconst 5, 1), (33, .isub, 1), (34, .if_icmp .gt 2592, 3), (37, .aload_n 0, 1), (38, .iload 5, 2), (40, .iaload, 1), (41, .bipush 63, 2), (43, .iand, 1), (44, .tableswitch 2576 0 39 #[176, 256, 324, 380, 460, 528, 584, 640, 708, 788, 856, 924, 980, 1036, 1116, 1160, 1268, 1336, 1416, 1496, 1552, 1608, 1676, 1744, 1812, 1868, 1952, 2008, 2076, 2144, 2200, 2265, 2321, 2389, 2402, 2440, 2484, 2497, 2541, 2552], 176), (220, .aload_n 1, 1), (221, .aload_n 0, 1), (222, .iload 5, 2), (224, .iconst 1, 1), (225, .iadd, 1), (226, .iaload, 1), (227, .aload_n 0, 1), (228, .iload 5, 2), (230, .iconst 2, 1), (231, .iadd, 1), (232, .iaload, 1), (233, .aload_n 0, 1), (234, .iload 5, 2), (236, .iconst 3, 1), (237, .iadd, 1), (238, .iaload, 1), (239, .aload_n 3, 1), (240, .invokestatic 144, 3), (243, .istore 6, 2), (245, .aload_n 2, 1), (246, .aload_n 0, 1), (247, .iload 5, 2), (249, .iconst 1, 1), (250, .iadd, 1), (251, .iaload, 1), (252, .aload_n 0, 1), (253, .iload 5, 2), (255, .iconst 2, 1), (256, .iadd, 1), (257, .iaload, 1), (258, .aload_n 0, 1), (259, .iload 5, 2)]
theorem hL_law_0 : jD cL_law rL_law_0 = true := by decide +kernel
def rL_law_1 : List jI := [(261, .iconst 3, 1), (262, .iadd, 1), (263, .iaload, 1), (264, .invokevirtual 149, 3), (267, .istore 7, 2), (269, .aload_n 2, 1), (270, .invokevirtual 150, 3), (273, .iload 6, 2), (275, .if_icmp .eq 5, 3), (278, .iconst 0, 1), (279, .ireturn, 1), (280, .iload 6, 2), (282, .ifCond .ne 15, 3), (285, .aload_n 3, 1), (286, .iconst 0, 1), (287, .laload, 1), (288, .iload 7, 2), (290, .i2l, 1), (291, .lcmp, 1), (292, .ifCond .eq 5, 3), (295, .iconst 0, 1), (296, .ireturn, 1), (297, .goto 2323, 3), (300, .aload_n 1, 1), (301, .aload_n 0, 1), (302, .iload 5, 2), (304, .iconst 1, 1), (305, .iadd, 1), (306, .iaload, 1), (307, .aload_n 0, 1), (308, .iload 5, 2), (310, .iconst 2, 1), (311, .iadd, 1), (312, .iaload, 1), (313, .aload_n 3, 1), (314, .invokestatic 153, 3), (317, .istore 6, 2), (319, .aload_n 2, 1), (320, .aload_n 0, 1), (321, .iload 5, 2), (323, .iconst 1, 1), (324, .iadd, 1), (325, .iaload, 1), (326, .aload_n 0, 1), (327, .iload 5, 2), (329, .iconst 2, 1), (330, .iadd, 1), (331, .iaload, 1), (332, .invokevirtual 156, 3), (335, .istore 7, 2), (337, .aload_n 2, 1), (338, .invokevirtual 150, 3), (341, .iload 6, 2), (343, .if_icmp .eq 5, 3), (346, .iconst 0, 1), (347, .ireturn, 1), (348, .iload 6, 2), (350, .ifCond .ne 15, 3), (353, .aload_n 3, 1), (354, .iconst 0, 1)]
theorem hL_law_1 : jD cL_law rL_law_1 = true := by decide +kernel
def rL_law_2 : List jI := [(355, .laload, 1), (356, .iload 7, 2), (358, .i2l, 1), (359, .lcmp, 1), (360, .ifCond .eq 5, 3), (363, .iconst 0, 1), (364, .ireturn, 1), (365, .goto 2255, 3), (368, .aload_n 1, 1), (369, .aload_n 0, 1), (370, .iload 5, 2), (372, .iconst 1, 1), (373, .iadd, 1), (374, .iaload, 1), (375, .aload_n 3, 1), (376, .invokestatic 157, 3), (379, .istore 6, 2), (381, .aload_n 2, 1), (382, .aload_n 0, 1), (383, .iload 5, 2), (385, .iconst 1, 1), (386, .iadd, 1), (387, .iaload, 1), (388, .invokevirtual 160, 3), (391, .istore 7, 2), (393, .aload_n 2, 1), (394, .invokevirtual 150, 3), (397, .iload 6, 2), (399, .if_icmp .eq 5, 3), (402, .iconst 0, 1), (403, .ireturn, 1), (404, .iload 6, 2), (406, .ifCond .ne 15, 3), (409, .aload_n 3, 1), (410, .iconst 0, 1), (411, .laload, 1), (412, .iload 7, 2), (414, .i2l, 1), (415, .lcmp, 1), (416, .ifCond .eq 5, 3), (419, .iconst 0, 1), (420, .ireturn, 1), (421, .goto 2199, 3), (424, .aload_n 1, 1), (425, .aload_n 0, 1), (426, .iload 5, 2), (428, .iconst 1, 1), (429, .iadd, 1), (430, .iaload, 1), (431, .aload_n 0, 1), (432, .iload 5, 2), (434, .iconst 2, 1), (435, .iadd, 1), (436, .iaload, 1), (437, .aload_n 0, 1), (438, .iload 5, 2), (440, .iconst 3, 1), (441, .iadd, 1), (442, .iaload, 1), (443, .aload_n 3, 1)]
theorem hL_law_2 : jD cL_law rL_law_2 = true := by decide +kernel
def rL_law_3 : List jI := [(444, .invokestatic 161, 3), (447, .istore 6, 2), (449, .aload_n 2, 1), (450, .aload_n 0, 1), (451, .iload 5, 2), (453, .iconst 1, 1), (454, .iadd, 1), (455, .iaload, 1), (456, .aload_n 0, 1), (457, .iload 5, 2), (459, .iconst 2, 1), (460, .iadd, 1), (461, .iaload, 1), (462, .aload_n 0, 1), (463, .iload 5, 2), (465, .iconst 3, 1), (466, .iadd, 1), (467, .iaload, 1), (468, .invokevirtual 163, 3), (471, .istore 7, 2), (473, .aload_n 2, 1), (474, .invokevirtual 150, 3), (477, .iload 6, 2), (479, .if_icmp .eq 5, 3), (482, .iconst 0, 1), (483, .ireturn, 1), (484, .iload 6, 2), (486, .ifCond .ne 15, 3), (489, .aload_n 3, 1), (490, .iconst 0, 1), (491, .laload, 1), (492, .iload 7, 2), (494, .i2l, 1), (495, .lcmp, 1), (496, .ifCond .eq 5, 3), (499, .iconst 0, 1), (500, .ireturn, 1), (501, .goto 2119, 3), (504, .aload_n 1, 1), (505, .aload_n 0, 1), (506, .iload 5, 2), (508, .iconst 1, 1), (509, .iadd, 1), (510, .iaload, 1), (511, .aload_n 0, 1), (512, .iload 5, 2), (514, .iconst 2, 1), (515, .iadd, 1), (516, .iaload, 1), (517, .aload_n 3, 1), (518, .invokestatic 164, 3), (521, .istore 6, 2), (523, .aload_n 2, 1), (524, .aload_n 0, 1), (525, .iload 5, 2), (527, .iconst 1, 1), (528, .iadd, 1), (529, .iaload, 1), (530, .aload_n 0, 1), (531, .iload 5, 2)]
theorem hL_law_3 : jD cL_law rL_law_3 = true := by decide +kernel
def rL_law_4 : List jI := [(533, .iconst 2, 1), (534, .iadd, 1), (535, .iaload, 1), (536, .invokevirtual 166, 3), (539, .istore 7, 2), (541, .aload_n 2, 1), (542, .invokevirtual 150, 3), (545, .iload 6, 2), (547, .if_icmp .eq 5, 3), (550, .iconst 0, 1), (551, .ireturn, 1), (552, .iload 6, 2), (554, .ifCond .ne 15, 3), (557, .aload_n 3, 1), (558, .iconst 0, 1), (559, .laload, 1), (560, .iload 7, 2), (562, .i2l, 1), (563, .lcmp, 1), (564, .ifCond .eq 5, 3), (567, .iconst 0, 1), (568, .ireturn, 1), (569, .goto 2051, 3), (572, .aload_n 1, 1), (573, .aload_n 0, 1), (574, .iload 5, 2), (576, .iconst 1, 1), (577, .iadd, 1), (578, .iaload, 1), (579, .aload_n 3, 1), (580, .invokestatic 167, 3), (583, .istore 6, 2), (585, .aload_n 2, 1), (586, .aload_n 0, 1), (587, .iload 5, 2), (589, .iconst 1, 1), (590, .iadd, 1), (591, .iaload, 1), (592, .invokevirtual 169, 3), (595, .istore 7, 2), (597, .aload_n 2, 1), (598, .invokevirtual 150, 3), (601, .iload 6, 2), (603, .if_icmp .eq 5, 3), (606, .iconst 0, 1), (607, .ireturn, 1), (608, .iload 6, 2), (610, .ifCond .ne 15, 3), (613, .aload_n 3, 1), (614, .iconst 0, 1), (615, .laload, 1), (616, .iload 7, 2), (618, .i2l, 1), (619, .lcmp, 1), (620, .ifCond .eq 5, 3), (623, .iconst 0, 1), (624, .ireturn, 1), (625, .goto 1995, 3), (628, .aload_n 1, 1), (629, .aload_n 0, 1)]
theorem hL_law_4 : jD cL_law rL_law_4 = true := by decide +kernel
def rL_law_5 : List jI := [(630, .iload 5, 2), (632, .iconst 1, 1), (633, .iadd, 1), (634, .iaload, 1), (635, .aload_n 3, 1), (636, .invokestatic 170, 3), (639, .istore 6, 2), (641, .aload_n 2, 1), (642, .aload_n 0, 1), (643, .iload 5, 2), (645, .iconst 1, 1), (646, .iadd, 1), (647, .iaload, 1), (648, .invokevirtual 172, 3), (651, .istore 7, 2), (653, .aload_n 2, 1), (654, .invokevirtual 150, 3), (657, .iload 6, 2), (659, .if_icmp .eq 5, 3), (662, .iconst 0, 1), (663, .ireturn, 1), (664, .iload 6, 2), (666, .ifCond .ne 15, 3), (669, .aload_n 3, 1), (670, .iconst 0, 1), (671, .laload, 1), (672, .iload 7, 2), (674, .i2l, 1), (675, .lcmp, 1), (676, .ifCond .eq 5, 3), (679, .iconst 0, 1), (680, .ireturn, 1), (681, .goto 1939, 3), (684, .aload_n 1, 1), (685, .aload_n 0, 1), (686, .iload 5, 2), (688, .iconst 1, 1), (689, .iadd, 1), (690, .iaload, 1), (691, .aload_n 0, 1), (692, .iload 5, 2), (694, .iconst 2, 1), (695, .iadd, 1), (696, .iaload, 1), (697, .aload_n 3, 1), (698, .invokestatic 173, 3), (701, .istore 6, 2), (703, .aload_n 2, 1), (704, .aload_n 0, 1), (705, .iload 5, 2), (707, .iconst 1, 1), (708, .iadd, 1), (709, .iaload, 1), (710, .aload_n 0, 1), (711, .iload 5, 2), (713, .iconst 2, 1), (714, .iadd, 1), (715, .iaload, 1), (716, .invokevirtual 175, 3), (719, .istore 7, 2)]
theorem hL_law_5 : jD cL_law rL_law_5 = true := by decide +kernel
def rL_law_6 : List jI := [(721, .aload_n 2, 1), (722, .invokevirtual 150, 3), (725, .iload 6, 2), (727, .if_icmp .eq 5, 3), (730, .iconst 0, 1), (731, .ireturn, 1), (732, .iload 6, 2), (734, .ifCond .ne 15, 3), (737, .aload_n 3, 1), (738, .iconst 0, 1), (739, .laload, 1), (740, .iload 7, 2), (742, .i2l, 1), (743, .lcmp, 1), (744, .ifCond .eq 5, 3), (747, .iconst 0, 1), (748, .ireturn, 1), (749, .goto 1871, 3), (752, .aload_n 1, 1), (753, .aload_n 0, 1), (754, .iload 5, 2), (756, .iconst 1, 1), (757, .iadd, 1), (758, .iaload, 1), (759, .aload_n 0, 1), (760, .iload 5, 2), (762, .iconst 2, 1), (763, .iadd, 1), (764, .iaload, 1), (765, .aload_n 0, 1), (766, .iload 5, 2), (768, .iconst 3, 1), (769, .iadd, 1), (770, .iaload, 1), (771, .aload_n 3, 1), (772, .invokestatic 176, 3), (775, .istore 6, 2), (777, .aload_n 2, 1), (778, .aload_n 0, 1), (779, .iload 5, 2), (781, .iconst 1, 1), (782, .iadd, 1), (783, .iaload, 1), (784, .aload_n 0, 1), (785, .iload 5, 2), (787, .iconst 2, 1), (788, .iadd, 1), (789, .iaload, 1), (790, .aload_n 0, 1), (791, .iload 5, 2), (793, .iconst 3, 1), (794, .iadd, 1), (795, .iaload, 1), (796, .invokevirtual 178, 3), (799, .istore 7, 2), (801, .aload_n 2, 1), (802, .invokevirtual 150, 3), (805, .iload 6, 2), (807, .if_icmp .eq 5, 3), (810, .iconst 0, 1)]
theorem hL_law_6 : jD cL_law rL_law_6 = true := by decide +kernel
def rL_law_7 : List jI := [(811, .ireturn, 1), (812, .iload 6, 2), (814, .ifCond .ne 15, 3), (817, .aload_n 3, 1), (818, .iconst 0, 1), (819, .laload, 1), (820, .iload 7, 2), (822, .i2l, 1), (823, .lcmp, 1), (824, .ifCond .eq 5, 3), (827, .iconst 0, 1), (828, .ireturn, 1), (829, .goto 1791, 3), (832, .aload_n 1, 1), (833, .aload_n 0, 1), (834, .iload 5, 2), (836, .iconst 1, 1), (837, .iadd, 1), (838, .iaload, 1), (839, .aload_n 0, 1), (840, .iload 5, 2), (842, .iconst 2, 1), (843, .iadd, 1), (844, .iaload, 1), (845, .aload_n 3, 1), (846, .invokestatic 179, 3), (849, .istore 6, 2), (851, .aload_n 2, 1), (852, .aload_n 0, 1), (853, .iload 5, 2), (855, .iconst 1, 1), (856, .iadd, 1), (857, .iaload, 1), (858, .aload_n 0, 1), (859, .iload 5, 2), (861, .iconst 2, 1), (862, .iadd, 1), (863, .iaload, 1), (864, .invokevirtual 181, 3), (867, .istore 7, 2), (869, .aload_n 2, 1), (870, .invokevirtual 150, 3), (873, .iload 6, 2), (875, .if_icmp .eq 5, 3), (878, .iconst 0, 1), (879, .ireturn, 1), (880, .iload 6, 2), (882, .ifCond .ne 15, 3), (885, .aload_n 3, 1), (886, .iconst 0, 1), (887, .laload, 1), (888, .iload 7, 2), (890, .i2l, 1), (891, .lcmp, 1), (892, .ifCond .eq 5, 3), (895, .iconst 0, 1), (896, .ireturn, 1), (897, .goto 1723, 3), (900, .aload_n 1, 1), (901, .aload_n 0, 1)]
theorem hL_law_7 : jD cL_law rL_law_7 = true := by decide +kernel
def rL_law_8 : List jI := [(902, .iload 5, 2), (904, .iconst 1, 1), (905, .iadd, 1), (906, .iaload, 1), (907, .aload_n 0, 1), (908, .iload 5, 2), (910, .iconst 2, 1), (911, .iadd, 1), (912, .iaload, 1), (913, .aload_n 3, 1), (914, .invokestatic 182, 3), (917, .istore 6, 2), (919, .aload_n 2, 1), (920, .aload_n 0, 1), (921, .iload 5, 2), (923, .iconst 1, 1), (924, .iadd, 1), (925, .iaload, 1), (926, .aload_n 0, 1), (927, .iload 5, 2), (929, .iconst 2, 1), (930, .iadd, 1), (931, .iaload, 1), (932, .invokevirtual 184, 3), (935, .istore 7, 2), (937, .aload_n 2, 1), (938, .invokevirtual 150, 3), (941, .iload 6, 2), (943, .if_icmp .eq 5, 3), (946, .iconst 0, 1), (947, .ireturn, 1), (948, .iload 6, 2), (950, .ifCond .ne 15, 3), (953, .aload_n 3, 1), (954, .iconst 0, 1), (955, .laload, 1), (956, .iload 7, 2), (958, .i2l, 1), (959, .lcmp, 1), (960, .ifCond .eq 5, 3), (963, .iconst 0, 1), (964, .ireturn, 1), (965, .goto 1655, 3), (968, .aload_n 1, 1), (969, .aload_n 0, 1), (970, .iload 5, 2), (972, .iconst 1, 1), (973, .iadd, 1), (974, .iaload, 1), (975, .aload_n 3, 1), (976, .invokestatic 185, 3), (979, .istore 6, 2), (981, .aload_n 2, 1), (982, .aload_n 0, 1), (983, .iload 5, 2), (985, .iconst 1, 1), (986, .iadd, 1), (987, .iaload, 1), (988, .invokevirtual 187, 3), (991, .istore 7, 2)]
theorem hL_law_8 : jD cL_law rL_law_8 = true := by decide +kernel
def rL_law_9 : List jI := [(993, .aload_n 2, 1), (994, .invokevirtual 150, 3), (997, .iload 6, 2), (999, .if_icmp .eq 5, 3), (1002, .iconst 0, 1), (1003, .ireturn, 1), (1004, .iload 6, 2), (1006, .ifCond .ne 15, 3), (1009, .aload_n 3, 1), (1010, .iconst 0, 1), (1011, .laload, 1), (1012, .iload 7, 2), (1014, .i2l, 1), (1015, .lcmp, 1), (1016, .ifCond .eq 5, 3), (1019, .iconst 0, 1), (1020, .ireturn, 1), (1021, .goto 1599, 3), (1024, .aload_n 1, 1), (1025, .aload_n 0, 1), (1026, .iload 5, 2), (1028, .iconst 1, 1), (1029, .iadd, 1), (1030, .iaload, 1), (1031, .aload_n 3, 1), (1032, .invokestatic 188, 3), (1035, .istore 6, 2), (1037, .aload_n 2, 1), (1038, .aload_n 0, 1), (1039, .iload 5, 2), (1041, .iconst 1, 1), (1042, .iadd, 1), (1043, .iaload, 1), (1044, .invokevirtual 190, 3), (1047, .istore 7, 2), (1049, .aload_n 2, 1), (1050, .invokevirtual 150, 3), (1053, .iload 6, 2), (1055, .if_icmp .eq 5, 3), (1058, .iconst 0, 1), (1059, .ireturn, 1), (1060, .iload 6, 2), (1062, .ifCond .ne 15, 3), (1065, .aload_n 3, 1), (1066, .iconst 0, 1), (1067, .laload, 1), (1068, .iload 7, 2), (1070, .i2l, 1), (1071, .lcmp, 1), (1072, .ifCond .eq 5, 3), (1075, .iconst 0, 1), (1076, .ireturn, 1), (1077, .goto 1543, 3), (1080, .aload_n 1, 1), (1081, .aload_n 0, 1), (1082, .iload 5, 2), (1084, .iconst 1, 1), (1085, .iadd, 1), (1086, .iaload, 1), (1087, .aload_n 0, 1)]
theorem hL_law_9 : jD cL_law rL_law_9 = true := by decide +kernel
def rL_law_10 : List jI := [(1088, .iload 5, 2), (1090, .iconst 2, 1), (1091, .iadd, 1), (1092, .iaload, 1), (1093, .aload_n 0, 1), (1094, .iload 5, 2), (1096, .iconst 3, 1), (1097, .iadd, 1), (1098, .iaload, 1), (1099, .aload_n 3, 1), (1100, .invokestatic 191, 3), (1103, .istore 6, 2), (1105, .aload_n 2, 1), (1106, .aload_n 0, 1), (1107, .iload 5, 2), (1109, .iconst 1, 1), (1110, .iadd, 1), (1111, .iaload, 1), (1112, .aload_n 0, 1), (1113, .iload 5, 2), (1115, .iconst 2, 1), (1116, .iadd, 1), (1117, .iaload, 1), (1118, .aload_n 0, 1), (1119, .iload 5, 2), (1121, .iconst 3, 1), (1122, .iadd, 1), (1123, .iaload, 1), (1124, .invokevirtual 193, 3), (1127, .istore 7, 2), (1129, .aload_n 2, 1), (1130, .invokevirtual 150, 3), (1133, .iload 6, 2), (1135, .if_icmp .eq 5, 3), (1138, .iconst 0, 1), (1139, .ireturn, 1), (1140, .iload 6, 2), (1142, .ifCond .ne 15, 3), (1145, .aload_n 3, 1), (1146, .iconst 0, 1), (1147, .laload, 1), (1148, .iload 7, 2), (1150, .i2l, 1), (1151, .lcmp, 1), (1152, .ifCond .eq 5, 3), (1155, .iconst 0, 1), (1156, .ireturn, 1), (1157, .goto 1463, 3), (1160, .aload_n 1, 1), (1161, .aload_n 3, 1), (1162, .invokestatic 194, 3), (1165, .istore 6, 2), (1167, .aload_n 2, 1), (1168, .invokevirtual 197, 3), (1171, .istore 7, 2), (1173, .aload_n 2, 1), (1174, .invokevirtual 150, 3), (1177, .iload 6, 2), (1179, .if_icmp .eq 5, 3), (1182, .iconst 0, 1)]
theorem hL_law_10 : jD cL_law rL_law_10 = true := by decide +kernel
def rL_law_11 : List jI := [(1183, .ireturn, 1), (1184, .iload 6, 2), (1186, .ifCond .ne 15, 3), (1189, .aload_n 3, 1), (1190, .iconst 0, 1), (1191, .laload, 1), (1192, .iload 7, 2), (1194, .i2l, 1), (1195, .lcmp, 1), (1196, .ifCond .eq 5, 3), (1199, .iconst 0, 1), (1200, .ireturn, 1), (1201, .goto 1419, 3), (1204, .aload_n 1, 1), (1205, .aload_n 0, 1), (1206, .iload 5, 2), (1208, .iconst 1, 1), (1209, .iadd, 1), (1210, .iaload, 1), (1211, .ifCond .eq 7, 3), (1214, .iconst 1, 1), (1215, .goto 4, 3), (1218, .iconst 0, 1), (1219, .aload_n 0, 1), (1220, .iload 5, 2), (1222, .iconst 2, 1), (1223, .iadd, 1), (1224, .iaload, 1), (1225, .aload_n 0, 1), (1226, .iload 5, 2), (1228, .iconst 3, 1), (1229, .iadd, 1), (1230, .iaload, 1), (1231, .aload_n 0, 1), (1232, .iload 5, 2), (1234, .iconst 4, 1), (1235, .iadd, 1), (1236, .iaload, 1), (1237, .aload_n 3, 1), (1238, .invokestatic 198, 3), (1241, .istore 6, 2), (1243, .aload_n 2, 1), (1244, .aload_n 0, 1), (1245, .iload 5, 2), (1247, .iconst 1, 1), (1248, .iadd, 1), (1249, .iaload, 1), (1250, .ifCond .eq 7, 3), (1253, .iconst 1, 1), (1254, .goto 4, 3), (1257, .iconst 0, 1), (1258, .aload_n 0, 1), (1259, .iload 5, 2), (1261, .iconst 2, 1), (1262, .iadd, 1), (1263, .iaload, 1), (1264, .aload_n 0, 1), (1265, .iload 5, 2), (1267, .iconst 3, 1), (1268, .iadd, 1)]
theorem hL_law_11 : jD cL_law rL_law_11 = true := by decide +kernel
def rL_law_12 : List jI := [(1269, .iaload, 1), (1270, .aload_n 0, 1), (1271, .iload 5, 2), (1273, .iconst 4, 1), (1274, .iadd, 1), (1275, .iaload, 1), (1276, .invokevirtual 201, 3), (1279, .istore 7, 2), (1281, .aload_n 2, 1), (1282, .invokevirtual 150, 3), (1285, .iload 6, 2), (1287, .if_icmp .eq 5, 3), (1290, .iconst 0, 1), (1291, .ireturn, 1), (1292, .iload 6, 2), (1294, .ifCond .ne 15, 3), (1297, .aload_n 3, 1), (1298, .iconst 0, 1), (1299, .laload, 1), (1300, .iload 7, 2), (1302, .i2l, 1), (1303, .lcmp, 1), (1304, .ifCond .eq 5, 3), (1307, .iconst 0, 1), (1308, .ireturn, 1), (1309, .goto 1311, 3), (1312, .aload_n 1, 1), (1313, .aload_n 0, 1), (1314, .iload 5, 2), (1316, .iconst 1, 1), (1317, .iadd, 1), (1318, .iaload, 1), (1319, .aload_n 0, 1), (1320, .iload 5, 2), (1322, .iconst 2, 1), (1323, .iadd, 1), (1324, .iaload, 1), (1325, .aload_n 3, 1), (1326, .invokestatic 202, 3), (1329, .istore 6, 2), (1331, .aload_n 2, 1), (1332, .aload_n 0, 1), (1333, .iload 5, 2), (1335, .iconst 1, 1), (1336, .iadd, 1), (1337, .iaload, 1), (1338, .aload_n 0, 1), (1339, .iload 5, 2), (1341, .iconst 2, 1), (1342, .iadd, 1), (1343, .iaload, 1), (1344, .invokevirtual 204, 3), (1347, .istore 7, 2), (1349, .aload_n 2, 1), (1350, .invokevirtual 150, 3), (1353, .iload 6, 2), (1355, .if_icmp .eq 5, 3), (1358, .iconst 0, 1), (1359, .ireturn, 1), (1360, .iload 6, 2)]
theorem hL_law_12 : jD cL_law rL_law_12 = true := by decide +kernel
def rL_law_13 : List jI := [(1362, .ifCond .ne 15, 3), (1365, .aload_n 3, 1), (1366, .iconst 0, 1), (1367, .laload, 1), (1368, .iload 7, 2), (1370, .i2l, 1), (1371, .lcmp, 1), (1372, .ifCond .eq 5, 3), (1375, .iconst 0, 1), (1376, .ireturn, 1), (1377, .goto 1243, 3), (1380, .aload_n 1, 1), (1381, .aload_n 0, 1), (1382, .iload 5, 2), (1384, .iconst 1, 1), (1385, .iadd, 1), (1386, .iaload, 1), (1387, .aload_n 0, 1), (1388, .iload 5, 2), (1390, .iconst 2, 1), (1391, .iadd, 1), (1392, .iaload, 1), (1393, .aload_n 0, 1), (1394, .iload 5, 2), (1396, .iconst 3, 1), (1397, .iadd, 1), (1398, .iaload, 1), (1399, .aload_n 3, 1), (1400, .invokestatic 205, 3), (1403, .istore 6, 2), (1405, .aload_n 2, 1), (1406, .aload_n 0, 1), (1407, .iload 5, 2), (1409, .iconst 1, 1), (1410, .iadd, 1), (1411, .iaload, 1), (1412, .aload_n 0, 1), (1413, .iload 5, 2), (1415, .iconst 2, 1), (1416, .iadd, 1), (1417, .iaload, 1), (1418, .aload_n 0, 1), (1419, .iload 5, 2), (1421, .iconst 3, 1), (1422, .iadd, 1), (1423, .iaload, 1), (1424, .invokevirtual 207, 3), (1427, .istore 7, 2), (1429, .aload_n 2, 1), (1430, .invokevirtual 150, 3), (1433, .iload 6, 2), (1435, .if_icmp .eq 5, 3), (1438, .iconst 0, 1), (1439, .ireturn, 1), (1440, .iload 6, 2), (1442, .ifCond .ne 15, 3), (1445, .aload_n 3, 1), (1446, .iconst 0, 1), (1447, .laload, 1), (1448, .iload 7, 2)]
theorem hL_law_13 : jD cL_law rL_law_13 = true := by decide +kernel
def rL_law_14 : List jI := [(1450, .i2l, 1), (1451, .lcmp, 1), (1452, .ifCond .eq 5, 3), (1455, .iconst 0, 1), (1456, .ireturn, 1), (1457, .goto 1163, 3), (1460, .aload_n 1, 1), (1461, .aload_n 0, 1), (1462, .iload 5, 2), (1464, .iconst 1, 1), (1465, .iadd, 1), (1466, .iaload, 1), (1467, .aload_n 0, 1), (1468, .iload 5, 2), (1470, .iconst 2, 1), (1471, .iadd, 1), (1472, .iaload, 1), (1473, .aload_n 0, 1), (1474, .iload 5, 2), (1476, .iconst 3, 1), (1477, .iadd, 1), (1478, .iaload, 1), (1479, .aload_n 3, 1), (1480, .invokestatic 208, 3), (1483, .istore 6, 2), (1485, .aload_n 2, 1), (1486, .aload_n 0, 1), (1487, .iload 5, 2), (1489, .iconst 1, 1), (1490, .iadd, 1), (1491, .iaload, 1), (1492, .aload_n 0, 1), (1493, .iload 5, 2), (1495, .iconst 2, 1), (1496, .iadd, 1), (1497, .iaload, 1), (1498, .aload_n 0, 1), (1499, .iload 5, 2), (1501, .iconst 3, 1), (1502, .iadd, 1), (1503, .iaload, 1), (1504, .invokevirtual 210, 3), (1507, .istore 7, 2), (1509, .aload_n 2, 1), (1510, .invokevirtual 150, 3), (1513, .iload 6, 2), (1515, .if_icmp .eq 5, 3), (1518, .iconst 0, 1), (1519, .ireturn, 1), (1520, .iload 6, 2), (1522, .ifCond .ne 15, 3), (1525, .aload_n 3, 1), (1526, .iconst 0, 1), (1527, .laload, 1), (1528, .iload 7, 2), (1530, .i2l, 1), (1531, .lcmp, 1), (1532, .ifCond .eq 5, 3), (1535, .iconst 0, 1), (1536, .ireturn, 1)]
theorem hL_law_14 : jD cL_law rL_law_14 = true := by decide +kernel
def rL_law_15 : List jI := [(1537, .goto 1083, 3), (1540, .aload_n 1, 1), (1541, .aload_n 0, 1), (1542, .iload 5, 2), (1544, .iconst 1, 1), (1545, .iadd, 1), (1546, .iaload, 1), (1547, .aload_n 3, 1), (1548, .invokestatic 211, 3), (1551, .istore 6, 2), (1553, .aload_n 2, 1), (1554, .aload_n 0, 1), (1555, .iload 5, 2), (1557, .iconst 1, 1), (1558, .iadd, 1), (1559, .iaload, 1), (1560, .invokevirtual 213, 3), (1563, .istore 7, 2), (1565, .aload_n 2, 1), (1566, .invokevirtual 150, 3), (1569, .iload 6, 2), (1571, .if_icmp .eq 5, 3), (1574, .iconst 0, 1), (1575, .ireturn, 1), (1576, .iload 6, 2), (1578, .ifCond .ne 15, 3), (1581, .aload_n 3, 1), (1582, .iconst 0, 1), (1583, .laload, 1), (1584, .iload 7, 2), (1586, .i2l, 1), (1587, .lcmp, 1), (1588, .ifCond .eq 5, 3), (1591, .iconst 0, 1), (1592, .ireturn, 1), (1593, .goto 1027, 3), (1596, .aload_n 1, 1), (1597, .aload_n 0, 1), (1598, .iload 5, 2), (1600, .iconst 1, 1), (1601, .iadd, 1), (1602, .iaload, 1), (1603, .aload_n 3, 1), (1604, .invokestatic 214, 3), (1607, .istore 6, 2), (1609, .aload_n 2, 1), (1610, .aload_n 0, 1), (1611, .iload 5, 2), (1613, .iconst 1, 1), (1614, .iadd, 1), (1615, .iaload, 1), (1616, .invokevirtual 216, 3), (1619, .istore 7, 2), (1621, .aload_n 2, 1), (1622, .invokevirtual 150, 3), (1625, .iload 6, 2), (1627, .if_icmp .eq 5, 3), (1630, .iconst 0, 1), (1631, .ireturn, 1), (1632, .iload 6, 2)]
theorem hL_law_15 : jD cL_law rL_law_15 = true := by decide +kernel
def rL_law_16 : List jI := [(1634, .ifCond .ne 15, 3), (1637, .aload_n 3, 1), (1638, .iconst 0, 1), (1639, .laload, 1), (1640, .iload 7, 2), (1642, .i2l, 1), (1643, .lcmp, 1), (1644, .ifCond .eq 5, 3), (1647, .iconst 0, 1), (1648, .ireturn, 1), (1649, .goto 971, 3), (1652, .aload_n 1, 1), (1653, .aload_n 0, 1), (1654, .iload 5, 2), (1656, .iconst 1, 1), (1657, .iadd, 1), (1658, .iaload, 1), (1659, .aload_n 0, 1), (1660, .iload 5, 2), (1662, .iconst 2, 1), (1663, .iadd, 1), (1664, .iaload, 1), (1665, .aload_n 3, 1), (1666, .invokestatic 217, 3), (1669, .istore 6, 2), (1671, .aload_n 2, 1), (1672, .aload_n 0, 1), (1673, .iload 5, 2), (1675, .iconst 1, 1), (1676, .iadd, 1), (1677, .iaload, 1), (1678, .aload_n 0, 1), (1679, .iload 5, 2), (1681, .iconst 2, 1), (1682, .iadd, 1), (1683, .iaload, 1), (1684, .invokevirtual 219, 3), (1687, .istore 7, 2), (1689, .aload_n 2, 1), (1690, .invokevirtual 150, 3), (1693, .iload 6, 2), (1695, .if_icmp .eq 5, 3), (1698, .iconst 0, 1), (1699, .ireturn, 1), (1700, .iload 6, 2), (1702, .ifCond .ne 15, 3), (1705, .aload_n 3, 1), (1706, .iconst 0, 1), (1707, .laload, 1), (1708, .iload 7, 2), (1710, .i2l, 1), (1711, .lcmp, 1), (1712, .ifCond .eq 5, 3), (1715, .iconst 0, 1), (1716, .ireturn, 1), (1717, .goto 903, 3), (1720, .aload_n 1, 1), (1721, .aload_n 0, 1), (1722, .iload 5, 2), (1724, .iconst 1, 1)]
theorem hL_law_16 : jD cL_law rL_law_16 = true := by decide +kernel
def rL_law_17 : List jI := [(1725, .iadd, 1), (1726, .iaload, 1), (1727, .aload_n 0, 1), (1728, .iload 5, 2), (1730, .iconst 2, 1), (1731, .iadd, 1), (1732, .iaload, 1), (1733, .aload_n 3, 1), (1734, .invokestatic 220, 3), (1737, .istore 6, 2), (1739, .aload_n 2, 1), (1740, .aload_n 0, 1), (1741, .iload 5, 2), (1743, .iconst 1, 1), (1744, .iadd, 1), (1745, .iaload, 1), (1746, .aload_n 0, 1), (1747, .iload 5, 2), (1749, .iconst 2, 1), (1750, .iadd, 1), (1751, .iaload, 1), (1752, .invokevirtual 222, 3), (1755, .istore 7, 2), (1757, .aload_n 2, 1), (1758, .invokevirtual 150, 3), (1761, .iload 6, 2), (1763, .if_icmp .eq 5, 3), (1766, .iconst 0, 1), (1767, .ireturn, 1), (1768, .iload 6, 2), (1770, .ifCond .ne 15, 3), (1773, .aload_n 3, 1), (1774, .iconst 0, 1), (1775, .laload, 1), (1776, .iload 7, 2), (1778, .i2l, 1), (1779, .lcmp, 1), (1780, .ifCond .eq 5, 3), (1783, .iconst 0, 1), (1784, .ireturn, 1), (1785, .goto 835, 3), (1788, .aload_n 1, 1), (1789, .aload_n 0, 1), (1790, .iload 5, 2), (1792, .iconst 1, 1), (1793, .iadd, 1), (1794, .iaload, 1), (1795, .aload_n 0, 1), (1796, .iload 5, 2), (1798, .iconst 2, 1), (1799, .iadd, 1), (1800, .iaload, 1), (1801, .aload_n 3, 1), (1802, .invokestatic 223, 3), (1805, .istore 6, 2), (1807, .aload_n 2, 1), (1808, .aload_n 0, 1), (1809, .iload 5, 2), (1811, .iconst 1, 1), (1812, .iadd, 1)]
theorem hL_law_17 : jD cL_law rL_law_17 = true := by decide +kernel
def rL_law_18 : List jI := [(1813, .iaload, 1), (1814, .aload_n 0, 1), (1815, .iload 5, 2), (1817, .iconst 2, 1), (1818, .iadd, 1), (1819, .iaload, 1), (1820, .invokevirtual 225, 3), (1823, .istore 7, 2), (1825, .aload_n 2, 1), (1826, .invokevirtual 150, 3), (1829, .iload 6, 2), (1831, .if_icmp .eq 5, 3), (1834, .iconst 0, 1), (1835, .ireturn, 1), (1836, .iload 6, 2), (1838, .ifCond .ne 15, 3), (1841, .aload_n 3, 1), (1842, .iconst 0, 1), (1843, .laload, 1), (1844, .iload 7, 2), (1846, .i2l, 1), (1847, .lcmp, 1), (1848, .ifCond .eq 5, 3), (1851, .iconst 0, 1), (1852, .ireturn, 1), (1853, .goto 767, 3), (1856, .aload_n 1, 1), (1857, .aload_n 0, 1), (1858, .iload 5, 2), (1860, .iconst 1, 1), (1861, .iadd, 1), (1862, .iaload, 1), (1863, .aload_n 3, 1), (1864, .invokestatic 226, 3), (1867, .istore 6, 2), (1869, .aload_n 2, 1), (1870, .aload_n 0, 1), (1871, .iload 5, 2), (1873, .iconst 1, 1), (1874, .iadd, 1), (1875, .iaload, 1), (1876, .invokevirtual 228, 3), (1879, .istore 7, 2), (1881, .aload_n 2, 1), (1882, .invokevirtual 150, 3), (1885, .iload 6, 2), (1887, .if_icmp .eq 5, 3), (1890, .iconst 0, 1), (1891, .ireturn, 1), (1892, .iload 6, 2), (1894, .ifCond .ne 15, 3), (1897, .aload_n 3, 1), (1898, .iconst 0, 1), (1899, .laload, 1), (1900, .iload 7, 2), (1902, .i2l, 1), (1903, .lcmp, 1), (1904, .ifCond .eq 5, 3), (1907, .iconst 0, 1), (1908, .ireturn, 1)]
theorem hL_law_18 : jD cL_law rL_law_18 = true := by decide +kernel
def rL_law_19 : List jI := [(1909, .goto 711, 3), (1912, .aload_n 1, 1), (1913, .aload_n 0, 1), (1914, .iload 5, 2), (1916, .iconst 1, 1), (1917, .iadd, 1), (1918, .iaload, 1), (1919, .aload_n 0, 1), (1920, .iload 5, 2), (1922, .iconst 2, 1), (1923, .iadd, 1), (1924, .iaload, 1), (1925, .ifCond .eq 7, 3), (1928, .iconst 1, 1), (1929, .goto 4, 3), (1932, .iconst 0, 1), (1933, .aload_n 3, 1), (1934, .invokestatic 229, 3), (1937, .istore 6, 2), (1939, .aload_n 2, 1), (1940, .aload_n 0, 1), (1941, .iload 5, 2), (1943, .iconst 1, 1), (1944, .iadd, 1), (1945, .iaload, 1), (1946, .aload_n 0, 1), (1947, .iload 5, 2), (1949, .iconst 2, 1), (1950, .iadd, 1), (1951, .iaload, 1), (1952, .ifCond .eq 7, 3), (1955, .iconst 1, 1), (1956, .goto 4, 3), (1959, .iconst 0, 1), (1960, .invokevirtual 232, 3), (1963, .istore 7, 2), (1965, .aload_n 2, 1), (1966, .invokevirtual 150, 3), (1969, .iload 6, 2), (1971, .if_icmp .eq 5, 3), (1974, .iconst 0, 1), (1975, .ireturn, 1), (1976, .iload 6, 2), (1978, .ifCond .ne 15, 3), (1981, .aload_n 3, 1), (1982, .iconst 0, 1), (1983, .laload, 1), (1984, .iload 7, 2), (1986, .i2l, 1), (1987, .lcmp, 1), (1988, .ifCond .eq 5, 3), (1991, .iconst 0, 1), (1992, .ireturn, 1), (1993, .goto 627, 3), (1996, .aload_n 1, 1), (1997, .aload_n 0, 1), (1998, .iload 5, 2), (2000, .iconst 1, 1), (2001, .iadd, 1), (2002, .iaload, 1)]
theorem hL_law_19 : jD cL_law rL_law_19 = true := by decide +kernel
def rL_law_20 : List jI := [(2003, .aload_n 3, 1), (2004, .invokestatic 233, 3), (2007, .istore 6, 2), (2009, .aload_n 2, 1), (2010, .aload_n 0, 1), (2011, .iload 5, 2), (2013, .iconst 1, 1), (2014, .iadd, 1), (2015, .iaload, 1), (2016, .invokevirtual 235, 3), (2019, .istore 7, 2), (2021, .aload_n 2, 1), (2022, .invokevirtual 150, 3), (2025, .iload 6, 2), (2027, .if_icmp .eq 5, 3), (2030, .iconst 0, 1), (2031, .ireturn, 1), (2032, .iload 6, 2), (2034, .ifCond .ne 15, 3), (2037, .aload_n 3, 1), (2038, .iconst 0, 1), (2039, .laload, 1), (2040, .iload 7, 2), (2042, .i2l, 1), (2043, .lcmp, 1), (2044, .ifCond .eq 5, 3), (2047, .iconst 0, 1), (2048, .ireturn, 1), (2049, .goto 571, 3), (2052, .aload_n 1, 1), (2053, .aload_n 0, 1), (2054, .iload 5, 2), (2056, .iconst 1, 1), (2057, .iadd, 1), (2058, .iaload, 1), (2059, .aload_n 0, 1), (2060, .iload 5, 2), (2062, .iconst 2, 1), (2063, .iadd, 1), (2064, .iaload, 1), (2065, .aload_n 3, 1), (2066, .invokestatic 236, 3), (2069, .istore 6, 2), (2071, .aload_n 2, 1), (2072, .aload_n 0, 1), (2073, .iload 5, 2), (2075, .iconst 1, 1), (2076, .iadd, 1), (2077, .iaload, 1), (2078, .aload_n 0, 1), (2079, .iload 5, 2), (2081, .iconst 2, 1), (2082, .iadd, 1), (2083, .iaload, 1), (2084, .invokevirtual 238, 3), (2087, .istore 7, 2), (2089, .aload_n 2, 1), (2090, .invokevirtual 150, 3), (2093, .iload 6, 2), (2095, .if_icmp .eq 5, 3)]
theorem hL_law_20 : jD cL_law rL_law_20 = true := by decide +kernel
def rL_law_21 : List jI := [(2098, .iconst 0, 1), (2099, .ireturn, 1), (2100, .iload 6, 2), (2102, .ifCond .ne 15, 3), (2105, .aload_n 3, 1), (2106, .iconst 0, 1), (2107, .laload, 1), (2108, .iload 7, 2), (2110, .i2l, 1), (2111, .lcmp, 1), (2112, .ifCond .eq 5, 3), (2115, .iconst 0, 1), (2116, .ireturn, 1), (2117, .goto 503, 3), (2120, .aload_n 1, 1), (2121, .aload_n 0, 1), (2122, .iload 5, 2), (2124, .iconst 1, 1), (2125, .iadd, 1), (2126, .iaload, 1), (2127, .aload_n 0, 1), (2128, .iload 5, 2), (2130, .iconst 2, 1), (2131, .iadd, 1), (2132, .iaload, 1), (2133, .aload_n 3, 1), (2134, .invokestatic 239, 3), (2137, .istore 6, 2), (2139, .aload_n 2, 1), (2140, .aload_n 0, 1), (2141, .iload 5, 2), (2143, .iconst 1, 1), (2144, .iadd, 1), (2145, .iaload, 1), (2146, .aload_n 0, 1), (2147, .iload 5, 2), (2149, .iconst 2, 1), (2150, .iadd, 1), (2151, .iaload, 1), (2152, .invokevirtual 241, 3), (2155, .istore 7, 2), (2157, .aload_n 2, 1), (2158, .invokevirtual 150, 3), (2161, .iload 6, 2), (2163, .if_icmp .eq 5, 3), (2166, .iconst 0, 1), (2167, .ireturn, 1), (2168, .iload 6, 2), (2170, .ifCond .ne 15, 3), (2173, .aload_n 3, 1), (2174, .iconst 0, 1), (2175, .laload, 1), (2176, .iload 7, 2), (2178, .i2l, 1), (2179, .lcmp, 1), (2180, .ifCond .eq 5, 3), (2183, .iconst 0, 1), (2184, .ireturn, 1), (2185, .goto 435, 3), (2188, .aload_n 1, 1)]
theorem hL_law_21 : jD cL_law rL_law_21 = true := by decide +kernel
def rL_law_22 : List jI := [(2189, .aload_n 0, 1), (2190, .iload 5, 2), (2192, .iconst 1, 1), (2193, .iadd, 1), (2194, .iaload, 1), (2195, .aload_n 3, 1), (2196, .invokestatic 242, 3), (2199, .istore 6, 2), (2201, .aload_n 2, 1), (2202, .aload_n 0, 1), (2203, .iload 5, 2), (2205, .iconst 1, 1), (2206, .iadd, 1), (2207, .iaload, 1), (2208, .invokevirtual 244, 3), (2211, .istore 7, 2), (2213, .aload_n 2, 1), (2214, .invokevirtual 150, 3), (2217, .iload 6, 2), (2219, .if_icmp .eq 5, 3), (2222, .iconst 0, 1), (2223, .ireturn, 1), (2224, .iload 6, 2), (2226, .ifCond .ne 15, 3), (2229, .aload_n 3, 1), (2230, .iconst 0, 1), (2231, .laload, 1), (2232, .iload 7, 2), (2234, .i2l, 1), (2235, .lcmp, 1), (2236, .ifCond .eq 5, 3), (2239, .iconst 0, 1), (2240, .ireturn, 1), (2241, .goto 379, 3), (2244, .aload_n 1, 1), (2245, .aload 4, 2), (2247, .invokestatic 245, 3), (2250, .istore 6, 2), (2252, .aload_n 2, 1), (2253, .invokevirtual 248, 3), (2256, .dstore 7, 2), (2258, .aload_n 2, 1), (2259, .invokevirtual 150, 3), (2262, .iload 6, 2), (2264, .if_icmp .eq 5, 3), (2267, .iconst 0, 1), (2268, .ireturn, 1), (2269, .iload 6, 2), (2271, .ifCond .ne 35, 3), (2274, .aload 4, 2), (2276, .iconst 0, 1), (2277, .daload, 1), (2278, .dload 7, 2), (2280, .dcmp .l, 1), (2281, .ifCond .eq 25, 3), (2284, .aload 4, 2), (2286, .iconst 0, 1), (2287, .daload, 1), (2288, .aload 4, 2), (2290, .iconst 0, 1)]
theorem hL_law_22 : jD cL_law rL_law_22 = true := by decide +kernel
def rL_law_23 : List jI := [(2291, .daload, 1), (2292, .dcmp .l, 1), (2293, .ifCond .eq 11, 3), (2296, .dload 7, 2), (2298, .dload 7, 2), (2300, .dcmp .l, 1), (2301, .ifCond .ne 5, 3), (2304, .iconst 0, 1), (2305, .ireturn, 1), (2306, .goto 314, 3), (2309, .aload_n 1, 1), (2310, .aload_n 0, 1), (2311, .iload 5, 2), (2313, .iconst 1, 1), (2314, .iadd, 1), (2315, .iaload, 1), (2316, .aload_n 3, 1), (2317, .invokestatic 249, 3), (2320, .istore 6, 2), (2322, .aload_n 2, 1), (2323, .aload_n 0, 1), (2324, .iload 5, 2), (2326, .iconst 1, 1), (2327, .iadd, 1), (2328, .iaload, 1), (2329, .invokevirtual 251, 3), (2332, .istore 7, 2), (2334, .aload_n 2, 1), (2335, .invokevirtual 150, 3), (2338, .iload 6, 2), (2340, .if_icmp .eq 5, 3), (2343, .iconst 0, 1), (2344, .ireturn, 1), (2345, .iload 6, 2), (2347, .ifCond .ne 15, 3), (2350, .aload_n 3, 1), (2351, .iconst 0, 1), (2352, .laload, 1), (2353, .iload 7, 2), (2355, .i2l, 1), (2356, .lcmp, 1), (2357, .ifCond .eq 5, 3), (2360, .iconst 0, 1), (2361, .ireturn, 1), (2362, .goto 258, 3), (2365, .aload_n 1, 1), (2366, .aload_n 0, 1), (2367, .iload 5, 2), (2369, .iconst 1, 1), (2370, .iadd, 1), (2371, .iaload, 1), (2372, .aload_n 0, 1), (2373, .iload 5, 2), (2375, .iconst 2, 1), (2376, .iadd, 1), (2377, .iaload, 1), (2378, .aload_n 3, 1), (2379, .invokestatic 252, 3), (2382, .istore 6, 2), (2384, .aload_n 2, 1)]
theorem hL_law_23 : jD cL_law rL_law_23 = true := by decide +kernel
def rL_law_24 : List jI := [(2385, .aload_n 0, 1), (2386, .iload 5, 2), (2388, .iconst 1, 1), (2389, .iadd, 1), (2390, .iaload, 1), (2391, .aload_n 0, 1), (2392, .iload 5, 2), (2394, .iconst 2, 1), (2395, .iadd, 1), (2396, .iaload, 1), (2397, .invokevirtual 254, 3), (2400, .istore 7, 2), (2402, .aload_n 2, 1), (2403, .invokevirtual 150, 3), (2406, .iload 6, 2), (2408, .if_icmp .eq 5, 3), (2411, .iconst 0, 1), (2412, .ireturn, 1), (2413, .iload 6, 2), (2415, .ifCond .ne 15, 3), (2418, .aload_n 3, 1), (2419, .iconst 0, 1), (2420, .laload, 1), (2421, .iload 7, 2), (2423, .i2l, 1), (2424, .lcmp, 1), (2425, .ifCond .eq 5, 3), (2428, .iconst 0, 1), (2429, .ireturn, 1), (2430, .goto 190, 3), (2433, .aload_n 1, 1), (2434, .invokevirtual 255, 3), (2437, .aload_n 2, 1), (2438, .invokevirtual 258, 3), (2441, .if_icmp .eq 179, 3), (2444, .iconst 0, 1), (2445, .ireturn, 1), (2446, .aload_n 1, 1), (2447, .aload_n 0, 1), (2448, .iload 5, 2), (2450, .iconst 1, 1), (2451, .iadd, 1), (2452, .iaload, 1), (2453, .i2c, 1), (2454, .invokestatic 259, 3), (2457, .istore 6, 2), (2459, .aload_n 2, 1), (2460, .aload_n 0, 1), (2461, .iload 5, 2), (2463, .iconst 1, 1), (2464, .iadd, 1), (2465, .iaload, 1), (2466, .i2c, 1), (2467, .invokevirtual 262, 3), (2470, .aload_n 2, 1), (2471, .invokevirtual 150, 3), (2474, .iload 6, 2), (2476, .if_icmp .eq 5, 3), (2479, .iconst 0, 1), (2480, .ireturn, 1)]
theorem hL_law_24 : jD cL_law rL_law_24 = true := by decide +kernel
def rL_law_25 : List jI := [(2481, .goto 139, 3), (2484, .aload_n 1, 1), (2485, .aload_n 3, 1), (2486, .invokestatic 263, 3), (2489, .istore 6, 2), (2491, .aload_n 2, 1), (2492, .invokevirtual 265, 3), (2495, .istore 7, 2), (2497, .aload_n 2, 1), (2498, .invokevirtual 150, 3), (2501, .iload 6, 2), (2503, .if_icmp .eq 5, 3), (2506, .iconst 0, 1), (2507, .ireturn, 1), (2508, .iload 6, 2), (2510, .ifCond .ne 15, 3), (2513, .aload_n 3, 1), (2514, .iconst 0, 1), (2515, .laload, 1), (2516, .iload 7, 2), (2518, .i2l, 1), (2519, .lcmp, 1), (2520, .ifCond .eq 5, 3), (2523, .iconst 0, 1), (2524, .ireturn, 1), (2525, .goto 95, 3), (2528, .aload_n 1, 1), (2529, .invokevirtual 266, 3), (2532, .aload_n 2, 1), (2533, .invokevirtual 269, 3), (2536, .if_icmp .eq 84, 3), (2539, .iconst 0, 1), (2540, .ireturn, 1), (2541, .aload_n 1, 1), (2542, .aload_n 3, 1), (2543, .invokestatic 270, 3), (2546, .istore 6, 2), (2548, .aload_n 2, 1), (2549, .invokevirtual 272, 3), (2552, .istore 7, 2), (2554, .aload_n 2, 1), (2555, .invokevirtual 150, 3), (2558, .iload 6, 2), (2560, .if_icmp .eq 5, 3), (2563, .iconst 0, 1), (2564, .ireturn, 1), (2565, .iload 6, 2), (2567, .ifCond .ne 15, 3), (2570, .aload_n 3, 1), (2571, .iconst 0, 1), (2572, .laload, 1), (2573, .iload 7, 2), (2575, .i2l, 1), (2576, .lcmp, 1), (2577, .ifCond .eq 5, 3), (2580, .iconst 0, 1), (2581, .ireturn, 1), (2582, .goto 38, 3), (2585, .aload_n 1, 1), (2586, .invokevirtual 273, 3)]
theorem hL_law_25 : jD cL_law rL_law_25 = true := by decide +kernel
def rL_law_26 : List jI := [(2589, .aload_n 2, 1), (2590, .invokevirtual 276, 3), (2593, .goto 27, 3), (2596, .aload_n 1, 1), (2597, .invokestatic 277, 3), (2600, .istore 6, 2), (2602, .aload_n 2, 1), (2603, .invokevirtual 280, 3), (2606, .aload_n 2, 1), (2607, .invokevirtual 150, 3), (2610, .iload 6, 2), (2612, .if_icmp .eq 5, 3), (2615, .iconst 0, 1), (2616, .ireturn, 1), (2617, .goto 3, 3), (2620, .iinc 5 5, 3), (2623, .goto (-2595), 3), (2626, .iconst 1, 1), (2627, .ireturn, 1)]
theorem hL_law_26 : jD cL_law rL_law_26 = true := by decide +kernel
end
section
/-! ===== BEGIN words of one list among another's, by their places ===== -/
theorem goodIn_r {big : List Cond} (ws : List Cond) (ps : List Nat) (hp : ws = ps.filterMap (fun i => big[i]?)) (h : ws.all goodWord = true) : GoodIn big ws := by
  intro w hw
  have h1 := List.all_eq_true.mp h w hw
  rw [hp] at hw
  obtain ⟨i, -, hi⟩ := List.mem_filterMap.mp hw
  have hm : w ∈ big := by first | exact List.mem_of_getElem? hi | exact List.getElem?_mem hi
  exact ⟨hm, good_of_word h1⟩
theorem goodIn_app {big a b : List Cond} (ha : GoodIn big a) (hb : GoodIn big b) : GoodIn big (a ++ b) := fun w h => (List.mem_append.mp h).elim (ha w) (hb w)
theorem goodIn_ca {big a b : List Cond} {c : Cond} (ha : GoodIn big (c :: a)) (hb : GoodIn big b) : GoodIn big (c :: (a ++ b)) := fun w h => (List.mem_cons.mp h).elim (fun e => ha w (List.mem_cons.mpr (Or.inl e))) (fun h => (List.mem_append.mp h).elim (fun h => ha w (List.mem_cons.mpr (Or.inr h))) (hb w))
theorem goodIn_sub {big ws : List Cond} (hm : ∀ w ∈ ws, w ∈ big) (h : ws.all goodWord = true) : GoodIn big ws := fun w hw => ⟨hm w hw, good_of_word (List.all_eq_true.mp h w hw)⟩
/-! ===== END ===== -/

/-! ===== BEGIN exceptions that leave a method, and their catching by the caller (launches without stack traces) ===== -/
section VXA
/-! The laws vx_back, vx_callV, vx_callS, vx_callSW, vx_throw0, vx_throwS follow proofs of the library, with one case more: JvmDerived/Free/Laws.lean (Back.of_free), Shelf42/LK1.lean (callV, callS), Shelf/KitTraced.lean (throwNew0V, throwNewS). -/
/-- where a method has thrown q: the class by its name, the cell, what was written, the world -/
def vx_T (XC : String → State → State → Prop) (st : State) (q : Addr) (t : State) (mc ms : Nat) (free : Addr → Prop) : Prop :=
  ∃ (E : String) (ce : Cell) (L : List Loc), XC E st t ∧ t.heap[q]? = some ce ∧ ce.vm = .none ∧ st.vm.findClass E = some ce.cls ∧ st.WarmedH t.vm ∧ st.sameButNew ({ t with vm := st.vm } : State) L mc ms ∧ ∀ z ∈ L, free z.base
def vx_Q (Qc : Array Value → State → Outcome → State → Prop) (XC : String → State → State → Prop) (mc ms : Nat) (free : Addr → Prop) : Array Value → State → Outcome → State → Prop := fun a st o t =>
  (Qc a st o t ∧ ∃ L, FrameEnd st o t L mc ms ∧ ∀ q ∈ L, free q.base) ∨ ∃ q, o = .threw q ∧ vx_T XC st q t mc ms free
/-- a callee that returns or throws -/
def vx_Met (l : Launch) (y : MethodName) (ws : List Cond) (rm : Room) (Pc : Array Value → State → Prop) (Qc : Array Value → State → Outcome → State → Prop) (XC : String → State → State → Prop) (mc ms : Nat) (free : Addr → Prop) : Prop :=
  MetFree l y (headSpec ws rm) Pc (fun _ _ _ _ _ => True) (vx_Q Qc XC mc ms free)
def vx_Post (XC : String → State → State → Prop) (mc ms : Nat) (free : Addr → Prop) : Pt → Array Value → Addr → Pt → Prop := fun A a q B =>
  ∃ (g : JFrame) (mk : MethodId) (t : State) (L : List Loc) (E : String) (ce : Cell), B.U.heap = t.heap ∧ B.U.vm = t.vm ∧ XC E (A.U.calling g mk a) t ∧ t.heap[q]? = some ce ∧ ce.vm = .none ∧ A.U.vm.findClass E = some ce.cls ∧ B.locs = A.locs ++ L ∧ (∀ z ∈ L, free z.base) ∧ B.cells = A.cells + mc ∧ B.slots = A.slots + ms
def vx_Back (l : Launch) (R : Room) (p : Program) (e : Env) (below : List Frame) (s : State) (sargs : Array Value) (y : MethodName) (len W9 : Nat)
    (Pre : Pt → Array Value → Prop) (Post : Pt → Array Value → Option Value → Pt → Prop) (PostX : Pt → Array Value → Addr → Pt → Prop) : Prop :=
  ∀ (m : MethodId) (meth : Method) (c : Code) (A : Pt) (g : JFrame) (ig : Instr) (mk : MethodId) (a : Array Value),
    Stand p l e R s m sargs below meth c A.U A.locs A.cells A.slots → g.method = m → g.locals.size = c.maxLocals → decode c.code g.pc = .ok (ig, len) →
    2 * g.monitorRoom + (g.stack.map fun v => v.category).sum ≤ W9 → A.U.methodNamed? y = some mk → Pre A a →
    (∃ (v : Option Value) (B : Pt), Stand p l e R s m sargs below meth c B.U B.locs B.cells B.slots ∧ Post A a v B ∧
      Steps p.tables e below (doInvoke e (A.U.setTop g) [] mk a).1 (B.U.setTop { g with pc := g.pc + len, stack := v.toList ++ g.stack })) ∨
    (∃ (q : Addr) (B : Pt), Stand p l e R s m sargs below meth c B.U B.locs B.cells B.slots ∧ PostX A a q B ∧
      Steps p.tables e below (doInvoke e (A.U.setTop g) [] mk a).1 ((B.U.setTop g).pushFrame (.throwing q)))
section Payer
variable {l : Launch} {R : Room} {p : Program} {e : Env} {below : List Frame} {s : State} {sargs : Array Value} {y : MethodName} {len W9 : Nat}
theorem vx_back {ws : List Cond} {rm : Room} {Pc : Array Value → State → Prop} {Qc : Array Value → State → Outcome → State → Prop} {XC : String → State → State → Prop} {mc ms : Nat} {free : Addr → Prop} {bytes : ByteArray} {maxL : Nat} {ret : Option FieldType}
    (hM : vx_Met l y ws rm Pc Qc XC mc ms free) (hblind : FrameBlind Pc) (hrc : rm.cells = mc) (hrs : rm.slots = ms)
    (hframes : rm.frames + 1 ≤ R.frames) (hlocals : W9 + (maxL + 11) + rm.locals ≤ R.locals)
    (hws : ∀ w ∈ ws, ∀ a' U, s.WarmedH U.vm → w.before a' U = true) (hcode : Cond.code y bytes maxL ret ∈ ws) (hinit : ∀ a' U, s.WarmedH U.vm → (Cond.initialized y.cls).before a' U = true) :
    vx_Back l R p e below s sargs y len W9 (PreOf R mc ms Pc) (PostOf Qc mc ms free) (vx_Post XC mc ms free) := by
  intro m meth c A g ig mk a X hg hsize hdg hW hn hp
  have h1 : (headSpec ws rm).pre.before a A.U = true := atoms_intro fun w hw => hws w hw _ _ X.warmed
  have h2 : (Cond.code y bytes maxL ret).before a A.U = true := hws _ hcode _ _ X.warmed
  have h3 : (Cond.initialized y.cls).before a A.U = true := hinit _ _ X.warmed
  have h4 : A.cells + (headSpec ws rm).room.cells ≤ R.cells := by rw [show (headSpec ws rm).room.cells = mc from hrc]; exact hp.1
  have h5 : A.slots + (headSpec ws rm).room.slots ≤ R.slots := by rw [show (headSpec ws rm).room.slots = ms from hrs]; exact hp.2.1
  have hPc : Pc a (A.U.calling g mk a) := hblind _ _ _ _ hp.2.2
  obtain ⟨U, Ls, c0, s0⟩ := A
  dsimp only [Pt.U, Pt.locs, Pt.cells, Pt.slots] at h1 h2 h3 h4 h5 X hn hPc ⊢
  obtain ⟨methY, cY, hmY, hcY, -, hlY, -, -, -, -⟩ := Cond.code_spec hn h2
  obtain ⟨kY, hkY, -⟩ := className_of_methodNamed hn
  have hinitY : kY.init = .initialized := Cond.initialized_spec (findClass_of_methodNamed hn) hkY h3
  have h : At U g.method c below := by rw [hg]; exact X.here
  have hlocals9 : W9 + (maxL + 11) + (headSpec ws rm).room.locals ≤ R.locals := hlocals
  have happ : (headSpec ws rm).appliesLoose y e.platform (U.calling g mk a) = true :=
    Spec.appliesLoose_calling (g := g) h hdg hn hkY hinitY
      (X.room_calling (g := g) (R' := (headSpec ws rm).room) hsize hmY hcY hframes (by rw [hlY]; omega) h4 h5) h1
  obtain ⟨mid, hmid⟩ := h.above
  have hfr : (U.setTop g).frames = (.java g :: mid) ++ below := by rw [State.frames_setTop' g h.top, hmid]; rfl
  obtain ⟨o, s₂, hsteps, -, hend, hq⟩ := Steps.callFree hM p X.admits X.cas X.clock (acts := []) hfr happ hPc trivial
  have hq' : vx_Q Qc XC mc ms free a (U.calling g mk a) o s₂ := hq
  rw [State.frames_setTop' g h.top] at hend
  obtain ⟨g₀, hg0⟩ := Option.isSome_iff_exists.mp h.top
  obtain ⟨r, hr⟩ := State.topJava?_eq_some.mp hg0
  have hr' : (({ U with heap := s₂.heap, slotsUsed := s₂.slotsUsed } : State).setVm s₂.vm).frames = .java g₀ :: r := hr
  rcases hq' with ⟨hqc, L, hfe, hL⟩ | ⟨q, rfl, E, ce, L, hx, hce, hcv, hcl, hW₂, hsm, hL⟩
  · obtain ⟨⟨v, rfl⟩, hW₂, e2, q2, q3, q4, q5, q6⟩ := id hfe
    have e3 : s₂ = ({ (U.calling g mk a).setFrames s₂.frames with heap := s₂.heap, slotsUsed := s₂.slotsUsed } : State).setVm s₂.vm := by
      have : s₂ = ({ s₂ with vm := (U.calling g mk a).vm } : State).setVm s₂.vm := rfl
      rw [e2] at this
      exact this
    obtain ⟨c₂, i₂, len₂, hc₂, hd₂, hf₂⟩ := hend
    have hW' : U.WarmedH s₂.vm := hW₂
    have hcc : c₂ = c := by
      have h1 : s₂.code? g.method = U.code? g.method := by
        rw [State.code?_eq, State.code?_eq, hW'.alike.method?]
      exact Option.some.inj (hc₂.symm.trans (h1.trans h.code))
    subst hcc
    have hlen : len₂ = len := by rw [hdg] at hd₂; cases hd₂; rfl
    subst hlen
    have hs₂ : s₂ = (({ U with heap := s₂.heap, slotsUsed := s₂.slotsUsed } : State).setVm s₂.vm).setTop { g with pc := g.pc + len₂, stack := v.toList ++ g.stack } := by
      refine e3.trans ?_
      rw [hf₂, State.calling_eq h.top, State.setFrames_setFrames, State.setTop_of_frames _ hr', hr]
      rfl
    have hsame : U.sameButNew ({ U with heap := s₂.heap, slotsUsed := s₂.slotsUsed } : State) L mc ms := by
      refine ⟨?_, q2, q3, q4, q5, q6⟩
      obtain ⟨t, ht, -⟩ := State.frames_cons hr
      show ({ U with heap := s₂.heap, slotsUsed := s₂.slotsUsed } : State) = { U.setFrames U.frames with heap := s₂.heap, slotsUsed := s₂.slotsUsed }
      rw [State.setFrames_self ht]
    subst hg
    refine Or.inl ⟨v, ⟨(({ U with heap := s₂.heap, slotsUsed := s₂.slotsUsed } : State).setVm s₂.vm), Ls ++ L, c0 + mc, s0 + ms⟩,
      ⟨X.admits, X.cas, X.clock, X.frames, X.room, X.hears, X.method, X.code, (X.here.setHeapUsed s₂.heap s₂.slotsUsed).setVm hW'.alike, X.tail, State.WarmedH.trans X.warmed hW', X.limits, X.bytes, X.same.trans (hsame.setVm s.vm)⟩,
      ⟨g, mk, s₂, L, rfl, rfl, hqc, rfl, hL, rfl, rfl⟩, ?_⟩
    show Steps p.tables e below _ ((({ U with heap := s₂.heap, slotsUsed := s₂.slotsUsed } : State).setVm s₂.vm).setTop { g with pc := g.pc + len₂, stack := v.toList ++ g.stack })
    rw [← hs₂]
    exact hsteps
  · obtain ⟨e2, q2, q3, q4, q5, q6⟩ := id hsm
    have e3 : s₂ = ({ (U.calling g mk a).setFrames s₂.frames with heap := s₂.heap, slotsUsed := s₂.slotsUsed } : State).setVm s₂.vm := by
      have : s₂ = ({ s₂ with vm := (U.calling g mk a).vm } : State).setVm s₂.vm := rfl
      rw [e2] at this
      exact this
    have hf₂ : s₂.frames = .throwing q :: .java g :: U.frames.tail := hend
    have hW' : U.WarmedH s₂.vm := hW₂
    have hs₂ : s₂ = ((({ U with heap := s₂.heap, slotsUsed := s₂.slotsUsed } : State).setVm s₂.vm).setTop g).pushFrame (.throwing q) := by
      refine e3.trans ?_
      rw [hf₂, State.calling_eq h.top, State.setFrames_setFrames, State.pushFrame, State.frames_setTop _ hr', State.setTop_of_frames _ hr', State.setFrames_setFrames, hr]
      rfl
    have hsame : U.sameButNew ({ U with heap := s₂.heap, slotsUsed := s₂.slotsUsed } : State) L mc ms := by
      refine ⟨?_, q2, q3, q4, q5, q6⟩
      obtain ⟨t, ht, -⟩ := State.frames_cons hr
      show ({ U with heap := s₂.heap, slotsUsed := s₂.slotsUsed } : State) = { U.setFrames U.frames with heap := s₂.heap, slotsUsed := s₂.slotsUsed }
      rw [State.setFrames_self ht]
    subst hg
    refine Or.inr ⟨q, ⟨(({ U with heap := s₂.heap, slotsUsed := s₂.slotsUsed } : State).setVm s₂.vm), Ls ++ L, c0 + mc, s0 + ms⟩,
      ⟨X.admits, X.cas, X.clock, X.frames, X.room, X.hears, X.method, X.code, (X.here.setHeapUsed s₂.heap s₂.slotsUsed).setVm hW'.alike, X.tail, State.WarmedH.trans X.warmed hW', X.limits, X.bytes, X.same.trans (hsame.setVm s.vm)⟩,
      ⟨g, mk, s₂, L, E, ce, rfl, rfl, hx, hce, hcv, hcl, rfl, hL, rfl, rfl⟩, ?_⟩
    show Steps p.tables e below _ (((({ U with heap := s₂.heap, slotsUsed := s₂.slotsUsed } : State).setVm s₂.vm).setTop g).pushFrame (.throwing q))
    rw [← hs₂]
    exact hsteps
end Payer
section Calls
variable {p : Program} {l : Launch} {e : Env} {R : Room} {s : State} {m : MethodId} {args : Array Value} {below : List Frame} {meth : Method} {c : Code} {T : State} {locs : List Loc} {cells slots : Nat}
theorem vx_callV (X : Stand p l e R s m args below meth c T locs cells slots) (hexec : p.tables.exec = Jvm.exec) {own C : String} {index : Nat} {y : MethodName} {bytes : ByteArray} {maxL : Nat} {ret : Option FieldType}
    (hown : s.vm.findClass own = some m.cls) (hlink : (Cond.methodLink own index y).before args s = true) (hinst : (Cond.instanceMethod y).before args s = true) (hsel : (Cond.selects C y y).before args s = true)
    (hcode : (Cond.code y bytes maxL ret).before args s = true) (hy : y.cls ≠ "java/lang/invoke/MethodHandle" ∧ y.cls ≠ "java/lang/invoke/VarHandle")
    {W9 : Nat} {Pre : Pt → Array Value → Prop} {Post : Pt → Array Value → Option Value → Pt → Prop} {PostX : Pt → Array Value → Addr → Pt → Prop} (hK : vx_Back l R p e below s args y 3 W9 Pre Post PostX)
    {b : Addr} {cellB : Cell} (hcell : T.heap[b]? = some cellB) (hobj : cellB.vm.isStatics = false) (hcls : s.vm.findClass C = some cellB.cls)
    {g : JFrame} (hg : g.method = m) (hsize : g.locals.size = c.maxLocals) {argsL rest : List Value} (hlen : ∀ sig, parseMethodDescriptor y.desc = some sig → argsL.length = sig.parameters.length)
    (hstack : g.stack = argsL.reverse ++ .ref b :: rest) (hW : 2 * g.monitorRoom + (rest.map fun v => v.category).sum ≤ W9) (hdg : decode c.code g.pc = .ok (.invokevirtual index, 3))
    (hpre : ∀ vm₁, s.WarmedH vm₁ → Pre ⟨T.setVm vm₁, locs, cells, slots⟩ (Value.ref b :: argsL).toArray) :
    (∃ (v : Option Value) (vm₁ : Vm) (B : Pt), s.WarmedH vm₁ ∧ Stand p l e R s m args below meth c B.U B.locs B.cells B.slots ∧ Post ⟨T.setVm vm₁, locs, cells, slots⟩ (Value.ref b :: argsL).toArray v B ∧
      ∀ target, Steps p.tables e below (B.U.setTop { g with pc := g.pc + 3, stack := v.toList ++ rest }) target → Steps p.tables e below (T.setTop g) target) ∨
    (∃ (q : Addr) (vm₁ : Vm) (B : Pt), s.WarmedH vm₁ ∧ Stand p l e R s m args below meth c B.U B.locs B.cells B.slots ∧ PostX ⟨T.setVm vm₁, locs, cells, slots⟩ (Value.ref b :: argsL).toArray q B ∧
      Steps p.tables e below (T.setTop g) ((B.U.setTop { g with stack := rest }).pushFrame (.throwing q))) := by
  obtain ⟨mk, methM, hnamed, hmethM, hstM, habM⟩ := Cond.instanceMethod_spec hinst
  obtain ⟨methM', cM, hmethM', -, -, -, -, -, -, hsigM⟩ := Cond.code_spec hnamed hcode
  cases hmethM.symm.trans hmethM'
  obtain ⟨c2, r2, m2, q1, q2, q3, q4, kP, hkP, hkPi⟩ := Cond.selects_spec hsel
  cases hcls.symm.trans q1
  cases (State.methodFound?_of_named hnamed hy).symm.trans q2
  cases hnamed.symm.trans q3
  have hselP : selectMethod e.platform s.vm cellB.cls mk = .method mk := by rw [Launch.admits_selectMethod X.admits]; exact q4
  obtain ⟨vm₁, X₁, hstep₁⟩ := X.invokevirtual hexec hown hlink hnamed hmethM hstM hkP hkPi hy (a := b) (cell := cellB) hcell
    (fun z h => by rw [h] at hobj; cases hobj) hselP hmethM habM hkP hkPi (g := g) hg (argsL := argsL) (rest := rest) (hlen _ hsigM) hstack hdg
  rcases hK m meth c ⟨T.setVm vm₁, locs, cells, slots⟩ { g with stack := rest } (.invokevirtual index) mk (Value.ref b :: argsL).toArray X₁ hg hsize hdg hW (X₁.named hnamed) (hpre vm₁ X₁.warmed) with ⟨v, B, X', hpost, hsteps⟩ | ⟨q, B, X', hpost, hsteps⟩
  · exact Or.inl ⟨v, vm₁, B, X₁.warmed, X', hpost, fun target h => hstep₁ _ fun acts => by rw [doInvoke_state]; exact hsteps.trans h⟩
  · exact Or.inr ⟨q, vm₁, B, X₁.warmed, X', hpost, hstep₁ _ fun acts => by rw [doInvoke_state]; exact hsteps⟩
theorem vx_callS (X : Stand p l e R s m args below meth c T locs cells slots) (hexec : p.tables.exec = Jvm.exec) {own : String} {index : Nat} {y : MethodName} {bytes : ByteArray} {maxL : Nat} {ret : Option FieldType}
    (hown : s.vm.findClass own = some m.cls) (hlink : (Cond.methodLink own index y).before args s = true) (hstat : (Cond.static y).before args s = true) (hinit : (Cond.initialized y.cls).before args s = true)
    (hcode : (Cond.code y bytes maxL ret).before args s = true) (hy : y.cls ≠ "java/lang/invoke/MethodHandle" ∧ y.cls ≠ "java/lang/invoke/VarHandle")
    {W9 : Nat} {Pre : Pt → Array Value → Prop} {Post : Pt → Array Value → Option Value → Pt → Prop} {PostX : Pt → Array Value → Addr → Pt → Prop} (hK : vx_Back l R p e below s args y 3 W9 Pre Post PostX)
    {g : JFrame} (hg : g.method = m) (hsize : g.locals.size = c.maxLocals) {argsL rest : List Value} (hlen : ∀ sig, parseMethodDescriptor y.desc = some sig → argsL.length = sig.parameters.length)
    (hstack : g.stack = argsL.reverse ++ rest) (hW : 2 * g.monitorRoom + (rest.map fun v => v.category).sum ≤ W9) (hdg : decode c.code g.pc = .ok (.invokestatic index, 3))
    (hpre : ∀ vm₁, s.WarmedH vm₁ → Pre ⟨T.setVm vm₁, locs, cells, slots⟩ argsL.toArray) :
    (∃ (v : Option Value) (vm₁ : Vm) (B : Pt), s.WarmedH vm₁ ∧ Stand p l e R s m args below meth c B.U B.locs B.cells B.slots ∧ Post ⟨T.setVm vm₁, locs, cells, slots⟩ argsL.toArray v B ∧
      ∀ target, Steps p.tables e below (B.U.setTop { g with pc := g.pc + 3, stack := v.toList ++ rest }) target → Steps p.tables e below (T.setTop g) target) ∨
    (∃ (q : Addr) (vm₁ : Vm) (B : Pt), s.WarmedH vm₁ ∧ Stand p l e R s m args below meth c B.U B.locs B.cells B.slots ∧ PostX ⟨T.setVm vm₁, locs, cells, slots⟩ argsL.toArray q B ∧
      Steps p.tables e below (T.setTop g) ((B.U.setTop { g with stack := rest }).pushFrame (.throwing q))) := by
  obtain ⟨mk, hnamed⟩ := Cond.code_named hcode
  obtain ⟨methM, cM, hmethM, -, -, -, -, -, -, hsigM⟩ := Cond.code_spec hnamed hcode
  have hstatic : methM.isStatic = true := Cond.static_spec hnamed hmethM hstat
  obtain ⟨kP, hkP, -⟩ := className_of_methodNamed hnamed
  have hinitP : kP.init = .initialized := Cond.initialized_spec (findClass_of_methodNamed hnamed) hkP hinit
  obtain ⟨vm₁, X₁, hstep₁⟩ := X.invokestatic hexec hown hlink hnamed hmethM hstatic hkP hinitP hy (g := g) hg (argsL := argsL) (rest := rest) (hlen _ hsigM) hstack hdg
  rcases hK m meth c ⟨T.setVm vm₁, locs, cells, slots⟩ { g with stack := rest } (.invokestatic index) mk argsL.toArray X₁ hg hsize hdg hW (X₁.named hnamed) (hpre vm₁ X₁.warmed) with ⟨v, B, X', hpost, hsteps⟩ | ⟨q, B, X', hpost, hsteps⟩
  · exact Or.inl ⟨v, vm₁, B, X₁.warmed, X', hpost, fun target h => hstep₁ _ fun acts => by rw [doInvoke_state]; exact hsteps.trans h⟩
  · exact Or.inr ⟨q, vm₁, B, X₁.warmed, X', hpost, hstep₁ _ fun acts => by rw [doInvoke_state]; exact hsteps⟩
end Calls
theorem vx_cls {s : State} {T : State} {vm₁ : Vm} {E : String} {k : ClassId} (hW : s.WarmedH vm₁) (h : (T.setVm vm₁).vm.findClass E = some k) : s.vm.findClass E = some k := by
  have h1 : vm₁.findClass E = some k := h
  rw [hW.alike.findClass] at h1
  exact h1
/-- the method's frame g, with q thrown over it -/
def vx_W (p : Program) (l : Launch) (e : Env) (R : Room) (s : State) (m : MethodId) (args : Array Value) (below : List Frame) (meth : Method) (c : Code) (H : Heap) (locs : List Loc) (cells slots : Nat) (Q : State → Prop) (g : JFrame) (q : Addr) : Prop :=
  ∀ T : State, T.heap = H → Stand p l e R s m args below meth c T locs cells slots → ∃ t, Steps p.tables e below ((T.setTop g).pushFrame (.throwing q)) t ∧ Q t
def vx_Run (p : Program) (l : Launch) (e : Env) (R : Room) (s : State) (m : MethodId) (args : Array Value) (below : List Frame) (meth : Method) (c : Code) (H : Heap) (locs : List Loc) (cells slots mc ms : Nat) (g : JFrame) (rest : List Value) (Qa : State → Outcome → State → Prop) (XC : String → State → State → Prop) (free : Addr → Prop) : Prop :=
  ∀ T : State, T.heap = H → Stand p l e R s m args below meth c T locs cells slots →
    (∃ (v : Option Value) (st₀ t T' : State) (L : List Loc), st₀.heap = H ∧ Stand p l e R s m args below meth c T' (locs ++ L) (cells + mc) (slots + ms) ∧ (∀ q ∈ L, free q.base) ∧ T'.heap = t.heap ∧ T'.vm = t.vm ∧ Qa st₀ (.returned v) t ∧
      Goes p e below T g T' { g with pc := g.pc + 3, stack := v.toList ++ rest }) ∨
    (∃ (q : Addr) (st₀ t T' : State) (L : List Loc) (E : String) (ce : Cell), st₀.heap = H ∧ Stand p l e R s m args below meth c T' (locs ++ L) (cells + mc) (slots + ms) ∧ (∀ z ∈ L, free z.base) ∧ T'.heap = t.heap ∧ T'.vm = t.vm ∧ XC E st₀ t ∧ t.heap[q]? = some ce ∧ ce.vm = .none ∧ s.vm.findClass E = some ce.cls ∧
      Steps p.tables e below (T.setTop g) ((T'.setTop { g with stack := rest }).pushFrame (.throwing q)))
def vx_X {S : Type} (px : S → Prop) (B : String → S → State → Prop) (A : Nat → Prop) : String → State → State → Prop := fun E st t => ∃ u : S, px u ∧ B E u t ∧ va_F A st t
section Runs
variable {p : Program} {l : Launch} {e : Env} {R : Room} {s : State} {m : MethodId} {args : Array Value} {below : List Frame} {meth : Method} {c : Code} {H : Heap} {locs : List Loc} {cells slots : Nat}
variable {y : MethodName} {bytes cc : ByteArray} {maxL nL mc ms n index : Nat} {ret : Option FieldType} {ws : List Cond} {rm : Room} {Pc : Array Value → State → Prop} {Qc : Array Value → State → Outcome → State → Prop} {XC : String → State → State → Prop} {free : Addr → Prop} {Ts : List Cond} {own C : String} {b : Addr} {As rest : List Value} {g : JFrame}
theorem vx_callBack (cb : CallB R s args own index y bytes maxL ret ws rm mc ms n) (hM : vx_Met l y ws rm Pc Qc XC mc ms free) (hbl : FrameBlind Pc) : vx_Back l R p e below s args y 3 8 (PreOf R mc ms Pc) (PostOf Qc mc ms free) (vx_Post XC mc ms free) := by
  obtain ⟨hrc, hrs, hfr, hlo, hws, hcw, -, hini, -⟩ := cb
  exact vx_back (bytes := bytes) (maxL := maxL) (ret := ret) hM hbl hrc hrs hfr hlo hws hcw (fun a' U hW => word_at hW (Or.inl (by first | rfl | simp [Cond.onTables, Cond.keeps, Cond.steady])) hini)
theorem vx_runV (S : CallFix p m c cc nL s args Ts own) (hM : vx_Met l y ws rm Pc Qc XC mc ms free) (cw : CallW R s args own C index y bytes maxL ret ws rm mc ms n) (hp : PreV s H C b Pc As)
    (hg : g.method = m) (hn : As.length = n) (hsize : g.locals.size = nL) (hstack : g.stack = As.reverse ++ .ref b :: rest) (hW : 2 * g.monitorRoom + (rest.map fun v => v.category).sum ≤ 8) (hdg : decode cc g.pc = .ok (.invokevirtual index, 3)) (hf : cells + mc ≤ R.cells ∧ slots + ms ≤ R.slots) :
    vx_Run p l e R s m args below meth c H locs cells slots mc ms g rest (Qc (Value.ref b :: As).toArray) XC free := by
  have hK : vx_Back l R p e below s args y 3 8 (PreOf R mc ms Pc) (PostOf Qc mc ms free) (vx_Post XC mc ms free) := vx_callBack cw.1 hM hp.1
  obtain ⟨⟨-, -, -, -, -, -, hcode, -, hy, hlen, hl⟩, hin, hse⟩ := cw
  obtain ⟨hx, hb, hml, ho, -⟩ := S
  obtain ⟨-, ⟨cellB, hcB, hoB, hclB⟩, hPc⟩ := hp
  intro T hT X
  rcases vx_callV X hx (C := C) (bytes := bytes) (maxL := maxL) (ret := ret) ho hl hin hse hcode hy hK (by rw [hT]; exact hcB) hoB hclB hg (hsize.trans hml.symm) (argsL := As) (rest := rest) (fun sig h => hn.trans (hlen sig h)) hstack hW (by rw [hb]; exact hdg)
    (fun vm₁ hW₁ => ⟨hf.1, hf.2, hPc (T.setVm vm₁) hT hW₁⟩) with ⟨v, vm₁, ⟨U', l2, c2, s2⟩, hW₁, X', ⟨g', mk, t, L, e1, e2, hq, h1, hL, h2, h3⟩, st⟩ | ⟨q, vm₁, ⟨U', l2, c2, s2⟩, hW₁, X', ⟨g', mk, t, L, E, ce, e1, e2, hq, hce, hcv, hcl, h1, hL, h2, h3⟩, st⟩
  · dsimp only [Pt.U, Pt.locs, Pt.cells, Pt.slots] at X' e1 e2 h1 h2 h3 st
    subst h1; subst h2; subst h3
    exact Or.inl ⟨v, (T.setVm vm₁).calling g' mk (Value.ref b :: As).toArray, t, U', L, hT, X', hL, e1, e2, hq, st⟩
  · dsimp only [Pt.U, Pt.locs, Pt.cells, Pt.slots] at X' e1 e2 h1 h2 h3 st hcl
    subst h1; subst h2; subst h3
    exact Or.inr ⟨q, (T.setVm vm₁).calling g' mk (Value.ref b :: As).toArray, t, U', L, E, ce, hT, X', hL, e1, e2, hq, hce, hcv, vx_cls hW₁ hcl, st⟩
theorem vx_runS (S : CallFix p m c cc nL s args Ts own) (hM : vx_Met l y ws rm Pc Qc XC mc ms free) (cw : CallB R s args own index y bytes maxL ret ws rm mc ms n ∧ (Cond.static y).before args s = true) (hp : PreS s H Pc As)
    (hg : g.method = m) (hn : As.length = n) (hsize : g.locals.size = nL) (hstack : g.stack = As.reverse ++ rest) (hW : 2 * g.monitorRoom + (rest.map fun v => v.category).sum ≤ 8) (hdg : decode cc g.pc = .ok (.invokestatic index, 3)) (hf : cells + mc ≤ R.cells ∧ slots + ms ≤ R.slots) :
    vx_Run p l e R s m args below meth c H locs cells slots mc ms g rest (Qc As.toArray) XC free := by
  have hK : vx_Back l R p e below s args y 3 8 (PreOf R mc ms Pc) (PostOf Qc mc ms free) (vx_Post XC mc ms free) := vx_callBack cw.1 hM hp.1
  obtain ⟨⟨-, -, -, -, -, -, hcode, hini, hy, hlen, hl⟩, hstt⟩ := cw
  obtain ⟨hx, hb, hml, ho, -⟩ := S
  intro T hT X
  rcases vx_callS X hx (bytes := bytes) (maxL := maxL) (ret := ret) ho hl hstt hini hcode hy hK hg (hsize.trans hml.symm) (argsL := As) (rest := rest) (fun sig h => hn.trans (hlen sig h)) hstack hW (by rw [hb]; exact hdg)
    (fun vm₁ hW₁ => ⟨hf.1, hf.2, hp.2 (T.setVm vm₁) hT hW₁⟩) with ⟨v, vm₁, ⟨U', l2, c2, s2⟩, hW₁, X', ⟨g', mk, t, L, e1, e2, hq, h1, hL, h2, h3⟩, st⟩ | ⟨q, vm₁, ⟨U', l2, c2, s2⟩, hW₁, X', ⟨g', mk, t, L, E, ce, e1, e2, hq, hce, hcv, hcl, h1, hL, h2, h3⟩, st⟩
  · dsimp only [Pt.U, Pt.locs, Pt.cells, Pt.slots] at X' e1 e2 h1 h2 h3 st
    subst h1; subst h2; subst h3
    exact Or.inl ⟨v, (T.setVm vm₁).calling g' mk As.toArray, t, U', L, hT, X', hL, e1, e2, hq, st⟩
  · dsimp only [Pt.U, Pt.locs, Pt.cells, Pt.slots] at X' e1 e2 h1 h2 h3 st hcl
    subst h1; subst h2; subst h3
    exact Or.inr ⟨q, (T.setVm vm₁).calling g' mk As.toArray, t, U', L, E, ce, hT, X', hL, e1, e2, hq, hce, hcv, vx_cls hW₁ hcl, st⟩
end Runs
section Rows
variable {p : Program} {l : Launch} {e : Env} {R : Room} {s : State} {m : MethodId} {args : Array Value} {below : List Frame} {meth : Method} {c : Code} {H : Heap} {locs : List Loc} {cells slots : Nat} {Q : State → Prop}
variable {mc ms : Nat} {free : Addr → Prop} {A0 A1 : Nat → Prop} {H0 : Heap} {a : Array Value} {pc : Nat} {ls : Array Slot} {st0 rest : List Value}
theorem vx_keep {st₀ t T' : State} {L : List Loc} (h0 : st₀.heap = H) (e1 : T'.heap = t.heap) (hS : va_S A0 H0 H locs) (hA : ∀ q, q < H.size → A1 q → A0 q) (hf : ∀ q, free q → A0 q) (hL : ∀ q ∈ L, free q.base) (hF : va_F A1 st₀ t) :
    H.size ≤ T'.heap.size ∧ (∀ q : Nat, q < H.size → ¬ A1 q → T'.heap[q]? = H[q]?) ∧ va_S A0 H0 T'.heap (locs ++ L) := by
  obtain ⟨hz, hk⟩ := hF
  rw [h0] at hz hk
  exact ⟨by rw [e1]; exact hz, fun q h1 h2 => by rw [e1]; exact hk q h1 h2,
    ⟨Nat.le_trans hS.1 (by rw [e1]; exact hz), fun q h1 h2 => by rw [e1, hk q (Nat.lt_of_lt_of_le h1 hS.1) (fun z => h2 (hA q (Nat.lt_of_lt_of_le h1 hS.1) z))]; exact hS.2.1 q h1 h2, fun q hq => by
      rcases List.mem_append.mp hq with h | h
      · exact hS.2.2 q h
      · exact hf _ (hL q h)⟩⟩
theorem vx_calli {S SX : Type} {post : Int32 → S → Prop} {px : SX → Prop} {B : S → State → Prop} {BX : String → SX → State → Prop} {AX : Nat → Prop} (hr : vx_Run p l e R s m args below meth c H locs cells slots mc ms (F0 m pc ls st0) rest (va_Qi post B A1 a) (vx_X px BX AX) free) (hS : va_S A0 H0 H locs) (hA : ∀ q, q < H.size → A1 q → A0 q) (hf : ∀ q, free q → A0 q) (hAX : ∀ q, q < H.size → AX q → A0 q)
    (kx : ∀ (E : String) (ce : Cell) (q9 : Addr) (u : SX) (t : State) (H1 : Heap) (locs1 : List Loc), t.heap = H1 → s.vm.Alike t.vm → px u → BX E u t → H.size ≤ H1.size → (∀ q : Nat, q < H.size → ¬ AX q → H1[q]? = H[q]?) → va_S A0 H0 H1 locs1 → H1[q9]? = some ce → ce.vm = .none → s.vm.findClass E = some ce.cls → vx_W p l e R s m args below meth c H1 locs1 (cells + mc) (slots + ms) Q (F0 m pc ls rest) q9)
    (kk : ∀ (r : Int32) (u : S) (t : State) (H1 : Heap) (locs1 : List Loc), t.heap = H1 → s.vm.Alike t.vm → post r u → B u t → H.size ≤ H1.size → (∀ q : Nat, q < H.size → ¬ A1 q → H1[q]? = H[q]?) → va_S A0 H0 H1 locs1 → W p l e R s m args below meth c H1 locs1 (cells + mc) (slots + ms) Q (F0 m (pc + 3) ls (.int r :: rest))) : W p l e R s m args below meth c H locs cells slots Q (F0 m pc ls st0) := by
  intro T hT X
  rcases hr T hT X with ⟨v, st₀, t, T', L, h0, X', hL, e1, e2, ⟨⟨r, u, hv, hp, hb⟩, hF⟩, st⟩ | ⟨q, st₀, t, T', L, E, ce, h0, X', hL, e1, e2, ⟨u, hp, hb, hF⟩, hce, hcv, hcl, st⟩
  · cases hv
    obtain ⟨k1, k2, k3⟩ := vx_keep h0 e1 hS hA hf hL hF
    obtain ⟨t2, a1, b1⟩ := kk r u t T'.heap (locs ++ L) e1.symm (by rw [← e2]; exact X'.warmed.alike) hp hb k1 k2 k3 T' rfl X'
    exact ⟨t2, st t2 a1, b1⟩
  · obtain ⟨k1, k2, k3⟩ := vx_keep h0 e1 hS hAX hf hL hF
    obtain ⟨t2, a1, b1⟩ := kx E ce q u t T'.heap (locs ++ L) e1.symm (by rw [← e2]; exact X'.warmed.alike) hp hb k1 k2 k3 (by rw [e1]; exact hce) hcv hcl T' rfl X'
    exact ⟨t2, st.trans a1, b1⟩
theorem vx_calll {S SX : Type} {post : Int64 → S → Prop} {px : SX → Prop} {B : S → State → Prop} {BX : String → SX → State → Prop} {AX : Nat → Prop} (hr : vx_Run p l e R s m args below meth c H locs cells slots mc ms (F0 m pc ls st0) rest (va_Ql post B A1 a) (vx_X px BX AX) free) (hS : va_S A0 H0 H locs) (hA : ∀ q, q < H.size → A1 q → A0 q) (hf : ∀ q, free q → A0 q) (hAX : ∀ q, q < H.size → AX q → A0 q)
    (kx : ∀ (E : String) (ce : Cell) (q9 : Addr) (u : SX) (t : State) (H1 : Heap) (locs1 : List Loc), t.heap = H1 → s.vm.Alike t.vm → px u → BX E u t → H.size ≤ H1.size → (∀ q : Nat, q < H.size → ¬ AX q → H1[q]? = H[q]?) → va_S A0 H0 H1 locs1 → H1[q9]? = some ce → ce.vm = .none → s.vm.findClass E = some ce.cls → vx_W p l e R s m args below meth c H1 locs1 (cells + mc) (slots + ms) Q (F0 m pc ls rest) q9)
    (kk : ∀ (r : Int64) (u : S) (t : State) (H1 : Heap) (locs1 : List Loc), t.heap = H1 → s.vm.Alike t.vm → post r u → B u t → H.size ≤ H1.size → (∀ q : Nat, q < H.size → ¬ A1 q → H1[q]? = H[q]?) → va_S A0 H0 H1 locs1 → W p l e R s m args below meth c H1 locs1 (cells + mc) (slots + ms) Q (F0 m (pc + 3) ls (.long r :: rest))) : W p l e R s m args below meth c H locs cells slots Q (F0 m pc ls st0) := by
  intro T hT X
  rcases hr T hT X with ⟨v, st₀, t, T', L, h0, X', hL, e1, e2, ⟨⟨r, u, hv, hp, hb⟩, hF⟩, st⟩ | ⟨q, st₀, t, T', L, E, ce, h0, X', hL, e1, e2, ⟨u, hp, hb, hF⟩, hce, hcv, hcl, st⟩
  · cases hv
    obtain ⟨k1, k2, k3⟩ := vx_keep h0 e1 hS hA hf hL hF
    obtain ⟨t2, a1, b1⟩ := kk r u t T'.heap (locs ++ L) e1.symm (by rw [← e2]; exact X'.warmed.alike) hp hb k1 k2 k3 T' rfl X'
    exact ⟨t2, st t2 a1, b1⟩
  · obtain ⟨k1, k2, k3⟩ := vx_keep h0 e1 hS hAX hf hL hF
    obtain ⟨t2, a1, b1⟩ := kx E ce q u t T'.heap (locs ++ L) e1.symm (by rw [← e2]; exact X'.warmed.alike) hp hb k1 k2 k3 (by rw [e1]; exact hce) hcv hcl T' rfl X'
    exact ⟨t2, st.trans a1, b1⟩
theorem vx_callf {S SX : Type} {post : UInt32 → S → Prop} {px : SX → Prop} {B : S → State → Prop} {BX : String → SX → State → Prop} {AX : Nat → Prop} (hr : vx_Run p l e R s m args below meth c H locs cells slots mc ms (F0 m pc ls st0) rest (va_Qf post B A1 a) (vx_X px BX AX) free) (hS : va_S A0 H0 H locs) (hA : ∀ q, q < H.size → A1 q → A0 q) (hf : ∀ q, free q → A0 q) (hAX : ∀ q, q < H.size → AX q → A0 q)
    (kx : ∀ (E : String) (ce : Cell) (q9 : Addr) (u : SX) (t : State) (H1 : Heap) (locs1 : List Loc), t.heap = H1 → s.vm.Alike t.vm → px u → BX E u t → H.size ≤ H1.size → (∀ q : Nat, q < H.size → ¬ AX q → H1[q]? = H[q]?) → va_S A0 H0 H1 locs1 → H1[q9]? = some ce → ce.vm = .none → s.vm.findClass E = some ce.cls → vx_W p l e R s m args below meth c H1 locs1 (cells + mc) (slots + ms) Q (F0 m pc ls rest) q9)
    (kk : ∀ (r : UInt32) (u : S) (t : State) (H1 : Heap) (locs1 : List Loc), t.heap = H1 → s.vm.Alike t.vm → post r u → B u t → H.size ≤ H1.size → (∀ q : Nat, q < H.size → ¬ A1 q → H1[q]? = H[q]?) → va_S A0 H0 H1 locs1 → W p l e R s m args below meth c H1 locs1 (cells + mc) (slots + ms) Q (F0 m (pc + 3) ls (.float r :: rest))) : W p l e R s m args below meth c H locs cells slots Q (F0 m pc ls st0) := by
  intro T hT X
  rcases hr T hT X with ⟨v, st₀, t, T', L, h0, X', hL, e1, e2, ⟨⟨r, u, hv, hp, hb⟩, hF⟩, st⟩ | ⟨q, st₀, t, T', L, E, ce, h0, X', hL, e1, e2, ⟨u, hp, hb, hF⟩, hce, hcv, hcl, st⟩
  · cases hv
    obtain ⟨k1, k2, k3⟩ := vx_keep h0 e1 hS hA hf hL hF
    obtain ⟨t2, a1, b1⟩ := kk r u t T'.heap (locs ++ L) e1.symm (by rw [← e2]; exact X'.warmed.alike) hp hb k1 k2 k3 T' rfl X'
    exact ⟨t2, st t2 a1, b1⟩
  · obtain ⟨k1, k2, k3⟩ := vx_keep h0 e1 hS hAX hf hL hF
    obtain ⟨t2, a1, b1⟩ := kx E ce q u t T'.heap (locs ++ L) e1.symm (by rw [← e2]; exact X'.warmed.alike) hp hb k1 k2 k3 (by rw [e1]; exact hce) hcv hcl T' rfl X'
    exact ⟨t2, st.trans a1, b1⟩
theorem vx_calld {S SX : Type} {post : UInt64 → S → Prop} {px : SX → Prop} {B : S → State → Prop} {BX : String → SX → State → Prop} {AX : Nat → Prop} (hr : vx_Run p l e R s m args below meth c H locs cells slots mc ms (F0 m pc ls st0) rest (va_Qd post B A1 a) (vx_X px BX AX) free) (hS : va_S A0 H0 H locs) (hA : ∀ q, q < H.size → A1 q → A0 q) (hf : ∀ q, free q → A0 q) (hAX : ∀ q, q < H.size → AX q → A0 q)
    (kx : ∀ (E : String) (ce : Cell) (q9 : Addr) (u : SX) (t : State) (H1 : Heap) (locs1 : List Loc), t.heap = H1 → s.vm.Alike t.vm → px u → BX E u t → H.size ≤ H1.size → (∀ q : Nat, q < H.size → ¬ AX q → H1[q]? = H[q]?) → va_S A0 H0 H1 locs1 → H1[q9]? = some ce → ce.vm = .none → s.vm.findClass E = some ce.cls → vx_W p l e R s m args below meth c H1 locs1 (cells + mc) (slots + ms) Q (F0 m pc ls rest) q9)
    (kk : ∀ (r : UInt64) (u : S) (t : State) (H1 : Heap) (locs1 : List Loc), t.heap = H1 → s.vm.Alike t.vm → post r u → B u t → H.size ≤ H1.size → (∀ q : Nat, q < H.size → ¬ A1 q → H1[q]? = H[q]?) → va_S A0 H0 H1 locs1 → W p l e R s m args below meth c H1 locs1 (cells + mc) (slots + ms) Q (F0 m (pc + 3) ls (.double r :: rest))) : W p l e R s m args below meth c H locs cells slots Q (F0 m pc ls st0) := by
  intro T hT X
  rcases hr T hT X with ⟨v, st₀, t, T', L, h0, X', hL, e1, e2, ⟨⟨r, u, hv, hp, hb⟩, hF⟩, st⟩ | ⟨q, st₀, t, T', L, E, ce, h0, X', hL, e1, e2, ⟨u, hp, hb, hF⟩, hce, hcv, hcl, st⟩
  · cases hv
    obtain ⟨k1, k2, k3⟩ := vx_keep h0 e1 hS hA hf hL hF
    obtain ⟨t2, a1, b1⟩ := kk r u t T'.heap (locs ++ L) e1.symm (by rw [← e2]; exact X'.warmed.alike) hp hb k1 k2 k3 T' rfl X'
    exact ⟨t2, st t2 a1, b1⟩
  · obtain ⟨k1, k2, k3⟩ := vx_keep h0 e1 hS hAX hf hL hF
    obtain ⟨t2, a1, b1⟩ := kx E ce q u t T'.heap (locs ++ L) e1.symm (by rw [← e2]; exact X'.warmed.alike) hp hb k1 k2 k3 (by rw [e1]; exact hce) hcv hcl T' rfl X'
    exact ⟨t2, st.trans a1, b1⟩
theorem vx_callv {S SX : Type} {post : S → Prop} {px : SX → Prop} {B : S → State → Prop} {BX : String → SX → State → Prop} {AX : Nat → Prop} (hr : vx_Run p l e R s m args below meth c H locs cells slots mc ms (F0 m pc ls st0) rest (va_Qv post B A1 a) (vx_X px BX AX) free) (hS : va_S A0 H0 H locs) (hA : ∀ q, q < H.size → A1 q → A0 q) (hf : ∀ q, free q → A0 q) (hAX : ∀ q, q < H.size → AX q → A0 q)
    (kx : ∀ (E : String) (ce : Cell) (q9 : Addr) (u : SX) (t : State) (H1 : Heap) (locs1 : List Loc), t.heap = H1 → s.vm.Alike t.vm → px u → BX E u t → H.size ≤ H1.size → (∀ q : Nat, q < H.size → ¬ AX q → H1[q]? = H[q]?) → va_S A0 H0 H1 locs1 → H1[q9]? = some ce → ce.vm = .none → s.vm.findClass E = some ce.cls → vx_W p l e R s m args below meth c H1 locs1 (cells + mc) (slots + ms) Q (F0 m pc ls rest) q9)
    (kk : ∀ (u : S) (t : State) (H1 : Heap) (locs1 : List Loc), t.heap = H1 → s.vm.Alike t.vm → post u → B u t → H.size ≤ H1.size → (∀ q : Nat, q < H.size → ¬ A1 q → H1[q]? = H[q]?) → va_S A0 H0 H1 locs1 → W p l e R s m args below meth c H1 locs1 (cells + mc) (slots + ms) Q (F0 m (pc + 3) ls (rest))) : W p l e R s m args below meth c H locs cells slots Q (F0 m pc ls st0) := by
  intro T hT X
  rcases hr T hT X with ⟨v, st₀, t, T', L, h0, X', hL, e1, e2, ⟨⟨u, hv, hp, hb⟩, hF⟩, st⟩ | ⟨q, st₀, t, T', L, E, ce, h0, X', hL, e1, e2, ⟨u, hp, hb, hF⟩, hce, hcv, hcl, st⟩
  · cases hv
    obtain ⟨k1, k2, k3⟩ := vx_keep h0 e1 hS hA hf hL hF
    obtain ⟨t2, a1, b1⟩ := kk u t T'.heap (locs ++ L) e1.symm (by rw [← e2]; exact X'.warmed.alike) hp hb k1 k2 k3 T' rfl X'
    exact ⟨t2, st t2 a1, b1⟩
  · obtain ⟨k1, k2, k3⟩ := vx_keep h0 e1 hS hAX hf hL hF
    obtain ⟨t2, a1, b1⟩ := kx E ce q u t T'.heap (locs ++ L) e1.symm (by rw [← e2]; exact X'.warmed.alike) hp hb k1 k2 k3 (by rw [e1]; exact hce) hcv hcl T' rfl X'
    exact ⟨t2, st.trans a1, b1⟩
/-- caught by the row x of this method's table; the rows ahead don't take it -/
theorem vx_catch {own name : String} {E : String} {ce : Cell} {q : Addr} (hown : s.vm.findClass own = some m.cls) (pre : List ExceptionTableEntry) (x : ExceptionTableEntry) (suf : List ExceptionTableEntry) (hsplit : c.exceptionTable.toList = pre ++ x :: suf)
    (hpass : ∀ z ∈ pre, covers z pc = false ∨ (z.catchType ≠ 0 ∧ ∃ nm : String, (Cond.classLink own z.catchType nm).before args s = true ∧ va_Nc E nm s)) (hx : covers x pc = true) (h0 : x.catchType ≠ 0)
    (hlink : (Cond.classLink own x.catchType name).before args s = true) (hcast : (Cond.castable E name).before args s = true) (hcell : H[q]? = some ce) (hv : ce.vm = .none) (hcl : s.vm.findClass E = some ce.cls)
    (kk : W p l e R s m args below meth c H locs cells slots Q (F0 m x.handlerPc ls [.ref q])) : vx_W p l e R s m args below meth c H locs cells slots Q (F0 m pc ls rest) q := by
  intro T hT X
  have hpl : e.platform.magicAccessors = ({} : Platform).magicAccessors := by rw [X.admits.platform]
  obtain ⟨c3, c4, hc3, hc4, hasg⟩ := Cond.castable_spec hcast
  cases Option.some.inj (hc3.symm.trans hcl)
  obtain ⟨c5, hc5, hcl5⟩ := Cond.classLink_spec hown hlink e.platform hpl
  cases Option.some.inj (hc4.symm.trans hc5)
  obtain ⟨vm', X', st⟩ := X.thenCaughtThrough q (g := F0 m pc ls rest) rfl (Steps.refl _) (by rw [hT]; exact hcell) (by rw [hv]; rfl) (by obtain ⟨k9, h9, -⟩ := Vm.findClass_spec hcl; exact ⟨k9, h9⟩) pre x suf hsplit
    (fun z hz => by
      rcases hpass z hz with h | ⟨hz0, nm, hl1, hn1⟩
      · exact Or.inl h
      · obtain ⟨c6, hc6, hcl6⟩ := Cond.classLink_spec hown hl1 e.platform hpl
        obtain ⟨a8, b8, h1, h2, h3⟩ := hn1
        cases Option.some.inj (h1.symm.trans hcl)
        cases Option.some.inj (h2.symm.trans hc6)
        exact Or.inr ⟨hz0, _, hcl6, h3⟩) hx (Or.inr ⟨h0, c4, hcl5, hasg⟩)
  obtain ⟨t, a1, b1⟩ := kk (T.setVm vm') hT X'
  exact ⟨t, st.trans a1, b1⟩
end Rows
section Ends
variable {p : Program} {l : Launch} {e : Env} {R : Room} {s : State} {m : MethodId} {args : Array Value} {below : List Frame} {meth : Method} {c : Code} {H : Heap} {locs : List Loc} {cells slots : Nat} {Q : State → Prop}
variable {mc ms : Nat} {free : Addr → Prop} {A0 A1 : Nat → Prop} {H0 : Heap} {a : Array Value} {ls : Array Slot} {st0 rest : List Value}
variable {Qc : Array Value → State → Outcome → State → Prop} {XC : String → State → State → Prop}
/-- what a body that may throw owes at its end -/
def vx_MQ (below : List Frame) (Qc : Array Value → State → Outcome → State → Prop) (XC : String → State → State → Prop) (a : Array Value) (s : State) (mc ms : Nat) (free : Addr → Prop) : State → Prop := fun t =>
  ∃ o, t.status = .running ∧ Ended t below o ∧ vx_Q Qc XC mc ms free a s o t
theorem vx_ret {g : JFrame} {mc ms : Nat} (k : W p l e R s m args below meth c H locs cells slots (MQ below Qc args s mc ms free) g) : W p l e R s m args below meth c H locs cells slots (vx_MQ below Qc XC args s mc ms free) g := by
  intro T hT X
  obtain ⟨t, a1, o, b1, b2, b3, b4⟩ := k T hT X
  exact ⟨t, a1, o, b1, b2, Or.inl ⟨b3, b4⟩⟩
/-- not caught here: it goes on to the caller -/
theorem vx_widen {g : JFrame} {q : Addr} {k n : Nat} (h1 : cells ≤ k) (h2 : slots ≤ n) (kk : vx_W p l e R s m args below meth c H locs k n Q g q) : vx_W p l e R s m args below meth c H locs cells slots Q g q := fun T hT X => kk T hT (stand_widen X h1 h2)
theorem vx_out {pc : Nat} {E : String} {ce : Cell} {q : Addr} {mc ms : Nat} (hout : ∀ x ∈ c.exceptionTable.toList, covers x pc = false) (hlocks : meth.locks = false) (hcell : H[q]? = some ce) (hv : ce.vm = .none) (hcl : s.vm.findClass E = some ce.cls)
    (hx : ∀ t : State, t.heap = H → s.vm.Alike t.vm → XC E s t) (hf : ∀ z ∈ locs, free z.base) (hc : cells ≤ mc) (hs : slots ≤ ms) :
    vx_W p l e R s m args below meth c H locs cells slots (vx_MQ below Qc XC args s mc ms free) (F0 m pc ls rest) q := by
  intro T hT X
  obtain ⟨st1, hrun, hend, hW, hsm⟩ := X.leaveThrown q (g := F0 m pc ls rest) rfl rfl rfl hout hlocks
  have hcell9 : (T.setFrames (.throwing q :: below)).heap[q]? = some ce := by
    show T.heap[q]? = some ce
    rw [hT]; exact hcell
  exact ⟨_, st1, .threw q, hrun, hend, Or.inr ⟨q, rfl, E, ce, locs, hx _ hT hW.alike, hcell9, hv, hcl, hW, hsm.mono hc hs, hf⟩⟩
theorem vx_frame {U : State} {k n : Nat} (h : s.sameButNew ({ U with vm := s.vm } : State) locs k n) : s.heap.size ≤ U.heap.size ∧ ∀ q : Nat, q < s.heap.size → (∀ z ∈ locs, z.base ≠ q) → U.heap[q]? = s.heap[q]? := by
  obtain ⟨-, h2, -, -, -, h6⟩ := h
  refine ⟨h2, fun q hq hz => ?_⟩
  obtain ⟨c9, e1, e2, e3, e4⟩ := h6 q _ (Array.getElem?_eq_getElem hq)
  have hs : c9.slots = (s.heap[q]).slots := Array.ext_getElem? fun i => e4 i fun hm => hz _ hm rfl
  have h9 : c9 = s.heap[q] := by
    rw [hs] at e2
    exact e2
  have e5 : U.heap[q]? = some c9 := e1
  rw [e5, h9, Array.getElem?_eq_getElem hq]
/-- the words of a throw but the four that speak of the heap -/
def vx_no (w : Cond) : Bool := decide (w ≠ .isRef (.static Bundle.tN "UNASSIGNED_STACK" Bundle.steD)) && decide (w ≠ .isRef (.static Bundle.tN "SUPPRESSED_SENTINEL" Bundle.listD)) && decide (w ≠ .laysStatic Bundle.tN "UNASSIGNED_STACK" Bundle.steD) && decide (w ≠ .laysStatic Bundle.tN "SUPPRESSED_SENTINEL" Bundle.listD)
def vx_at0 (own : String) (ic : Nat) (X : String) (names : List String) : List Cond := (Bundle.ownAtoms0 own ic X names).filter vx_no
def vx_atS (own : String) (ic : Nat) (X : String) (names : List String) : List Cond := (Bundle.ownAtoms own ic X names).filter vx_no
/-- a word that the tables alone decide, or a good one -/
def vx_ot (w : Cond) : Bool := w.onTables || goodWord w
theorem vx_ot_at {args a' : Array Value} {s U : State} {w : Cond} (hW : s.WarmedH U.vm) (hvm : s.vm = U.vm) (hg : vx_ot w = true) (h : w.before args s = true) : w.before a' U = true := by
  simp only [vx_ot, Bool.or_eq_true] at hg
  rcases hg with hg | hg
  · exact va_tabs hg hvm h
  · exact word_at hW (good_of_word hg) h
/-- a list's words: the good ones out of the method's own list, the others by premises of their own -/
theorem vx_hat {args : Array Value} {s : State} {L B : List Cond} (h1 : ∀ w ∈ L.filter goodWord, w.before args s = true) (h2 : ∀ w ∈ L.filter (fun w => !goodWord w), w ∈ B) (h3 : ∀ w ∈ B, w.before args s = true) : ∀ w ∈ L, w.before args s = true := by
  intro w hw
  by_cases g : goodWord w = true
  · exact h1 w (List.mem_filter.mpr ⟨hw, g⟩)
  · refine h3 w (h2 w (List.mem_filter.mpr ⟨hw, ?_⟩))
    show (!goodWord w) = true
    cases hgw : goodWord w
    · rfl
    · exact absurd hgw g
theorem vx_c {args : Array Value} {s : State} {w : Cond} {B : List Cond} (h : w.before args s = true) (t : ∀ w ∈ B, w.before args s = true) : ∀ w' ∈ w :: B, w'.before args s = true := fun w' h' => (List.mem_cons.mp h').elim (fun e => by rw [e]; exact h) (t w')
theorem vx_n {args : Array Value} {s : State} : ∀ w ∈ ([] : List Cond), w.before args s = true := fun _ h => nomatch h
theorem vx_own {args : Array Value} {s : State} {L : List Cond} (h1 : ∀ w ∈ L.filter vx_no, w.before args s = true)
    (hU : (Cond.isRef (.static Bundle.tN "UNASSIGNED_STACK" Bundle.steD)).before args s = true) (hN : (Cond.isRef (.static Bundle.tN "SUPPRESSED_SENTINEL" Bundle.listD)).before args s = true)
    (lU : (Cond.laysStatic Bundle.tN "UNASSIGNED_STACK" Bundle.steD).before args s = true) (lN : (Cond.laysStatic Bundle.tN "SUPPRESSED_SENTINEL" Bundle.listD).before args s = true) : ∀ w ∈ L, w.before args s = true := by
  intro w hw
  by_cases e1 : w = .isRef (.static Bundle.tN "UNASSIGNED_STACK" Bundle.steD)
  · rw [e1]; exact hU
  · by_cases e2 : w = .isRef (.static Bundle.tN "SUPPRESSED_SENTINEL" Bundle.listD)
    · rw [e2]; exact hN
    · by_cases e3 : w = .laysStatic Bundle.tN "UNASSIGNED_STACK" Bundle.steD
      · rw [e3]; exact lU
      · by_cases e4 : w = .laysStatic Bundle.tN "SUPPRESSED_SENTINEL" Bundle.listD
        · rw [e4]; exact lN
        · exact h1 w (List.mem_filter.mpr ⟨hw, by unfold vx_no; rw [decide_eq_true e1, decide_eq_true e2, decide_eq_true e3, decide_eq_true e4]; rfl⟩)
/-- where a static field lies, its class's statics cell in H -/
def vx_L (C n d : String) (A : Nat → Prop) (U : State) (H : Heap) : Prop := ∃ (c : ClassId) (k : Class) (i : Nat) (f : Field) (a : Nat) (cell : Cell), U.vm.findClass C = some c ∧ U.fieldFound? C n d = some (c, k, i, f) ∧ f.isStatic = true ∧ k.statics = some a ∧ H[a]? = some cell ∧ cell.vm.isStatics = true ∧ cell.cls = c ∧ f.slot < cell.slots.size ∧ k.staticTypes[f.slot]? = some f.type ∧ ¬ A a
theorem vx_L.moved {C n d : String} {A : Nat → Prop} {u U : State} {H : Heap} (hvm : u.vm.Alike U.vm) (h : vx_L C n d A u H) : vx_L C n d A U H := by
  obtain ⟨c, k, i, f, a, cell, h1, h2, h3, h4, h5, h6, h7, h8, h9, h10⟩ := h
  obtain ⟨k', hi', he⟩ := State.fieldFound?_setVm hvm h2
  exact ⟨c, k', i, f, a, cell, by rw [hvm.findClass]; exact h1, hi', h3, by rw [he]; exact h4, h5, h6, h7, h8, by rw [he]; exact h9, h10⟩
theorem vx_L.kept {C n d : String} {A : Nat → Prop} {U : State} {H H1 : Heap} (h : vx_L C n d A U H) (hq : ∀ a : Nat, a < H.size → ¬ A a → H1[a]? = H[a]?) : vx_L C n d A U H1 := by
  obtain ⟨c, k, i, f, a, cell, h1, h2, h3, h4, h5, h6, h7, h8, h9, h10⟩ := h
  exact ⟨c, k, i, f, a, cell, h1, h2, h3, h4, by rw [hq a (Array.getElem?_eq_some_iff.mp h5).1 h10]; exact h5, h6, h7, h8, h9, h10⟩
theorem vx_L.narrow {C n d : String} {A B : Nat → Prop} {U : State} {H : Heap} (h : vx_L C n d A U H) (hAB : ∀ q, B q → A q) : vx_L C n d B U H := by
  obtain ⟨c, k, i, f, a, cell, h1, h2, h3, h4, h5, h6, h7, h8, h9, h10⟩ := h
  exact ⟨c, k, i, f, a, cell, h1, h2, h3, h4, h5, h6, h7, h8, h9, fun z => h10 (hAB _ z)⟩
theorem vx_L.word {C n d : String} {A : Nat → Prop} {s : State} {args : Array Value} (h : vx_L C n d A s s.heap) : (Cond.laysStatic C n d).before args s = true := by
  obtain ⟨c, k, i, f, a, cell, h1, h2, h3, h4, h5, h6, h7, h8, h9, -⟩ := h
  show (Cond.laysStatic C n d).holds args s none s [] = true
  exact Cond.laysStatic_of h1 h2 h3 h4 h5 h6 h7 h8 h9
/-- .. and what it holds: null or some reference -/
def vx_Zq (C n d : String) (A : Nat → Prop) (U : State) (H : Heap) : Prop := va_Zq C n d A U H ∧ vx_L C n d A U H
theorem vx_Zq.moved {C n d : String} {A : Nat → Prop} {u U : State} {H : Heap} (hvm : u.vm.Alike U.vm) (h : vx_Zq C n d A u H) : vx_Zq C n d A U H := ⟨va_Zq.moved hvm h.1, vx_L.moved hvm h.2⟩
theorem vx_Zq.kept {C n d : String} {A : Nat → Prop} {U : State} {H H1 : Heap} (h : vx_Zq C n d A U H) (hq : ∀ a : Nat, a < H.size → ¬ A a → H1[a]? = H[a]?) : vx_Zq C n d A U H1 := ⟨va_Zq.kept h.1 hq, vx_L.kept h.2 hq⟩
theorem vx_Zq.narrow {C n d : String} {A B : Nat → Prop} {U : State} {H : Heap} (h : vx_Zq C n d A U H) (hAB : ∀ q, B q → A q) : vx_Zq C n d B U H := ⟨va_Zq.narrow h.1 hAB, vx_L.narrow h.2 hAB⟩
theorem vx_Zqof {args : Array Value} {s : State} {C n d : String} {A : Nat → Prop} (hl : (Cond.laysStatic C n d).before args s = true) (hini : (Cond.initialized C).before args s = true) (h : (Cond.isRef (.static C n d)).before args s = true) (hA : ∀ a : Nat, a < s.heap.size → ¬ A a) : vx_Zq C n d A s s.heap := by
  refine ⟨va_Zqof hl hini h hA, ?_⟩
  obtain ⟨c, k, i, f, a, cell, h1, h2, h3, h4, h5, h6, h7, h8, h9⟩ := Cond.laysStatic_spec hl
  exact ⟨c, k, i, f, a, cell, h1, h2, h3, h4, h5, h6, h7, h8, h9, hA a (Array.getElem?_eq_some_iff.mp h5).1⟩
theorem vx_isRef {C n d : String} {v : Value} {A : Nat → Prop} {s : State} {args : Array Value} (h : va_Z C n d v A s s.heap) (hv : v.isRef = true) : (Cond.isRef (.static C n d)).before args s = true := by
  obtain ⟨cf, kf, fi, f, a, cell, h1, h2, h3, h4, h5, h6, h7, -⟩ := h
  have he : (Term.static C n d).eval args s none [] s = some v := by
    simp [Term.eval, State.fieldNamed?, h1, h2, h4, h5, h6, h7]
  simp only [Cond.before, Cond.holds, Cond.value, he]
  cases v <;> simp_all [Value.isRef]
theorem vx_isRefq {C n d : String} {A : Nat → Prop} {s : State} {args : Array Value} (h : va_Zq C n d A s s.heap) : (Cond.isRef (.static C n d)).before args s = true := by
  rcases h with h | ⟨t, h⟩
  · exact vx_isRef h rfl
  · exact vx_isRef h rfl
/-- the same frame, seen from here: as if the method were called anew in this heap -/
theorem vx_rebase {T : State} (X : Stand p l e R s m args below meth c T locs cells slots) {R' : Room} (hf : R'.frames ≤ R.frames) (hl : R'.locals ≤ R.locals) (hc : cells + R'.cells ≤ R.cells) (hs : slots + R'.slots ≤ R.slots) :
    Stand p l e R' ((T.setVm s.vm).setFrames (.invoking m args :: below)) m args below meth c T [] 0 0 := by
  have htop : (T.setVm s.vm).topJava?.isSome := X.here.top
  have hF : ((T.setVm s.vm).setFrames (.invoking m args :: below)).frames = .invoking m args :: below := State.frames_setFrames _ (State.cur_lt_of_top htop)
  obtain ⟨g₀, hg0⟩ := Option.isSome_iff_exists.mp htop
  obtain ⟨r, hr⟩ := State.topJava?_eq_some.mp hg0
  have hl9 : e.platform.stackLimits (T.setVm s.vm).me = e.platform.stackLimits s.me := X.limits
  have hb9 : (T.setVm s.vm).me.stackBytes = s.me.stackBytes := X.bytes
  refine ⟨X.admits, X.cas, X.clock, hF, ?_, X.hears, X.method, X.code, X.here, X.tail, X.warmed, ?_, ?_, ?_⟩
  · have h := X.room
    have hU : ((T.setVm s.vm).setFrames (.invoking m args :: below)).localsInUse = s.localsInUse := by
      rw [State.localsInUse_invoking hF (meth := meth) (c := c) X.method X.code, State.localsInUse_invoking X.frames X.method X.code]
    simp only [State.hasRoom, Bool.and_eq_true, decide_eq_true_eq] at h ⊢
    obtain ⟨⟨⟨⟨h1, h2, h3, h4, h5, h6⟩, h7⟩, h8⟩, h9⟩ := h
    rw [X.frames, List.length_cons] at h2 h3
    have q1 := X.heapSize
    have q2 := X.used
    simp only [hF, hU, List.length_cons, State.stackLimits_setFrames, State.stackBytes_setFrames, hl9, hb9]
    refine ⟨⟨⟨⟨by omega, by omega, by omega, by omega, by omega, h6⟩, ?_⟩, ?_⟩, X.book⟩
    · show T.heap.size + R'.cells ≤ e.platform.maxCells
      omega
    · show T.slotsUsed + R'.slots ≤ e.platform.maxSlots
      omega
  · rw [State.stackLimits_setFrames]; rfl
  · rw [State.stackBytes_setFrames]; rfl
  · refine ⟨?_, Nat.le_refl _, Nat.le_refl _, ?_, ?_, fun a c9 h9 => ⟨c9, h9, rfl, rfl, fun _ _ => rfl⟩⟩
    · obtain ⟨t, ht, -⟩ := State.frames_cons hr
      show T.setVm s.vm = { ((T.setVm s.vm).setFrames (.invoking m args :: below)).setFrames (T.setVm s.vm).frames with heap := T.heap, slotsUsed := T.slotsUsed }
      rw [State.setFrames_setFrames, State.setFrames_self ht]
      rfl
    · show T.slotsUsed = T.slotsUsed + ((T.heap.toList.drop T.heap.size).map (·.slots.size)).sum
      rw [List.drop_eq_nil_of_le (Nat.le_of_eq Array.length_toList)]
      rfl
    · show ((T.heap.toList.drop T.heap.size).map (·.slots.size)).sum ≤ 0
      rw [List.drop_eq_nil_of_le (Nat.le_of_eq Array.length_toList)]
      exact Nat.le_refl _
/-- 'throw new E()': new; dup; invokespecial; athrow -/
theorem vx_throw0 {cc : ByteArray} {pc : Nat} (hexec : p.tables.exec = Jvm.exec) (hb : c.code = cc) (hl : l.stackTraces = false) {own cls : String} {names : List String} {ik ic mc ms : Nat} {A : Nat → Prop}
    (hown : s.vm.findClass own = some m.cls) (hcls : Bundle.fit cls = true) (hnames : ∀ n ∈ names, Bundle.fit n = true)
    (hk : (Cond.classLink own ik cls).before args s = true) (hini : (Cond.initialized cls).before args s = true) (hat : ∀ w ∈ vx_at0 own ic cls names, w.before args s = true)
    (hgood : ∀ w ∈ Cond.classLink own ik cls :: Cond.initialized cls :: vx_at0 own ic cls names, vx_ot w = true)
    (hU : vx_Zq Bundle.tN "UNASSIGNED_STACK" Bundle.steD A s s.heap) (hN : vx_Zq Bundle.tN "SUPPRESSED_SENTINEL" Bundle.listD A s s.heap) (hS : va_S A s.heap H locs) (hsize : ls.size = c.maxLocals)
    (d0 : decode cc pc = .ok (.new ik, 3)) (d3 : decode cc (pc + 3) = .ok (.dup, 1)) (d4 : decode cc (pc + 4) = .ok (.invokespecial ic, 3)) (d7 : decode cc (pc + 7) = .ok (.athrow, 1))
    (hout : ∀ x ∈ c.exceptionTable.toList, covers x (pc + 7) = false)
    (hRframes : names.length + 3 < R.frames) (hRlocals : (rest.map fun v => v.category).sum + (13 * (names.length + 1) + 42) ≤ R.locals) (hRcells : cells + 1 ≤ R.cells) (hRslots : slots + 6 ≤ R.slots) (hlocks : meth.locks = false)
    (hx : ∀ t : State, s.vm.Alike t.vm → H.size ≤ t.heap.size → (∀ q : Nat, q < H.size → t.heap[q]? = H[q]?) → XC cls s t)
    (hf : ∀ z ∈ locs, free z.base) (hc : cells + 1 ≤ mc) (hs : slots + 6 ≤ ms) :
    W p l e R s m args below meth c H locs cells slots (vx_MQ below Qc XC args s mc ms free) (F0 m pc ls rest) := by
  intro T hT X
  have htr : e.platform.stackTraces = false := (show e.platform.stackTraces = l.stackTraces by rw [X.admits.platform]).trans hl
  have Y := vx_rebase X (R' := { frames := R.frames, locals := R.locals, cells := 1, slots := 6 }) (Nat.le_refl _) (Nat.le_refl _) hRcells hRslots
  obtain ⟨s', hA⟩ : ∃ z, z = (T.setVm s.vm).setFrames (.invoking m args :: below) := ⟨_, rfl⟩
  rw [← hA] at Y
  have hvm : s'.vm = s.vm := by rw [hA]; rfl
  have hhp : s'.heap = H := by rw [hA]; exact hT
  have hW0 : s.WarmedH s'.vm := by rw [hvm]; exact State.WarmedH.refl s
  have hat' : ∀ w ∈ vx_at0 own ic cls names, w.before args s' = true := fun w hw => vx_ot_at hW0 hvm.symm (hgood w (List.mem_cons_of_mem _ (List.mem_cons_of_mem _ hw))) (hat w hw)
  have hk' : (Cond.classLink own ik cls).before args s' = true := vx_ot_at hW0 hvm.symm (hgood _ List.mem_cons_self) hk
  have hini' : (Cond.initialized cls).before args s' = true := vx_ot_at hW0 hvm.symm (hgood _ (List.mem_cons_of_mem _ List.mem_cons_self)) hini
  have hU' : vx_Zq Bundle.tN "UNASSIGNED_STACK" Bundle.steD A s' s'.heap := by rw [hhp]; exact vx_Zq.moved hW0.alike (hU.kept hS.2.1)
  have hN' : vx_Zq Bundle.tN "SUPPRESSED_SENTINEL" Bundle.listD A s' s'.heap := by rw [hhp]; exact vx_Zq.moved hW0.alike (hN.kept hS.2.1)
  have h : ∀ w ∈ Bundle.ownAtoms0 own ic cls names, w.before args s' = true := vx_own hat' (vx_isRefq hU'.1) (vx_isRefq hN'.1) hU'.2.word hN'.2.word
  have hown' : s'.vm.findClass own = some m.cls := by rw [hvm]; exact hown
  have hins : (Cond.instantiable cls 6).before args s' = true := h _ (by simp [Bundle.ownAtoms0])
  obtain ⟨vm₁, cX, kX, hfX, hkX, -, -, X₁, st1⟩ := Y.newCold hexec (own := own) (C := cls) (index := ik) (n := 6) hown' hk' hins hini'
    (g := F0 m pc ls rest) rfl (by rw [hb]; exact d0) (Nat.le_refl _) (Nat.le_refl _)
  generalize hT1 : (T.setVm vm₁).pushCell { cls := cX, slots := kX.instanceTypes.map defaultValue, vm := .none } = T1 at X₁ st1
  have hcat : (Value.ref T.heap.size).category = 1 := rfl
  have hcellA : T1.heap[T.heap.size]? = some (freshCell cX kX) := by rw [← hT1]; exact State.heap_pushCell_size _ _
  have d3' : decode c.code (pc + 3) = .ok (.dup, 1) := by rw [hb]; exact d3
  obtain ⟨U, hsteps, hrun, hend, hW, hsame, ce, hce, hO⟩ := X₁.ctorThrow0 hexec htr (own := own) (cls := cls) (names := names) (ic := ic) hown' hcls hnames h (fun x hx => nomatch hx) hfX hkX hcellA (by rw [hhp, hT]; exact Nat.le_refl _)
    (g := { method := m, pc := pc + 4, locals := ls, stack := .ref T.heap.size :: .ref T.heap.size :: rest, locked := none }) rfl hsize rfl rfl (rest := rest) rfl
    (by rw [hb]; exact d4) (by rw [hb]; exact d7) hout hRframes (by simp only [List.map_cons, List.sum_cons, hcat]; omega) hlocks
  obtain ⟨f1, f2⟩ := vx_frame hsame
  rw [hhp] at f1 f2
  have hWs : s.WarmedH U.vm := State.WarmedH.trans hW0 hW
  have hcl : s.vm.findClass cls = some ce.cls := by
    have h9 := hO.cls
    rw [hvm] at h9
    exact h9
  have hall : s.sameButNew ({ U with vm := s.vm } : State) locs mc ms := by
    subst hA
    obtain ⟨e1, e2⟩ := hsame
    rw [State.setFrames_setFrames] at e1
    have h2 : (T.setVm s.vm).sameButNew ({ U with vm := s.vm } : State) [] (0 + 1) (0 + 6) := ⟨e1, e2⟩
    have h3 := X.same.trans h2
    rw [List.append_nil] at h3
    exact h3.mono hc hs
  refine ⟨U, ?_, .threw T.heap.size, hrun, hend, Or.inr ⟨T.heap.size, rfl, cls, ce, locs, hx U hWs.alike f1 (fun q hq => f2 q hq (fun z hz => nomatch hz)), hce, hO.vm, hcl, hWs, hall, hf⟩⟩
  refine st1 _ ?_
  show Steps p.tables e below (T1.setTop { method := m, pc := pc + 3, locals := ls, stack := .ref T.heap.size :: rest, locked := none }) _
  jvm_step X₁.here [X₁.here.top, hexec, d3', Value.category]
  exact hsteps
/-- 'throw new E("text")': new; dup; ldc; invokespecial; athrow -/
theorem vx_throwS {cc : ByteArray} {pc : Nat} (hexec : p.tables.exec = Jvm.exec) (hb : c.code = cc) (hl : l.stackTraces = false) {own cls text : String} {names : List String} {ik is ic mc ms sa : Nat} {A : Nat → Prop}
    (hown : s.vm.findClass own = some m.cls) (hcls : Bundle.fit cls = true) (hnames : ∀ n ∈ names, Bundle.fit n = true)
    (hk : (Cond.classLink own ik cls).before args s = true) (hini : (Cond.initialized cls).before args s = true) (hstr : vk_R own is text sa s) (hat : ∀ w ∈ vx_atS own ic cls names, w.before args s = true)
    (hgood : ∀ w ∈ Cond.classLink own ik cls :: Cond.initialized cls :: vx_atS own ic cls names, vx_ot w = true)
    (hU : vx_Zq Bundle.tN "UNASSIGNED_STACK" Bundle.steD A s s.heap) (hN : vx_Zq Bundle.tN "SUPPRESSED_SENTINEL" Bundle.listD A s s.heap) (hS : va_S A s.heap H locs) (hsize : ls.size = c.maxLocals)
    (d0 : decode cc pc = .ok (.new ik, 3)) (d3 : decode cc (pc + 3) = .ok (.dup, 1)) (d4 : decode cc (pc + 4) = .ok (.ldc is, 2)) (d6 : decode cc (pc + 6) = .ok (.invokespecial ic, 3)) (d9 : decode cc (pc + 9) = .ok (.athrow, 1))
    (hout : ∀ x ∈ c.exceptionTable.toList, covers x (pc + 9) = false)
    (hRframes : names.length + 3 < R.frames) (hRlocals : (rest.map fun v => v.category).sum + (13 * (names.length + 1) + 43) ≤ R.locals) (hRcells : cells + 1 ≤ R.cells) (hRslots : slots + 6 ≤ R.slots) (hlocks : meth.locks = false)
    (hx : ∀ t : State, s.vm.Alike t.vm → H.size ≤ t.heap.size → (∀ q : Nat, q < H.size → t.heap[q]? = H[q]?) → XC cls s t)
    (hf : ∀ z ∈ locs, free z.base) (hc : cells + 1 ≤ mc) (hs : slots + 6 ≤ ms) :
    W p l e R s m args below meth c H locs cells slots (vx_MQ below Qc XC args s mc ms free) (F0 m pc ls rest) := by
  intro T hT X
  have htr : e.platform.stackTraces = false := (show e.platform.stackTraces = l.stackTraces by rw [X.admits.platform]).trans hl
  have Y := vx_rebase X (R' := { frames := R.frames, locals := R.locals, cells := 1, slots := 6 }) (Nat.le_refl _) (Nat.le_refl _) hRcells hRslots
  obtain ⟨s', hA⟩ : ∃ z, z = (T.setVm s.vm).setFrames (.invoking m args :: below) := ⟨_, rfl⟩
  rw [← hA] at Y
  have hvm : s'.vm = s.vm := by rw [hA]; rfl
  have hhp : s'.heap = H := by rw [hA]; exact hT
  have hW0 : s.WarmedH s'.vm := by rw [hvm]; exact State.WarmedH.refl s
  have hat' : ∀ w ∈ vx_atS own ic cls names, w.before args s' = true := fun w hw => vx_ot_at hW0 hvm.symm (hgood w (List.mem_cons_of_mem _ (List.mem_cons_of_mem _ hw))) (hat w hw)
  have hk' : (Cond.classLink own ik cls).before args s' = true := vx_ot_at hW0 hvm.symm (hgood _ List.mem_cons_self) hk
  have hini' : (Cond.initialized cls).before args s' = true := vx_ot_at hW0 hvm.symm (hgood _ (List.mem_cons_of_mem _ List.mem_cons_self)) hini
  have hU' : vx_Zq Bundle.tN "UNASSIGNED_STACK" Bundle.steD A s' s'.heap := by rw [hhp]; exact vx_Zq.moved hW0.alike (hU.kept hS.2.1)
  have hN' : vx_Zq Bundle.tN "SUPPRESSED_SENTINEL" Bundle.listD A s' s'.heap := by rw [hhp]; exact vx_Zq.moved hW0.alike (hN.kept hS.2.1)
  have h : ∀ w ∈ Bundle.ownAtoms own ic cls names, w.before args s' = true := vx_own hat' (vx_isRefq hU'.1) (vx_isRefq hN'.1) hU'.2.word hN'.2.word
  have hown' : s'.vm.findClass own = some m.cls := by rw [hvm]; exact hown
  have hins : (Cond.instantiable cls 6).before args s' = true := h _ (by simp [Bundle.ownAtoms])
  obtain ⟨vm₁, cX, kX, hfX, hkX, -, -, X₁, st1⟩ := Y.newCold hexec (own := own) (C := cls) (index := ik) (n := 6) hown' hk' hins hini'
    (g := F0 m pc ls rest) rfl (by rw [hb]; exact d0) (Nat.le_refl _) (Nat.le_refl _)
  generalize hT1 : (T.setVm vm₁).pushCell { cls := cX, slots := kX.instanceTypes.map defaultValue, vm := .none } = T1 at X₁ st1
  have hcat : (Value.ref T.heap.size).category = 1 := rfl
  have hcellA : T1.heap[T.heap.size]? = some (freshCell cX kX) := by rw [← hT1]; exact State.heap_pushCell_size _ _
  have d3' : decode c.code (pc + 3) = .ok (.dup, 1) := by rw [hb]; exact d3
  have d4' : decode c.code (pc + 4) = .ok (.ldc is, 2) := by rw [hb]; exact d4
  have hstr' : vk_R own is text sa s' := vk_R.warm hW0 hstr
  obtain ⟨U, hsteps, hrun, hend, hW, hsame, ce, hce, hO⟩ := X₁.ctorThrowS hexec htr (own := own) (cls := cls) (names := names) (ic := ic) hown' hcls hnames h (fun x hx => nomatch hx) hfX hkX hcellA (by rw [hhp, hT]; exact Nat.le_refl _) (msg := .ref sa) rfl
    (g := { method := m, pc := pc + 6, locals := ls, stack := .ref sa :: .ref T.heap.size :: .ref T.heap.size :: rest, locked := none }) rfl hsize rfl rfl (rest := rest) rfl
    (by rw [hb]; exact d6) (by rw [hb]; exact d9) hout hRframes (by simp only [List.map_cons, List.sum_cons, hcat]; omega) hlocks
  obtain ⟨f1, f2⟩ := vx_frame hsame
  rw [hhp] at f1 f2
  have hWs : s.WarmedH U.vm := State.WarmedH.trans hW0 hW
  have hcl : s.vm.findClass cls = some ce.cls := by
    have h9 := hO.cls
    rw [hvm] at h9
    exact h9
  have hall : s.sameButNew ({ U with vm := s.vm } : State) locs mc ms := by
    subst hA
    obtain ⟨e1, e2⟩ := hsame
    rw [State.setFrames_setFrames] at e1
    have h2 : (T.setVm s.vm).sameButNew ({ U with vm := s.vm } : State) [] (0 + 1) (0 + 6) := ⟨e1, e2⟩
    have h3 := X.same.trans h2
    rw [List.append_nil] at h3
    exact h3.mono hc hs
  refine ⟨U, ?_, .threw T.heap.size, hrun, hend, Or.inr ⟨T.heap.size, rfl, cls, ce, locs, hx U hWs.alike f1 (fun q hq => f2 q hq (fun z hz => nomatch hz)), hce, hO.vm, hcl, hWs, hall, hf⟩⟩
  refine st1 _ ?_
  show Steps p.tables e below (T1.setTop { method := m, pc := pc + 3, locals := ls, stack := .ref T.heap.size :: rest, locked := none }) _
  jvm_step X₁.here [X₁.here.top, hexec, d3', Value.category]
  exact X₁.ldcString hexec (own := own) (text := text) (index := is) (a := sa) hown' hstr'.1 hstr'.2
    (g := { method := m, pc := pc + 4, locals := ls, stack := .ref T.heap.size :: .ref T.heap.size :: rest, locked := none }) rfl d4' _ hsteps
/-- 'throw new E("text")', the text by a wide index -/
theorem vx_throwSW {cc : ByteArray} {pc : Nat} (hexec : p.tables.exec = Jvm.exec) (hb : c.code = cc) (hl : l.stackTraces = false) {own cls text : String} {names : List String} {ik is ic mc ms sa : Nat} {A : Nat → Prop}
    (hown : s.vm.findClass own = some m.cls) (hcls : Bundle.fit cls = true) (hnames : ∀ n ∈ names, Bundle.fit n = true)
    (hk : (Cond.classLink own ik cls).before args s = true) (hini : (Cond.initialized cls).before args s = true) (hstr : vk_R own is text sa s) (hat : ∀ w ∈ vx_atS own ic cls names, w.before args s = true)
    (hgood : ∀ w ∈ Cond.classLink own ik cls :: Cond.initialized cls :: vx_atS own ic cls names, vx_ot w = true)
    (hU : vx_Zq Bundle.tN "UNASSIGNED_STACK" Bundle.steD A s s.heap) (hN : vx_Zq Bundle.tN "SUPPRESSED_SENTINEL" Bundle.listD A s s.heap) (hS : va_S A s.heap H locs) (hsize : ls.size = c.maxLocals)
    (d0 : decode cc pc = .ok (.new ik, 3)) (d3 : decode cc (pc + 3) = .ok (.dup, 1)) (d4 : decode cc (pc + 4) = .ok (.ldc_w is, 3)) (d7 : decode cc (pc + 7) = .ok (.invokespecial ic, 3)) (d10 : decode cc (pc + 10) = .ok (.athrow, 1))
    (hout : ∀ x ∈ c.exceptionTable.toList, covers x (pc + 10) = false)
    (hRframes : names.length + 3 < R.frames) (hRlocals : (rest.map fun v => v.category).sum + (13 * (names.length + 1) + 43) ≤ R.locals) (hRcells : cells + 1 ≤ R.cells) (hRslots : slots + 6 ≤ R.slots) (hlocks : meth.locks = false)
    (hx : ∀ t : State, s.vm.Alike t.vm → H.size ≤ t.heap.size → (∀ q : Nat, q < H.size → t.heap[q]? = H[q]?) → XC cls s t)
    (hf : ∀ z ∈ locs, free z.base) (hc : cells + 1 ≤ mc) (hs : slots + 6 ≤ ms) :
    W p l e R s m args below meth c H locs cells slots (vx_MQ below Qc XC args s mc ms free) (F0 m pc ls rest) := by
  intro T hT X
  have htr : e.platform.stackTraces = false := (show e.platform.stackTraces = l.stackTraces by rw [X.admits.platform]).trans hl
  have Y := vx_rebase X (R' := { frames := R.frames, locals := R.locals, cells := 1, slots := 6 }) (Nat.le_refl _) (Nat.le_refl _) hRcells hRslots
  obtain ⟨s', hA⟩ : ∃ z, z = (T.setVm s.vm).setFrames (.invoking m args :: below) := ⟨_, rfl⟩
  rw [← hA] at Y
  have hvm : s'.vm = s.vm := by rw [hA]; rfl
  have hhp : s'.heap = H := by rw [hA]; exact hT
  have hW0 : s.WarmedH s'.vm := by rw [hvm]; exact State.WarmedH.refl s
  have hat' : ∀ w ∈ vx_atS own ic cls names, w.before args s' = true := fun w hw => vx_ot_at hW0 hvm.symm (hgood w (List.mem_cons_of_mem _ (List.mem_cons_of_mem _ hw))) (hat w hw)
  have hk' : (Cond.classLink own ik cls).before args s' = true := vx_ot_at hW0 hvm.symm (hgood _ List.mem_cons_self) hk
  have hini' : (Cond.initialized cls).before args s' = true := vx_ot_at hW0 hvm.symm (hgood _ (List.mem_cons_of_mem _ List.mem_cons_self)) hini
  have hU' : vx_Zq Bundle.tN "UNASSIGNED_STACK" Bundle.steD A s' s'.heap := by rw [hhp]; exact vx_Zq.moved hW0.alike (hU.kept hS.2.1)
  have hN' : vx_Zq Bundle.tN "SUPPRESSED_SENTINEL" Bundle.listD A s' s'.heap := by rw [hhp]; exact vx_Zq.moved hW0.alike (hN.kept hS.2.1)
  have h : ∀ w ∈ Bundle.ownAtoms own ic cls names, w.before args s' = true := vx_own hat' (vx_isRefq hU'.1) (vx_isRefq hN'.1) hU'.2.word hN'.2.word
  have hown' : s'.vm.findClass own = some m.cls := by rw [hvm]; exact hown
  have hins : (Cond.instantiable cls 6).before args s' = true := h _ (by simp [Bundle.ownAtoms])
  obtain ⟨vm₁, cX, kX, hfX, hkX, -, -, X₁, st1⟩ := Y.newCold hexec (own := own) (C := cls) (index := ik) (n := 6) hown' hk' hins hini'
    (g := F0 m pc ls rest) rfl (by rw [hb]; exact d0) (Nat.le_refl _) (Nat.le_refl _)
  generalize hT1 : (T.setVm vm₁).pushCell { cls := cX, slots := kX.instanceTypes.map defaultValue, vm := .none } = T1 at X₁ st1
  have hcat : (Value.ref T.heap.size).category = 1 := rfl
  have hcellA : T1.heap[T.heap.size]? = some (freshCell cX kX) := by rw [← hT1]; exact State.heap_pushCell_size _ _
  have d3' : decode c.code (pc + 3) = .ok (.dup, 1) := by rw [hb]; exact d3
  have d4' : decode c.code (pc + 4) = .ok (.ldc_w is, 3) := by rw [hb]; exact d4
  have hstr' : vk_R own is text sa s' := vk_R.warm hW0 hstr
  obtain ⟨U, hsteps, hrun, hend, hW, hsame, ce, hce, hO⟩ := X₁.ctorThrowS hexec htr (own := own) (cls := cls) (names := names) (ic := ic) hown' hcls hnames h (fun x hx => nomatch hx) hfX hkX hcellA (by rw [hhp, hT]; exact Nat.le_refl _) (msg := .ref sa) rfl
    (g := { method := m, pc := pc + 7, locals := ls, stack := .ref sa :: .ref T.heap.size :: .ref T.heap.size :: rest, locked := none }) rfl hsize rfl rfl (rest := rest) rfl
    (by rw [hb]; exact d7) (by rw [hb]; exact d10) hout hRframes (by simp only [List.map_cons, List.sum_cons, hcat]; omega) hlocks
  obtain ⟨f1, f2⟩ := vx_frame hsame
  rw [hhp] at f1 f2
  have hWs : s.WarmedH U.vm := State.WarmedH.trans hW0 hW
  have hcl : s.vm.findClass cls = some ce.cls := by
    have h9 := hO.cls
    rw [hvm] at h9
    exact h9
  have hall : s.sameButNew ({ U with vm := s.vm } : State) locs mc ms := by
    subst hA
    obtain ⟨e1, e2⟩ := hsame
    rw [State.setFrames_setFrames] at e1
    have h2 : (T.setVm s.vm).sameButNew ({ U with vm := s.vm } : State) [] (0 + 1) (0 + 6) := ⟨e1, e2⟩
    have h3 := X.same.trans h2
    rw [List.append_nil] at h3
    exact h3.mono hc hs
  refine ⟨U, ?_, .threw T.heap.size, hrun, hend, Or.inr ⟨T.heap.size, rfl, cls, ce, locs, hx U hWs.alike f1 (fun q hq => f2 q hq (fun z hz => nomatch hz)), hce, hO.vm, hcl, hWs, hall, hf⟩⟩
  refine st1 _ ?_
  show Steps p.tables e below (T1.setTop { method := m, pc := pc + 3, locals := ls, stack := .ref T.heap.size :: rest, locked := none }) _
  jvm_step X₁.here [X₁.here.top, hexec, d3', Value.category]
  exact X₁.ldcStringW hexec (own := own) (text := text) (index := is) (a := sa) hown' hstr'.1 hstr'.2
    (g := { method := m, pc := pc + 4, locals := ls, stack := .ref T.heap.size :: .ref T.heap.size :: rest, locked := none }) rfl d4' _ hsteps
end Ends
section Bodies
variable {l : Launch}
theorem vx_ofW {y : MethodName} {ws ws' : List Cond} {rm : Room} {Pc : Array Value → State → Prop} {Qc : Array Value → State → Outcome → State → Prop} {XC : String → State → State → Prop} {mc ms : Nat} {free : Addr → Prop} {cc : ByteArray} {maxL : Nat} {ret : Option FieldType}
    (hy : plainName y.cls = true) (hw : ws = Cond.code y cc maxL ret :: ws')
    (body : ∀ p e s m args below meth c s₁, BodyLoose p l y (headSpec ws rm) cc maxL ret e s m args below meth c s₁ → c.maxLocals = maxL → (∀ x ∈ c.exceptionTable.toList, False) → Pc args s →
      W p l e (headSpec ws rm).room s m args below meth c s.heap [] 0 0 (vx_MQ below Qc XC args s mc ms free) (entryFrame m args maxL)) : vx_Met l y ws rm Pc Qc XC mc ms free := by
  refine MetFree.of_bodyS (code := cc) (maxLocals := maxL) (ret := ret) hy ?_ ?_
  · intro args s m h hn
    obtain ⟨meth, c, h1, h2, h3, h4, h5, h6, -, -⟩ := Cond.code_spec hn (atoms_spec (ws := ws) h _ (by rw [hw]; exact List.mem_cons_self))
    exact ⟨meth, c, h1, h2, h3, h4, h5, h6⟩
  · intro p e s m args below meth c s₁ B hml hP _
    have hh0 : s₁.heap = s.heap := by rw [B.state]; rfl
    have ht : ∀ x ∈ c.exceptionTable.toList, False := by
      obtain ⟨meth9, c9, h1, h2, -, -, -, -, h7, -⟩ := Cond.code_spec B.named (atoms_spec (ws := ws) B.pre _ (by rw [hw]; exact List.mem_cons_self))
      cases Option.some.inj (h1.symm.trans B.method)
      cases Option.some.inj (h2.symm.trans (Stand.of_body B).code)
      intro x hx
      rw [Array.isEmpty_iff.mp h7] at hx
      cases hx
    obtain ⟨t, a1, o, b1, b2, b3⟩ := body p e s m args below meth c s₁ B hml ht hP s₁ hh0 (Stand.of_body B)
    exact ⟨t, o, a1, b1, b2, b3⟩
/-- the table of a body with handlers -/
theorem vx_table {p : Program} {x y : MethodName} {S : Spec} {cc bytes : ByteArray} {maxL maxL' : Nat} {ret ret' : Option FieldType} {e : Env} {s s₁ : State} {m : MethodId} {args : Array Value} {below : List Frame} {meth : Method} {c : Code} {hh : List (Nat × Nat × Nat × Nat)}
    (B : BodyLoose p l y S cc maxL ret e s m args below meth c s₁) (h : (Cond.codeWith y bytes maxL' ret' hh).before args s = true) : c.exceptionTable.toList = tableOf hh := by
  obtain ⟨m9, meth9, c9, hn9, h1, h2, -, -, h6, -⟩ := Cond.codeWith_spec h
  cases Option.some.inj (hn9.symm.trans B.named)
  cases Option.some.inj (h1.symm.trans B.method)
  cases Option.some.inj (h2.symm.trans (Stand.of_body B).code)
  rw [← h6, table_eq]
end Bodies
end VXA
/-! ===== END ===== -/
/-! ===== BEGIN a static call of a method with an exception table ===== -/
section VXS
variable {p : Program} {l : Launch} {e : Env} {R : Room} {s : State} {m : MethodId} {args : Array Value} {below : List Frame} {meth : Method} {c : Code} {T : State} {H : Heap} {locs : List Loc} {cells slots : Nat}
abbrev vx_CSW (R : Room) (s : State) (args : Array Value) (own : String) (index : Nat) (y : MethodName) (bytes : ByteArray) (maxL : Nat) (ret : Option FieldType) (hh : List (Nat × Nat × Nat × Nat)) (ws : List Cond) (rm : Room) (mc ms n : Nat) : Prop :=
  (rm.cells = mc ∧ rm.slots = ms ∧ rm.frames + 1 ≤ R.frames ∧ 8 + (maxL + 11) + rm.locals ≤ R.locals ∧ (∀ w ∈ ws, ∀ (a' : Array Value) (U : State), s.WarmedH U.vm → w.before a' U = true) ∧ Cond.codeWith y bytes maxL ret hh ∈ ws) ∧
  (Cond.codeWith y bytes maxL ret hh).before args s = true ∧ (Cond.initialized y.cls).before args s = true ∧ (y.cls ≠ "java/lang/invoke/MethodHandle" ∧ y.cls ≠ "java/lang/invoke/VarHandle") ∧
  (∀ sig, parseMethodDescriptor y.desc = some sig → n = sig.parameters.length) ∧ (Cond.methodLink own index y).before args s = true ∧ (Cond.static y).before args s = true
theorem vx_cwSW {own : String} {index maxL mc ms : Nat} {y : MethodName} {bytes : ByteArray} {ret : Option FieldType} {hh : List (Nat × Nat × Nat × Nat)} {Ts ws ws' : List Cond} {rm : Room} (n : Nat) (ht : ∀ w ∈ Ts, w.before args s = true) (hT : GoodIn Ts (va_wsS own index y ws)) (hw : ws = Cond.codeWith y bytes maxL ret hh :: ws') (hrc : rm.cells = mc) (hrs : rm.slots = ms)
    (hd : y.cls ≠ "java/lang/invoke/MethodHandle" ∧ y.cls ≠ "java/lang/invoke/VarHandle" ∧ (parseMethodDescriptor y.desc).map (fun d => d.parameters.length) = some n) (hR : rm.frames + 1 ≤ R.frames ∧ 8 + (maxL + 11) + rm.locals ≤ R.locals) :
    vx_CSW R s args own index y bytes maxL ret hh ws rm mc ms n := by
  have ok : ∀ w ∈ va_wsS own index y ws, w.before args s = true := fun w h => ht w (hT w h).1
  have hG : GoodIn Ts ws := fun w h => hT w (by unfold va_wsS; exact List.mem_append_right _ h)
  have hc : Cond.codeWith y bytes maxL ret hh ∈ ws := by rw [hw]; exact List.mem_cons_self
  refine ⟨⟨hrc, hrs, hR.1, hR.2, pay_in ht hG, hc⟩, ht _ (hG _ hc).1, ok _ (by simp [va_wsS]), ⟨hd.1, hd.2.1⟩, fun sig h => ?_, ok _ (by simp [va_wsS]), ok _ (by simp [va_wsS])⟩
  have h2 := hd.2.2
  rw [h] at h2
  exact (Option.some.inj h2).symm
theorem vx_callSW (X : Stand p l e R s m args below meth c T locs cells slots) (hexec : p.tables.exec = Jvm.exec) {own : String} {index : Nat} {y : MethodName} {bytes : ByteArray} {maxL : Nat} {ret : Option FieldType} {hh : List (Nat × Nat × Nat × Nat)}
    (hown : s.vm.findClass own = some m.cls) (hlink : (Cond.methodLink own index y).before args s = true) (hstat : (Cond.static y).before args s = true) (hinit : (Cond.initialized y.cls).before args s = true)
    (hcode : (Cond.codeWith y bytes maxL ret hh).before args s = true) (hy : y.cls ≠ "java/lang/invoke/MethodHandle" ∧ y.cls ≠ "java/lang/invoke/VarHandle")
    {W9 : Nat} {Pre : Pt → Array Value → Prop} {Post : Pt → Array Value → Option Value → Pt → Prop} (hK : Back l R p e below s args y 3 W9 Pre Post)
    {g : JFrame} (hg : g.method = m) (hsize : g.locals.size = c.maxLocals) {argsL rest : List Value} (hlen : ∀ sig, parseMethodDescriptor y.desc = some sig → argsL.length = sig.parameters.length)
    (hstack : g.stack = argsL.reverse ++ rest) (hW : 2 * g.monitorRoom + (rest.map fun v => v.category).sum ≤ W9) (hdg : decode c.code g.pc = .ok (.invokestatic index, 3))
    (hpre : ∀ vm₁, s.WarmedH vm₁ → Pre ⟨T.setVm vm₁, locs, cells, slots⟩ argsL.toArray) :
    ∃ (v : Option Value) (vm₁ : Vm) (B : Pt), s.WarmedH vm₁ ∧ Stand p l e R s m args below meth c B.U B.locs B.cells B.slots ∧ Post ⟨T.setVm vm₁, locs, cells, slots⟩ argsL.toArray v B ∧
      ∀ target, Steps p.tables e below (B.U.setTop { g with pc := g.pc + 3, stack := v.toList ++ rest }) target → Steps p.tables e below (T.setTop g) target := by
  obtain ⟨mk, methM, cM, hnamed, hmethM, -, -, -, -, -, -, hsigM⟩ := Cond.codeWith_spec hcode
  have hstatic : methM.isStatic = true := Cond.static_spec hnamed hmethM hstat
  obtain ⟨kP, hkP, -⟩ := className_of_methodNamed hnamed
  have hinitP : kP.init = .initialized := Cond.initialized_spec (findClass_of_methodNamed hnamed) hkP hinit
  obtain ⟨vm₁, X₁, hstep₁⟩ := X.invokestatic hexec hown hlink hnamed hmethM hstatic hkP hinitP hy (g := g) hg (argsL := argsL) (rest := rest) (hlen _ hsigM) hstack hdg
  obtain ⟨v, B, X', hpost, hsteps⟩ := hK m meth c ⟨T.setVm vm₁, locs, cells, slots⟩ { g with stack := rest } (.invokestatic index) mk argsL.toArray X₁ hg hsize hdg hW (X₁.named hnamed) (hpre vm₁ X₁.warmed)
  exact ⟨v, vm₁, B, X₁.warmed, X', hpost, fun target h => hstep₁ _ fun acts => by rw [doInvoke_state]; exact hsteps.trans h⟩
theorem vx_runSW {y : MethodName} {bytes cc : ByteArray} {maxL nL mc ms n index : Nat} {ret : Option FieldType} {hh : List (Nat × Nat × Nat × Nat)} {ws : List Cond} {rm : Room} {Pc : Array Value → State → Prop} {Qc : Array Value → State → Outcome → State → Prop} {free : Addr → Prop} {Ts : List Cond} {own : String} {As rest : List Value} {g : JFrame}
    (S : CallFix p m c cc nL s args Ts own) (hM : Met l y ws rm Pc Qc mc ms free) (cw : vx_CSW R s args own index y bytes maxL ret hh ws rm mc ms n) (hp : PreS s H Pc As)
    (hg : g.method = m) (hn : As.length = n) (hsize : g.locals.size = nL) (hstack : g.stack = As.reverse ++ rest) (hW : 2 * g.monitorRoom + (rest.map fun v => v.category).sum ≤ 8) (hdg : decode cc g.pc = .ok (.invokestatic index, 3)) (hf : cells + mc ≤ R.cells ∧ slots + ms ≤ R.slots) :
    va_Run p l e R s m args below meth c H locs cells slots mc ms g rest (Qc As.toArray) (free) := by
  obtain ⟨⟨hrc, hrs, hfr, hlo, hws, hcw⟩, hcode, hini, hy, hlen, hl, hstt⟩ := cw
  have hK : Back l R p e below s args y 3 8 (PreOf R mc ms Pc) (PostOf Qc mc ms free) := va_backW (hh := hh) (bytes := bytes) (maxL := maxL) (ret := ret) hM hp.1 hrc hrs hfr hlo hws hcw (fun a' U hW => word_at hW (Or.inl (by first | rfl | simp [Cond.onTables, Cond.keeps, Cond.steady])) hini)
  obtain ⟨hx, hb, hml, ho, -⟩ := S
  intro T hT X
  obtain ⟨v, vm₁, ⟨U', l2, c2, s2⟩, hW₁, X', ⟨g', mk, t, L, e1, e2, hq, h1, hL, h2, h3⟩, st⟩ := vx_callSW X hx (hh := hh) (bytes := bytes) (maxL := maxL) (ret := ret) ho hl hstt hini hcode hy hK hg (hsize.trans hml.symm) (argsL := As) (rest := rest) (fun sig h => hn.trans (hlen sig h)) hstack hW (by rw [hb]; exact hdg)
    (fun vm₁ hW₁ => ⟨hf.1, hf.2, hp.2 (T.setVm vm₁) hT hW₁⟩)
  dsimp only [Pt.U, Pt.locs, Pt.cells, Pt.slots] at X' e1 e2 h1 h2 h3 st
  subst h1; subst h2; subst h3
  exact ⟨v, (T.setVm vm₁).calling g' mk As.toArray, t, U', L, hT, X', hL, e1, e2, hq, st⟩
/-- not caught here, past rows that name other classes: it goes on to the caller -/
theorem vx_outP {p : Program} {l : Launch} {e : Env} {R : Room} {s : State} {m : MethodId} {args : Array Value} {below : List Frame} {meth : Method} {c : Code} {H : Heap} {locs : List Loc} {cells slots : Nat} {free : Addr → Prop} {ls : Array Slot} {rest : List Value} {Qc : Array Value → State → Outcome → State → Prop} {XC : String → State → State → Prop}
    {pc : Nat} {own E : String} {ce : Cell} {q : Addr} {mc ms : Nat} (hown : s.vm.findClass own = some m.cls) (hlocks : meth.locks = false)
    (hpass : ∀ z ∈ c.exceptionTable.toList, covers z pc = false ∨ (z.catchType ≠ 0 ∧ ∃ nm : String, (Cond.classLink own z.catchType nm).before args s = true ∧ va_Nc E nm s)) (hcell : H[q]? = some ce) (hv : ce.vm = .none) (hcl : s.vm.findClass E = some ce.cls)
    (hx : ∀ t : State, t.heap = H → s.vm.Alike t.vm → XC E s t) (hf : ∀ z ∈ locs, free z.base) (hc : cells ≤ mc) (hs : slots ≤ ms) :
    vx_W p l e R s m args below meth c H locs cells slots (vx_MQ below Qc XC args s mc ms free) (F0 m pc ls rest) q := by
  intro T hT X
  have hpl : e.platform.magicAccessors = ({} : Platform).magicAccessors := by rw [X.admits.platform]
  obtain ⟨vm', hW', X', st⟩ := X.outThrough hlocks q (g := F0 m pc ls rest) rfl rfl rfl (cell := ce) (by rw [hT]; exact hcell) (by rw [hv]; rfl)
    (by obtain ⟨k9, h9, -⟩ := Vm.findClass_spec hcl; exact ⟨k9, h9⟩) (fun z hz => by
      rcases hpass z hz with h | ⟨hz0, nm, hl1, hn1⟩
      · exact Or.inl h
      · obtain ⟨c6, hc6, hcl6⟩ := Cond.classLink_spec hown hl1 e.platform hpl
        obtain ⟨a8, b8, h1, h2, h3⟩ := hn1
        cases Option.some.inj (h1.symm.trans hcl)
        cases Option.some.inj (h2.symm.trans hc6)
        exact Or.inr ⟨hz0, _, hcl6, h3⟩)
  obtain ⟨g₀, hfr⟩ := X'.frames_eq
  have hcell9 : ((T.setVm vm').setFrames (.throwing q :: below)).heap[q]? = some ce := by
    show T.heap[q]? = some ce
    rw [hT]; exact hcell
  have hend : Ended ((T.setVm vm').setFrames (.throwing q :: below)) below (.threw q) := State.frames_setFrames _ (State.cur_lt_of_frames hfr)
  refine ⟨(T.setVm vm').setFrames (.throwing q :: below), ?_, .threw q, X'.here.running, hend, Or.inr ⟨q, rfl, E, ce, locs, hx _ hT (X'.ends _).1.alike, hcell9, hv, hcl, (X'.ends _).1, (X'.ends _).2.mono hc hs, hf⟩⟩
  rw [X.pushThrowing_eq]
  exact st
/-- a thing of a world lies in the heap -/
theorem vx_lt {D : va_G} {cl : List vw_C} {ws : va_W} {H1 : Heap} (h : va_P D cl ws H1) {k : Nat} {q : Nat × va_E} (hk : ws[k]? = some q) : q.1 < H1.size := (h k q hk).lt
end VXS
/-! ===== END ===== -/
/-! ===== BEGIN methods with a table of their own: called by a name, returning or throwing ===== -/
section VXH
/-! vx_backW, vx_callVX, vx_callSX, vx_callVW, vx_runVW, vx_runVX, vx_runSX, vx_ofWH follow the same proofs as their sisters above (Free/Laws.lean, Shelf42/LK1.lean); vx_outP calls Shelf42/NT130.lean (outThrough). -/
section
variable {l : Launch} {R : Room} {p : Program} {e : Env} {below : List Frame} {s : State} {sargs : Array Value} {y : MethodName} {len W9 : Nat}
theorem vx_backW {ws : List Cond} {rm : Room} {Pc : Array Value → State → Prop} {Qc : Array Value → State → Outcome → State → Prop} {XC : String → State → State → Prop} {mc ms : Nat} {free : Addr → Prop} {bytes : ByteArray} {maxL : Nat} {ret : Option FieldType} {hh : List (Nat × Nat × Nat × Nat)}
    (hM : vx_Met l y ws rm Pc Qc XC mc ms free) (hblind : FrameBlind Pc) (hrc : rm.cells = mc) (hrs : rm.slots = ms)
    (hframes : rm.frames + 1 ≤ R.frames) (hlocals : W9 + (maxL + 11) + rm.locals ≤ R.locals)
    (hws : ∀ w ∈ ws, ∀ a' U, s.WarmedH U.vm → w.before a' U = true) (hcode : Cond.codeWith y bytes maxL ret hh ∈ ws) (hinit : ∀ a' U, s.WarmedH U.vm → (Cond.initialized y.cls).before a' U = true) :
    vx_Back l R p e below s sargs y len W9 (PreOf R mc ms Pc) (PostOf Qc mc ms free) (vx_Post XC mc ms free) := by
  intro m meth c A g ig mk a X hg hsize hdg hW hn hp
  have h1 : (headSpec ws rm).pre.before a A.U = true := atoms_intro fun w hw => hws w hw _ _ X.warmed
  have h2 : (Cond.codeWith y bytes maxL ret hh).before a A.U = true := hws _ hcode _ _ X.warmed
  have h3 : (Cond.initialized y.cls).before a A.U = true := hinit _ _ X.warmed
  have h4 : A.cells + (headSpec ws rm).room.cells ≤ R.cells := by rw [show (headSpec ws rm).room.cells = mc from hrc]; exact hp.1
  have h5 : A.slots + (headSpec ws rm).room.slots ≤ R.slots := by rw [show (headSpec ws rm).room.slots = ms from hrs]; exact hp.2.1
  have hPc : Pc a (A.U.calling g mk a) := hblind _ _ _ _ hp.2.2
  obtain ⟨U, Ls, c0, s0⟩ := A
  dsimp only [Pt.U, Pt.locs, Pt.cells, Pt.slots] at h1 h2 h3 h4 h5 X hn hPc ⊢
  obtain ⟨m9, methY, cY, hn9, hmY, hcY, -, hlY, -⟩ := Cond.codeWith_spec h2
  cases Option.some.inj (hn9.symm.trans hn)
  obtain ⟨kY, hkY, -⟩ := className_of_methodNamed hn
  have hinitY : kY.init = .initialized := Cond.initialized_spec (findClass_of_methodNamed hn) hkY h3
  have h : At U g.method c below := by rw [hg]; exact X.here
  have hlocals9 : W9 + (maxL + 11) + (headSpec ws rm).room.locals ≤ R.locals := hlocals
  have happ : (headSpec ws rm).appliesLoose y e.platform (U.calling g mk a) = true :=
    Spec.appliesLoose_calling (g := g) h hdg hn hkY hinitY
      (X.room_calling (g := g) (R' := (headSpec ws rm).room) hsize hmY hcY hframes (by rw [hlY]; omega) h4 h5) h1
  obtain ⟨mid, hmid⟩ := h.above
  have hfr : (U.setTop g).frames = (.java g :: mid) ++ below := by rw [State.frames_setTop' g h.top, hmid]; rfl
  obtain ⟨o, s₂, hsteps, -, hend, hq⟩ := Steps.callFree hM p X.admits X.cas X.clock (acts := []) hfr happ hPc trivial
  have hq' : vx_Q Qc XC mc ms free a (U.calling g mk a) o s₂ := hq
  rw [State.frames_setTop' g h.top] at hend
  obtain ⟨g₀, hg0⟩ := Option.isSome_iff_exists.mp h.top
  obtain ⟨r, hr⟩ := State.topJava?_eq_some.mp hg0
  have hr' : (({ U with heap := s₂.heap, slotsUsed := s₂.slotsUsed } : State).setVm s₂.vm).frames = .java g₀ :: r := hr
  rcases hq' with ⟨hqc, L, hfe, hL⟩ | ⟨q, rfl, E, ce, L, hx, hce, hcv, hcl, hW₂, hsm, hL⟩
  · obtain ⟨⟨v, rfl⟩, hW₂, e2, q2, q3, q4, q5, q6⟩ := id hfe
    have e3 : s₂ = ({ (U.calling g mk a).setFrames s₂.frames with heap := s₂.heap, slotsUsed := s₂.slotsUsed } : State).setVm s₂.vm := by
      have : s₂ = ({ s₂ with vm := (U.calling g mk a).vm } : State).setVm s₂.vm := rfl
      rw [e2] at this
      exact this
    obtain ⟨c₂, i₂, len₂, hc₂, hd₂, hf₂⟩ := hend
    have hW' : U.WarmedH s₂.vm := hW₂
    have hcc : c₂ = c := by
      have h1 : s₂.code? g.method = U.code? g.method := by
        rw [State.code?_eq, State.code?_eq, hW'.alike.method?]
      exact Option.some.inj (hc₂.symm.trans (h1.trans h.code))
    subst hcc
    have hlen : len₂ = len := by rw [hdg] at hd₂; cases hd₂; rfl
    subst hlen
    have hs₂ : s₂ = (({ U with heap := s₂.heap, slotsUsed := s₂.slotsUsed } : State).setVm s₂.vm).setTop { g with pc := g.pc + len₂, stack := v.toList ++ g.stack } := by
      refine e3.trans ?_
      rw [hf₂, State.calling_eq h.top, State.setFrames_setFrames, State.setTop_of_frames _ hr', hr]
      rfl
    have hsame : U.sameButNew ({ U with heap := s₂.heap, slotsUsed := s₂.slotsUsed } : State) L mc ms := by
      refine ⟨?_, q2, q3, q4, q5, q6⟩
      obtain ⟨t, ht, -⟩ := State.frames_cons hr
      show ({ U with heap := s₂.heap, slotsUsed := s₂.slotsUsed } : State) = { U.setFrames U.frames with heap := s₂.heap, slotsUsed := s₂.slotsUsed }
      rw [State.setFrames_self ht]
    subst hg
    refine Or.inl ⟨v, ⟨(({ U with heap := s₂.heap, slotsUsed := s₂.slotsUsed } : State).setVm s₂.vm), Ls ++ L, c0 + mc, s0 + ms⟩,
      ⟨X.admits, X.cas, X.clock, X.frames, X.room, X.hears, X.method, X.code, (X.here.setHeapUsed s₂.heap s₂.slotsUsed).setVm hW'.alike, X.tail, State.WarmedH.trans X.warmed hW', X.limits, X.bytes, X.same.trans (hsame.setVm s.vm)⟩,
      ⟨g, mk, s₂, L, rfl, rfl, hqc, rfl, hL, rfl, rfl⟩, ?_⟩
    show Steps p.tables e below _ ((({ U with heap := s₂.heap, slotsUsed := s₂.slotsUsed } : State).setVm s₂.vm).setTop { g with pc := g.pc + len₂, stack := v.toList ++ g.stack })
    rw [← hs₂]
    exact hsteps
  · obtain ⟨e2, q2, q3, q4, q5, q6⟩ := id hsm
    have e3 : s₂ = ({ (U.calling g mk a).setFrames s₂.frames with heap := s₂.heap, slotsUsed := s₂.slotsUsed } : State).setVm s₂.vm := by
      have : s₂ = ({ s₂ with vm := (U.calling g mk a).vm } : State).setVm s₂.vm := rfl
      rw [e2] at this
      exact this
    have hf₂ : s₂.frames = .throwing q :: .java g :: U.frames.tail := hend
    have hW' : U.WarmedH s₂.vm := hW₂
    have hs₂ : s₂ = ((({ U with heap := s₂.heap, slotsUsed := s₂.slotsUsed } : State).setVm s₂.vm).setTop g).pushFrame (.throwing q) := by
      refine e3.trans ?_
      rw [hf₂, State.calling_eq h.top, State.setFrames_setFrames, State.pushFrame, State.frames_setTop _ hr', State.setTop_of_frames _ hr', State.setFrames_setFrames, hr]
      rfl
    have hsame : U.sameButNew ({ U with heap := s₂.heap, slotsUsed := s₂.slotsUsed } : State) L mc ms := by
      refine ⟨?_, q2, q3, q4, q5, q6⟩
      obtain ⟨t, ht, -⟩ := State.frames_cons hr
      show ({ U with heap := s₂.heap, slotsUsed := s₂.slotsUsed } : State) = { U.setFrames U.frames with heap := s₂.heap, slotsUsed := s₂.slotsUsed }
      rw [State.setFrames_self ht]
    subst hg
    refine Or.inr ⟨q, ⟨(({ U with heap := s₂.heap, slotsUsed := s₂.slotsUsed } : State).setVm s₂.vm), Ls ++ L, c0 + mc, s0 + ms⟩,
      ⟨X.admits, X.cas, X.clock, X.frames, X.room, X.hears, X.method, X.code, (X.here.setHeapUsed s₂.heap s₂.slotsUsed).setVm hW'.alike, X.tail, State.WarmedH.trans X.warmed hW', X.limits, X.bytes, X.same.trans (hsame.setVm s.vm)⟩,
      ⟨g, mk, s₂, L, E, ce, rfl, rfl, hx, hce, hcv, hcl, rfl, hL, rfl, rfl⟩, ?_⟩
    show Steps p.tables e below _ (((({ U with heap := s₂.heap, slotsUsed := s₂.slotsUsed } : State).setVm s₂.vm).setTop g).pushFrame (.throwing q))
    rw [← hs₂]
    exact hsteps
end
variable {p : Program} {l : Launch} {e : Env} {R : Room} {s : State} {m : MethodId} {args : Array Value} {below : List Frame} {meth : Method} {c : Code} {T : State} {H : Heap} {locs : List Loc} {cells slots : Nat}
theorem vx_callVX (X : Stand p l e R s m args below meth c T locs cells slots) (hexec : p.tables.exec = Jvm.exec) {own C : String} {index : Nat} {y : MethodName} {bytes : ByteArray} {maxL : Nat} {ret : Option FieldType} {hh : List (Nat × Nat × Nat × Nat)}
    (hown : s.vm.findClass own = some m.cls) (hlink : (Cond.methodLink own index y).before args s = true) (hinst : (Cond.instanceMethod y).before args s = true) (hsel : (Cond.selects C y y).before args s = true)
    (hcode : (Cond.codeWith y bytes maxL ret hh).before args s = true) (hy : y.cls ≠ "java/lang/invoke/MethodHandle" ∧ y.cls ≠ "java/lang/invoke/VarHandle")
    {W9 : Nat} {Pre : Pt → Array Value → Prop} {Post : Pt → Array Value → Option Value → Pt → Prop} {PostX : Pt → Array Value → Addr → Pt → Prop} (hK : vx_Back l R p e below s args y 3 W9 Pre Post PostX)
    {b : Addr} {cellB : Cell} (hcell : T.heap[b]? = some cellB) (hobj : cellB.vm.isStatics = false) (hcls : s.vm.findClass C = some cellB.cls)
    {g : JFrame} (hg : g.method = m) (hsize : g.locals.size = c.maxLocals) {argsL rest : List Value} (hlen : ∀ sig, parseMethodDescriptor y.desc = some sig → argsL.length = sig.parameters.length)
    (hstack : g.stack = argsL.reverse ++ .ref b :: rest) (hW : 2 * g.monitorRoom + (rest.map fun v => v.category).sum ≤ W9) (hdg : decode c.code g.pc = .ok (.invokevirtual index, 3))
    (hpre : ∀ vm₁, s.WarmedH vm₁ → Pre ⟨T.setVm vm₁, locs, cells, slots⟩ (Value.ref b :: argsL).toArray) :
    (∃ (v : Option Value) (vm₁ : Vm) (B : Pt), s.WarmedH vm₁ ∧ Stand p l e R s m args below meth c B.U B.locs B.cells B.slots ∧ Post ⟨T.setVm vm₁, locs, cells, slots⟩ (Value.ref b :: argsL).toArray v B ∧
      ∀ target, Steps p.tables e below (B.U.setTop { g with pc := g.pc + 3, stack := v.toList ++ rest }) target → Steps p.tables e below (T.setTop g) target) ∨
    (∃ (q : Addr) (vm₁ : Vm) (B : Pt), s.WarmedH vm₁ ∧ Stand p l e R s m args below meth c B.U B.locs B.cells B.slots ∧ PostX ⟨T.setVm vm₁, locs, cells, slots⟩ (Value.ref b :: argsL).toArray q B ∧
      Steps p.tables e below (T.setTop g) ((B.U.setTop { g with stack := rest }).pushFrame (.throwing q))) := by
  obtain ⟨mk, methM, hnamed, hmethM, hstM, habM⟩ := Cond.instanceMethod_spec hinst
  obtain ⟨m8, methM', cM, hn8, hmethM', -, -, -, -, -, -, hsigM⟩ := Cond.codeWith_spec hcode
  cases Option.some.inj (hn8.symm.trans hnamed)
  cases hmethM.symm.trans hmethM'
  obtain ⟨c2, r2, m2, q1, q2, q3, q4, kP, hkP, hkPi⟩ := Cond.selects_spec hsel
  cases hcls.symm.trans q1
  cases (State.methodFound?_of_named hnamed hy).symm.trans q2
  cases hnamed.symm.trans q3
  have hselP : selectMethod e.platform s.vm cellB.cls mk = .method mk := by rw [Launch.admits_selectMethod X.admits]; exact q4
  obtain ⟨vm₁, X₁, hstep₁⟩ := X.invokevirtual hexec hown hlink hnamed hmethM hstM hkP hkPi hy (a := b) (cell := cellB) hcell
    (fun z h => by rw [h] at hobj; cases hobj) hselP hmethM habM hkP hkPi (g := g) hg (argsL := argsL) (rest := rest) (hlen _ hsigM) hstack hdg
  rcases hK m meth c ⟨T.setVm vm₁, locs, cells, slots⟩ { g with stack := rest } (.invokevirtual index) mk (Value.ref b :: argsL).toArray X₁ hg hsize hdg hW (X₁.named hnamed) (hpre vm₁ X₁.warmed) with ⟨v, B, X', hpost, hsteps⟩ | ⟨q, B, X', hpost, hsteps⟩
  · exact Or.inl ⟨v, vm₁, B, X₁.warmed, X', hpost, fun target h => hstep₁ _ fun acts => by rw [doInvoke_state]; exact hsteps.trans h⟩
  · exact Or.inr ⟨q, vm₁, B, X₁.warmed, X', hpost, hstep₁ _ fun acts => by rw [doInvoke_state]; exact hsteps⟩
theorem vx_callSX (X : Stand p l e R s m args below meth c T locs cells slots) (hexec : p.tables.exec = Jvm.exec) {own : String} {index : Nat} {y : MethodName} {bytes : ByteArray} {maxL : Nat} {ret : Option FieldType} {hh : List (Nat × Nat × Nat × Nat)}
    (hown : s.vm.findClass own = some m.cls) (hlink : (Cond.methodLink own index y).before args s = true) (hstat : (Cond.static y).before args s = true) (hinit : (Cond.initialized y.cls).before args s = true)
    (hcode : (Cond.codeWith y bytes maxL ret hh).before args s = true) (hy : y.cls ≠ "java/lang/invoke/MethodHandle" ∧ y.cls ≠ "java/lang/invoke/VarHandle")
    {W9 : Nat} {Pre : Pt → Array Value → Prop} {Post : Pt → Array Value → Option Value → Pt → Prop} {PostX : Pt → Array Value → Addr → Pt → Prop} (hK : vx_Back l R p e below s args y 3 W9 Pre Post PostX)
    {g : JFrame} (hg : g.method = m) (hsize : g.locals.size = c.maxLocals) {argsL rest : List Value} (hlen : ∀ sig, parseMethodDescriptor y.desc = some sig → argsL.length = sig.parameters.length)
    (hstack : g.stack = argsL.reverse ++ rest) (hW : 2 * g.monitorRoom + (rest.map fun v => v.category).sum ≤ W9) (hdg : decode c.code g.pc = .ok (.invokestatic index, 3))
    (hpre : ∀ vm₁, s.WarmedH vm₁ → Pre ⟨T.setVm vm₁, locs, cells, slots⟩ argsL.toArray) :
    (∃ (v : Option Value) (vm₁ : Vm) (B : Pt), s.WarmedH vm₁ ∧ Stand p l e R s m args below meth c B.U B.locs B.cells B.slots ∧ Post ⟨T.setVm vm₁, locs, cells, slots⟩ argsL.toArray v B ∧
      ∀ target, Steps p.tables e below (B.U.setTop { g with pc := g.pc + 3, stack := v.toList ++ rest }) target → Steps p.tables e below (T.setTop g) target) ∨
    (∃ (q : Addr) (vm₁ : Vm) (B : Pt), s.WarmedH vm₁ ∧ Stand p l e R s m args below meth c B.U B.locs B.cells B.slots ∧ PostX ⟨T.setVm vm₁, locs, cells, slots⟩ argsL.toArray q B ∧
      Steps p.tables e below (T.setTop g) ((B.U.setTop { g with stack := rest }).pushFrame (.throwing q))) := by
  obtain ⟨mk, methM, cM, hnamed, hmethM, -, -, -, -, -, -, hsigM⟩ := Cond.codeWith_spec hcode
  have hstatic : methM.isStatic = true := Cond.static_spec hnamed hmethM hstat
  obtain ⟨kP, hkP, -⟩ := className_of_methodNamed hnamed
  have hinitP : kP.init = .initialized := Cond.initialized_spec (findClass_of_methodNamed hnamed) hkP hinit
  obtain ⟨vm₁, X₁, hstep₁⟩ := X.invokestatic hexec hown hlink hnamed hmethM hstatic hkP hinitP hy (g := g) hg (argsL := argsL) (rest := rest) (hlen _ hsigM) hstack hdg
  rcases hK m meth c ⟨T.setVm vm₁, locs, cells, slots⟩ { g with stack := rest } (.invokestatic index) mk argsL.toArray X₁ hg hsize hdg hW (X₁.named hnamed) (hpre vm₁ X₁.warmed) with ⟨v, B, X', hpost, hsteps⟩ | ⟨q, B, X', hpost, hsteps⟩
  · exact Or.inl ⟨v, vm₁, B, X₁.warmed, X', hpost, fun target h => hstep₁ _ fun acts => by rw [doInvoke_state]; exact hsteps.trans h⟩
  · exact Or.inr ⟨q, vm₁, B, X₁.warmed, X', hpost, hstep₁ _ fun acts => by rw [doInvoke_state]; exact hsteps⟩
theorem vx_callVW (X : Stand p l e R s m args below meth c T locs cells slots) (hexec : p.tables.exec = Jvm.exec) {own C : String} {index : Nat} {y : MethodName} {bytes : ByteArray} {maxL : Nat} {ret : Option FieldType} {hh : List (Nat × Nat × Nat × Nat)}
    (hown : s.vm.findClass own = some m.cls) (hlink : (Cond.methodLink own index y).before args s = true) (hinst : (Cond.instanceMethod y).before args s = true) (hsel : (Cond.selects C y y).before args s = true)
    (hcode : (Cond.codeWith y bytes maxL ret hh).before args s = true) (hy : y.cls ≠ "java/lang/invoke/MethodHandle" ∧ y.cls ≠ "java/lang/invoke/VarHandle")
    {W9 : Nat} {Pre : Pt → Array Value → Prop} {Post : Pt → Array Value → Option Value → Pt → Prop} (hK : Back l R p e below s args y 3 W9 Pre Post)
    {b : Addr} {cellB : Cell} (hcell : T.heap[b]? = some cellB) (hobj : cellB.vm.isStatics = false) (hcls : s.vm.findClass C = some cellB.cls)
    {g : JFrame} (hg : g.method = m) (hsize : g.locals.size = c.maxLocals) {argsL rest : List Value} (hlen : ∀ sig, parseMethodDescriptor y.desc = some sig → argsL.length = sig.parameters.length)
    (hstack : g.stack = argsL.reverse ++ .ref b :: rest) (hW : 2 * g.monitorRoom + (rest.map fun v => v.category).sum ≤ W9) (hdg : decode c.code g.pc = .ok (.invokevirtual index, 3))
    (hpre : ∀ vm₁, s.WarmedH vm₁ → Pre ⟨T.setVm vm₁, locs, cells, slots⟩ (Value.ref b :: argsL).toArray) :
    ∃ (v : Option Value) (vm₁ : Vm) (B : Pt), s.WarmedH vm₁ ∧ Stand p l e R s m args below meth c B.U B.locs B.cells B.slots ∧ Post ⟨T.setVm vm₁, locs, cells, slots⟩ (Value.ref b :: argsL).toArray v B ∧
      ∀ target, Steps p.tables e below (B.U.setTop { g with pc := g.pc + 3, stack := v.toList ++ rest }) target → Steps p.tables e below (T.setTop g) target := by
  obtain ⟨mk, methM, hnamed, hmethM, hstM, habM⟩ := Cond.instanceMethod_spec hinst
  obtain ⟨m8, methM', cM, hn8, hmethM', -, -, -, -, -, -, hsigM⟩ := Cond.codeWith_spec hcode
  cases Option.some.inj (hn8.symm.trans hnamed)
  cases hmethM.symm.trans hmethM'
  obtain ⟨c2, r2, m2, q1, q2, q3, q4, kP, hkP, hkPi⟩ := Cond.selects_spec hsel
  cases hcls.symm.trans q1
  cases (State.methodFound?_of_named hnamed hy).symm.trans q2
  cases hnamed.symm.trans q3
  have hselP : selectMethod e.platform s.vm cellB.cls mk = .method mk := by rw [Launch.admits_selectMethod X.admits]; exact q4
  obtain ⟨vm₁, X₁, hstep₁⟩ := X.invokevirtual hexec hown hlink hnamed hmethM hstM hkP hkPi hy (a := b) (cell := cellB) hcell
    (fun z h => by rw [h] at hobj; cases hobj) hselP hmethM habM hkP hkPi (g := g) hg (argsL := argsL) (rest := rest) (hlen _ hsigM) hstack hdg
  obtain ⟨v, B, X', hpost, hsteps⟩ := hK m meth c ⟨T.setVm vm₁, locs, cells, slots⟩ { g with stack := rest } (.invokevirtual index) mk (Value.ref b :: argsL).toArray X₁ hg hsize hdg hW (X₁.named hnamed) (hpre vm₁ X₁.warmed)
  exact ⟨v, vm₁, B, X₁.warmed, X', hpost, fun target h => hstep₁ _ fun acts => by rw [doInvoke_state]; exact hsteps.trans h⟩
abbrev vx_CVW (R : Room) (s : State) (args : Array Value) (own C : String) (index : Nat) (y : MethodName) (bytes : ByteArray) (maxL : Nat) (ret : Option FieldType) (hh : List (Nat × Nat × Nat × Nat)) (ws : List Cond) (rm : Room) (mc ms n : Nat) : Prop :=
  (rm.cells = mc ∧ rm.slots = ms ∧ rm.frames + 1 ≤ R.frames ∧ 8 + (maxL + 11) + rm.locals ≤ R.locals ∧ (∀ w ∈ ws, ∀ (a' : Array Value) (U : State), s.WarmedH U.vm → w.before a' U = true) ∧ Cond.codeWith y bytes maxL ret hh ∈ ws) ∧
  (Cond.codeWith y bytes maxL ret hh).before args s = true ∧ (Cond.initialized y.cls).before args s = true ∧ (y.cls ≠ "java/lang/invoke/MethodHandle" ∧ y.cls ≠ "java/lang/invoke/VarHandle") ∧
  (∀ sig, parseMethodDescriptor y.desc = some sig → n = sig.parameters.length) ∧ (Cond.methodLink own index y).before args s = true ∧ (Cond.instanceMethod y).before args s = true ∧ (Cond.selects C y y).before args s = true
theorem vx_cwVW {own C : String} {index maxL mc ms : Nat} {y : MethodName} {bytes : ByteArray} {ret : Option FieldType} {hh : List (Nat × Nat × Nat × Nat)} {Ts ws ws' : List Cond} {rm : Room} (n : Nat) (ht : ∀ w ∈ Ts, w.before args s = true) (hT : GoodIn Ts (wsV own index C y ws)) (hw : ws = Cond.codeWith y bytes maxL ret hh :: ws') (hrc : rm.cells = mc) (hrs : rm.slots = ms)
    (hd : y.cls = C ∧ y.cls ≠ "java/lang/invoke/MethodHandle" ∧ y.cls ≠ "java/lang/invoke/VarHandle" ∧ (parseMethodDescriptor y.desc).map (fun d => d.parameters.length) = some n) (hR : rm.frames + 1 ≤ R.frames ∧ 8 + (maxL + 11) + rm.locals ≤ R.locals) :
    vx_CVW R s args own C index y bytes maxL ret hh ws rm mc ms n := by
  obtain ⟨hC, hd⟩ := hd
  subst hC
  have ok : ∀ w ∈ wsV own index y.cls y ws, w.before args s = true := fun w h => ht w (hT w h).1
  have hG : GoodIn Ts ws := fun w h => hT w (by unfold wsV; exact List.mem_append_right _ h)
  have hc : Cond.codeWith y bytes maxL ret hh ∈ ws := by rw [hw]; exact List.mem_cons_self
  refine ⟨⟨hrc, hrs, hR.1, hR.2, pay_in ht hG, hc⟩, ht _ (hG _ hc).1, ok _ (by simp [wsV]), ⟨hd.1, hd.2.1⟩, fun sig h => ?_, ok _ (by simp [wsV]), ok _ (by simp [wsV]), ok _ (by simp [wsV])⟩
  have h2 := hd.2.2
  rw [h] at h2
  exact (Option.some.inj h2).symm
theorem vx_runVW {y : MethodName} {bytes cc : ByteArray} {maxL nL mc ms n index : Nat} {ret : Option FieldType} {hh : List (Nat × Nat × Nat × Nat)} {ws : List Cond} {rm : Room} {Pc : Array Value → State → Prop} {Qc : Array Value → State → Outcome → State → Prop} {free : Addr → Prop} {Ts : List Cond} {own C : String} {b : Addr} {As rest : List Value} {g : JFrame}
    (S : CallFix p m c cc nL s args Ts own) (hM : Met l y ws rm Pc Qc mc ms free) (cw : vx_CVW R s args own C index y bytes maxL ret hh ws rm mc ms n) (hp : PreV s H C b Pc As)
    (hg : g.method = m) (hn : As.length = n) (hsize : g.locals.size = nL) (hstack : g.stack = As.reverse ++ .ref b :: rest) (hW : 2 * g.monitorRoom + (rest.map fun v => v.category).sum ≤ 8) (hdg : decode cc g.pc = .ok (.invokevirtual index, 3)) (hf : cells + mc ≤ R.cells ∧ slots + ms ≤ R.slots) :
    va_Run p l e R s m args below meth c H locs cells slots mc ms g rest (Qc (Value.ref b :: As).toArray) free := by
  obtain ⟨⟨hrc, hrs, hfr, hlo, hws, hcw⟩, hcode, hini, hy, hlen, hl, hin, hse⟩ := cw
  have hK : Back l R p e below s args y 3 8 (PreOf R mc ms Pc) (PostOf Qc mc ms free) := va_backW (hh := hh) (bytes := bytes) (maxL := maxL) (ret := ret) hM hp.1 hrc hrs hfr hlo hws hcw (fun a' U hW => word_at hW (Or.inl (by first | rfl | simp [Cond.onTables, Cond.keeps, Cond.steady])) hini)
  obtain ⟨hx, hb, hml, ho, -⟩ := S
  obtain ⟨-, ⟨cellB, hcB, hoB, hclB⟩, hPc⟩ := hp
  intro T hT X
  obtain ⟨v, vm₁, ⟨U', l2, c2, s2⟩, hW₁, X', ⟨g', mk, t, L, e1, e2, hq, h1, hL, h2, h3⟩, st⟩ := vx_callVW X hx (C := C) (hh := hh) (bytes := bytes) (maxL := maxL) (ret := ret) ho hl hin hse hcode hy hK (by rw [hT]; exact hcB) hoB hclB hg (hsize.trans hml.symm) (argsL := As) (rest := rest) (fun sig h => hn.trans (hlen sig h)) hstack hW (by rw [hb]; exact hdg)
    (fun vm₁ hW₁ => ⟨hf.1, hf.2, hPc (T.setVm vm₁) hT hW₁⟩)
  dsimp only [Pt.U, Pt.locs, Pt.cells, Pt.slots] at X' e1 e2 h1 h2 h3 st
  subst h1; subst h2; subst h3
  exact ⟨v, (T.setVm vm₁).calling g' mk (Value.ref b :: As).toArray, t, U', L, hT, X', hL, e1, e2, hq, st⟩
section
variable {y : MethodName} {bytes cc : ByteArray} {maxL nL mc ms n index : Nat} {ret : Option FieldType} {ws : List Cond} {rm : Room} {Pc : Array Value → State → Prop} {Qc : Array Value → State → Outcome → State → Prop} {XC : String → State → State → Prop} {free : Addr → Prop} {Ts : List Cond} {own C : String} {b : Addr} {As rest : List Value} {g : JFrame}
theorem vx_runVX {hh : List (Nat × Nat × Nat × Nat)} (S : CallFix p m c cc nL s args Ts own) (hM : vx_Met l y ws rm Pc Qc XC mc ms free) (cw : vx_CVW R s args own C index y bytes maxL ret hh ws rm mc ms n) (hp : PreV s H C b Pc As)
    (hg : g.method = m) (hn : As.length = n) (hsize : g.locals.size = nL) (hstack : g.stack = As.reverse ++ .ref b :: rest) (hW : 2 * g.monitorRoom + (rest.map fun v => v.category).sum ≤ 8) (hdg : decode cc g.pc = .ok (.invokevirtual index, 3)) (hf : cells + mc ≤ R.cells ∧ slots + ms ≤ R.slots) :
    vx_Run p l e R s m args below meth c H locs cells slots mc ms g rest (Qc (Value.ref b :: As).toArray) XC free := by
  obtain ⟨⟨hrc, hrs, hfr, hlo, hws, hcw⟩, hcode, hini, hy, hlen, hl, hin, hse⟩ := cw
  have hK : vx_Back l R p e below s args y 3 8 (PreOf R mc ms Pc) (PostOf Qc mc ms free) (vx_Post XC mc ms free) := vx_backW (hh := hh) (bytes := bytes) (maxL := maxL) (ret := ret) hM hp.1 hrc hrs hfr hlo hws hcw (fun a' U hW => word_at hW (Or.inl (by first | rfl | simp [Cond.onTables, Cond.keeps, Cond.steady])) hini)
  obtain ⟨hx, hb, hml, ho, -⟩ := S
  obtain ⟨-, ⟨cellB, hcB, hoB, hclB⟩, hPc⟩ := hp
  intro T hT X
  rcases vx_callVX X hx (C := C) (hh := hh) (bytes := bytes) (maxL := maxL) (ret := ret) ho hl hin hse hcode hy hK (by rw [hT]; exact hcB) hoB hclB hg (hsize.trans hml.symm) (argsL := As) (rest := rest) (fun sig h => hn.trans (hlen sig h)) hstack hW (by rw [hb]; exact hdg)
    (fun vm₁ hW₁ => ⟨hf.1, hf.2, hPc (T.setVm vm₁) hT hW₁⟩) with ⟨v, vm₁, ⟨U', l2, c2, s2⟩, hW₁, X', ⟨g', mk, t, L, e1, e2, hq, h1, hL, h2, h3⟩, st⟩ | ⟨q, vm₁, ⟨U', l2, c2, s2⟩, hW₁, X', ⟨g', mk, t, L, E, ce, e1, e2, hq, hce, hcv, hcl, h1, hL, h2, h3⟩, st⟩
  · dsimp only [Pt.U, Pt.locs, Pt.cells, Pt.slots] at X' e1 e2 h1 h2 h3 st
    subst h1; subst h2; subst h3
    exact Or.inl ⟨v, (T.setVm vm₁).calling g' mk (Value.ref b :: As).toArray, t, U', L, hT, X', hL, e1, e2, hq, st⟩
  · dsimp only [Pt.U, Pt.locs, Pt.cells, Pt.slots] at X' e1 e2 h1 h2 h3 st hcl
    subst h1; subst h2; subst h3
    exact Or.inr ⟨q, (T.setVm vm₁).calling g' mk (Value.ref b :: As).toArray, t, U', L, E, ce, hT, X', hL, e1, e2, hq, hce, hcv, vx_cls hW₁ hcl, st⟩
theorem vx_runSX {hh : List (Nat × Nat × Nat × Nat)} (S : CallFix p m c cc nL s args Ts own) (hM : vx_Met l y ws rm Pc Qc XC mc ms free) (cw : vx_CSW R s args own index y bytes maxL ret hh ws rm mc ms n) (hp : PreS s H Pc As)
    (hg : g.method = m) (hn : As.length = n) (hsize : g.locals.size = nL) (hstack : g.stack = As.reverse ++ rest) (hW : 2 * g.monitorRoom + (rest.map fun v => v.category).sum ≤ 8) (hdg : decode cc g.pc = .ok (.invokestatic index, 3)) (hf : cells + mc ≤ R.cells ∧ slots + ms ≤ R.slots) :
    vx_Run p l e R s m args below meth c H locs cells slots mc ms g rest (Qc As.toArray) XC free := by
  obtain ⟨⟨hrc, hrs, hfr, hlo, hws, hcw⟩, hcode, hini, hy, hlen, hl, hstt⟩ := cw
  have hK : vx_Back l R p e below s args y 3 8 (PreOf R mc ms Pc) (PostOf Qc mc ms free) (vx_Post XC mc ms free) := vx_backW (hh := hh) (bytes := bytes) (maxL := maxL) (ret := ret) hM hp.1 hrc hrs hfr hlo hws hcw (fun a' U hW => word_at hW (Or.inl (by first | rfl | simp [Cond.onTables, Cond.keeps, Cond.steady])) hini)
  obtain ⟨hx, hb, hml, ho, -⟩ := S
  intro T hT X
  rcases vx_callSX X hx (hh := hh) (bytes := bytes) (maxL := maxL) (ret := ret) ho hl hstt hini hcode hy hK hg (hsize.trans hml.symm) (argsL := As) (rest := rest) (fun sig h => hn.trans (hlen sig h)) hstack hW (by rw [hb]; exact hdg)
    (fun vm₁ hW₁ => ⟨hf.1, hf.2, hp.2 (T.setVm vm₁) hT hW₁⟩) with ⟨v, vm₁, ⟨U', l2, c2, s2⟩, hW₁, X', ⟨g', mk, t, L, e1, e2, hq, h1, hL, h2, h3⟩, st⟩ | ⟨q, vm₁, ⟨U', l2, c2, s2⟩, hW₁, X', ⟨g', mk, t, L, E, ce, e1, e2, hq, hce, hcv, hcl, h1, hL, h2, h3⟩, st⟩
  · dsimp only [Pt.U, Pt.locs, Pt.cells, Pt.slots] at X' e1 e2 h1 h2 h3 st
    subst h1; subst h2; subst h3
    exact Or.inl ⟨v, (T.setVm vm₁).calling g' mk As.toArray, t, U', L, hT, X', hL, e1, e2, hq, st⟩
  · dsimp only [Pt.U, Pt.locs, Pt.cells, Pt.slots] at X' e1 e2 h1 h2 h3 st hcl
    subst h1; subst h2; subst h3
    exact Or.inr ⟨q, (T.setVm vm₁).calling g' mk As.toArray, t, U', L, E, ce, hT, X', hL, e1, e2, hq, hce, hcv, vx_cls hW₁ hcl, st⟩
end
end VXH
theorem vx_ofWH {l : Launch} {y : MethodName} {ws ws' : List Cond} {rm : Room} {Pc : Array Value → State → Prop} {Qc : Array Value → State → Outcome → State → Prop} {XC : String → State → State → Prop} {mc ms : Nat} {free : Addr → Prop} {cc : ByteArray} {maxL : Nat} {ret : Option FieldType} {hh : List (Nat × Nat × Nat × Nat)}
    (hy : plainName y.cls = true) (hw : ws = Cond.codeWith y cc maxL ret hh :: ws')
    (body : ∀ p e s m args below meth c s₁, BodyLoose p l y (headSpec ws rm) cc maxL ret e s m args below meth c s₁ → c.maxLocals = maxL → Pc args s →
      W p l e (headSpec ws rm).room s m args below meth c s.heap [] 0 0 (vx_MQ below Qc XC args s mc ms free) (entryFrame m args maxL)) : vx_Met l y ws rm Pc Qc XC mc ms free := by
  refine MetFree.of_bodyS (code := cc) (maxLocals := maxL) (ret := ret) hy ?_ ?_
  · intro args s m h hn
    obtain ⟨m9, meth, c, hn9, h1, h2, h3, h4, -, h5, h6, -⟩ := Cond.codeWith_spec (atoms_spec (ws := ws) h _ (by rw [hw]; exact List.mem_cons_self))
    cases hn.symm.trans hn9
    exact ⟨meth, c, h1, h2, h3, h4, h5, h6⟩
  · intro p e s m args below meth c s₁ B hml hP _
    have hh0 : s₁.heap = s.heap := by rw [B.state]; rfl
    obtain ⟨t, a1, o, b1, b2, b3⟩ := body p e s m args below meth c s₁ B hml hP s₁ hh0 (Stand.of_body B)
    exact ⟨t, o, a1, b1, b2, b3⟩
/-! ===== END ===== -/
end
section
/-! THE WORLD: what the objects of the class, of the reference and of the law hold, by their numbers; 0 is null. Numbers 1 and 2 are the class's two static rows, 3 is the script: never written. From 4 on they count what was made since the law's start. -/
abbrev zW : Type := (Nat → Nat → Int32) × (Nat → Nat → Nat) × (Nat → Nat) × (Nat → Nat) × (Nat × Nat) × (Nat → UInt64)
def zI (σ : zW) : Nat → Nat → Int32 := σ.1
def zR (σ : zW) : Nat → Nat → Nat := σ.2.1
def zK (σ : zW) : Nat → Nat := σ.2.2.1
def zL (σ : zW) : Nat → Nat := σ.2.2.2.1
def zN (σ : zW) : Nat := σ.2.2.2.2.1.1
def zS (σ : zW) : Nat := σ.2.2.2.2.1.2
def zD (σ : zW) : Nat → UInt64 := σ.2.2.2.2.2
/-- a number is stored, a reference, a whole row, a double; an object or a row is made; an exception is made -/
def stI (σ : zW) (o k : Nat) (v : Int32) : zW := (va_up σ.1 o (va_up (σ.1 o) k v), σ.2)
def stR (σ : zW) (o k v : Nat) : zW := (σ.1, va_up σ.2.1 o (va_up (σ.2.1 o) k v), σ.2.2)
def stA (σ : zW) (o : Nat) (f : Nat → Int32) : zW := (va_up σ.1 o f, σ.2)
def stD (σ : zW) (o : Nat) (d : UInt64) : zW := (σ.1, σ.2.1, σ.2.2.1, σ.2.2.2.1, σ.2.2.2.2.1, va_up σ.2.2.2.2.2 o d)
def nw (σ : zW) (κ n : Nat) : zW := (va_up σ.1 (zN σ + 4) (fun _ => 0), va_up σ.2.1 (zN σ + 4) (fun _ => 0), va_up σ.2.2.1 (zN σ + 4) κ, va_up σ.2.2.2.1 (zN σ + 4) n, (zN σ + 1, zS σ + n), va_up σ.2.2.2.2.2 (zN σ + 4) 0)
def nwX (σ : zW) : zW := (σ.1, σ.2.1, σ.2.2.1, σ.2.2.2.1, (zN σ + 1, zS σ + 6), σ.2.2.2.2.2)
/-- what stays through a whole run: launch, the law's first state, the classes' numbers and slots, the rows' classes, the addresses -/
abbrev zE : Type := Launch × State × va_G × (Nat → ClassId) × (Nat → Nat)
def eL (E : zE) : Launch := E.1
def eS (E : zE) : State := E.2.1
def eD (E : zE) : va_G := E.2.2.1
def eC (E : zE) : Nat → ClassId := E.2.2.2.1
def eA (E : zE) : Nat → Nat := E.2.2.2.2
abbrev zB (E : zE) : Nat := (eS E).heap.size
def zro (E : zE) (r : Nat) : Option Nat := if r = 0 then none else some (eA E r)
def zrv (E : zE) (r : Nat) : Value := va_rf (zro E r)
theorem zrv_ref {E : zE} {r : Nat} (h : r ≠ 0) : zrv E r = .ref (eA E r) := by unfold zrv zro; rw [if_neg h]; rfl
theorem zrv_null {E : zE} : zrv E 0 = .null := rfl
/-- the classes, kind k is the one at k - 1; which fields are references -/
abbrev zcl : List vw_C := [(RX0, TX0, 3), (RX1, TX1, 5), (RX2, TX2, 12), (RX3, TX3, 7), (RX4, TX4, 6), (RX5, TX5, 3), (RX6, TX6, 6), (RX7, TX7, 7), (RX8, TX8, 18)]
def zft : Nat → List Bool
  | 1 => [true, false, false]
  | 2 => [true, true, true, true, false]
  | 3 => [true, true, true, true, false, false, false, false, false, false, false, false]
  | 4 => [true, true, true, true, true, false, false]
  | 5 => [true, true, false, false, false, false]
  | 6 => [true, true, false]
  | 7 => [true, true, false, false, false, false]
  | 8 => [true, true, true, true, true, false, false]
  | 9 => [false, true, true, false, true, false, false, false, false, false, false, true, false, false, false, false, true, false]
  | _ => []
def zfv (E : zE) (σ : zW) (o : Nat) (l : List Bool) : List Value := (List.range l.length).map (fun k => if l.getD k false = true then zrv E (zR σ o k) else .int (zI σ o k))
/-- rows: 20 ints, 21 ints that are never written, 22 chars, 23 longs (each an int's value), 24 doubles, 25 Lots, 26 Sales -/
def zent (E : zE) (σ : zW) (o : Nat) : va_E :=
  if zK σ o < 20 then .inr (zK σ o - 1, zfv E σ o (zft (zK σ o)))
  else if zK σ o = 23 then .inl (eC E 23, zL σ o, .inr (.inl (fun j => (zI σ o j).toInt64)))
  else if zK σ o = 24 then .inl (eC E 24, zL σ o, .inr (.inr (.inr (.inl (fun _ => zD σ o)))))
  else if 25 ≤ zK σ o then .inl (eC E (zK σ o), zL σ o, .inr (.inr (.inr (.inr (fun j => zro E (zR σ o j))))))
  else .inl (eC E (zK σ o), zL σ o, .inl (zI σ o))
/-- the slots of the cells from b on -/
def zsum (b : Nat) (H : Heap) : Nat := ((H.toList.drop b).map (fun (c : Cell) => c.slots.size)).sum
/-- the heap holds the world -/
def zRp (E : zE) (σ : zW) (H : Heap) : Prop :=
  H.size = zB E + zN σ ∧ (∀ q : Nat, q < zB E → H[q]? = (eS E).heap[q]?) ∧ zsum (zB E) H = zS σ ∧ zN σ ≤ 603072 ∧ zS σ ≤ 7219305 ∧
  ∀ o : Nat, zK σ o ≠ 0 → o ≠ 0 ∧ o < zN σ + 4 ∧ (o < 4 → zK σ o = 21) ∧ va_at (eD E) zcl (eA E o, zent E σ o) H
theorem zsum_same {b : Nat} {H H1 : Heap} (hs : H1.size = H.size) (h : ∀ q : Nat, (H1[q]?).map (fun (c : Cell) => c.slots.size) = (H[q]?).map (fun (c : Cell) => c.slots.size)) : zsum b H1 = zsum b H := by
  unfold zsum
  congr 1
  apply List.ext_getElem?
  intro i
  simp only [List.getElem?_map, List.getElem?_drop, Array.getElem?_toList]
  exact h (b + i)
theorem zpush {H H1 : Heap} {x : Cell} (hs : H1.size = H.size + 1) (h : ∀ q : Nat, q < H.size → H1[q]? = H[q]?) (hx : H1[H.size]? = some x) : H1.toList = H.toList ++ [x] := by
  apply List.ext_getElem?
  intro i
  rw [Array.getElem?_toList]
  by_cases h1 : i < H.size
  · rw [List.getElem?_append_left (by simpa using h1), h i h1, Array.getElem?_toList]
  · by_cases h2 : i = H.size
    · subst h2
      rw [hx, List.getElem?_append_right (by simp)]
      simp
    · rw [List.getElem?_append_right (by simp; omega), Array.getElem?_eq_none (by omega)]
      rw [List.getElem?_eq_none]
      simp; omega
theorem zsum_push {b : Nat} {H H1 : Heap} {x : Cell} (hb : b ≤ H.size) (hs : H1.size = H.size + 1) (h : ∀ q : Nat, q < H.size → H1[q]? = H[q]?) (hx : H1[H.size]? = some x) : zsum b H1 = zsum b H + x.slots.size := by
  unfold zsum
  rw [zpush hs h hx, List.drop_append_of_le_length (by simpa using hb)]
  simp
theorem zsum_split {b c : Nat} {H : Heap} (hbc : b ≤ c) : zsum b H = (((H.toList.drop b).take (c - b)).map (fun (c : Cell) => c.slots.size)).sum + zsum c H := by
  unfold zsum
  rw [← List.sum_append, ← List.map_append]
  congr 2
  have h : H.toList.drop c = (H.toList.drop b).drop (c - b) := by rw [List.drop_drop]; congr 1; omega
  rw [h, List.take_append_drop]
/-- the room that a walk has used, read off the heap itself -/
theorem z_tight {p : Program} {l : Launch} {e : Env} {R : Room} {s : State} {m : MethodId} {args : Array Value} {below : List Frame} {meth : Method} {c : Code} {H : Heap} {locs : List Loc} {cells slots : Nat} {Q : State → Prop} {g : JFrame} {E : zE} {σ0 σ : zW} {k n : Nat}
    (h0 : zRp E σ0 s.heap) (h : zRp E σ H) (hk : zN σ ≤ zN σ0 + k) (hn : zS σ ≤ zS σ0 + n) (kk : W p l e R s m args below meth c H locs k n Q g) : W p l e R s m args below meth c H locs cells slots Q g := by
  intro T hT X
  refine kk T hT { X with same := ?_ }
  obtain ⟨e1, e2, e3, e4, e5, e6⟩ := X.same
  have hh : (T.setVm s.vm).heap = H := hT
  rw [hh] at e2 e3 e5 e6
  refine ⟨e1, by rw [hh]; exact e2, ?_, e4, ?_, by rw [hh]; exact e6⟩
  · rw [hh, h.1, h0.1]; omega
  · rw [hh]
    show zsum s.heap.size H ≤ n
    have hb : zB E ≤ s.heap.size := by rw [h0.1]; omega
    have s1 := zsum_split (H := H) hb
    have s2 := zsum_split (H := s.heap) hb
    have s3 : zsum s.heap.size s.heap = 0 := by
      unfold zsum
      rw [List.drop_eq_nil_of_le (by simp)]
      rfl
    have s4 : ((H.toList.drop (zB E)).take (s.heap.size - zB E)).map (fun (c : Cell) => c.slots.size) = ((s.heap.toList.drop (zB E)).take (s.heap.size - zB E)).map (fun (c : Cell) => c.slots.size) := by
      apply List.ext_getElem?
      intro i
      simp only [List.getElem?_map, List.getElem?_take, List.getElem?_drop, Array.getElem?_toList]
      by_cases hi : i < s.heap.size - zB E
      · rw [if_pos hi, if_pos hi]
        have hl : zB E + i < s.heap.size := by omega
        obtain ⟨c', g1, -, g3, -⟩ := e6 (zB E + i) _ (Array.getElem?_eq_getElem hl)
        rw [g1, Array.getElem?_eq_getElem hl]
        simp [g3]
      · rw [if_neg hi, if_neg hi]
    rw [s4] at s1
    have h3 : zsum (zB E) H = zS σ := h.2.2.1
    have h4 : zsum (zB E) s.heap = zS σ0 := h0.2.2.1
    omega
end
section
/-! THE WALK: values as a walk names them: a number, a reference by its object's number, a long, a double, an address outside the world (an exception that was caught) -/
abbrev zV : Type := Int32 ⊕ Nat ⊕ Int64 ⊕ UInt64 ⊕ Nat
def zv (E : zE) : zV → Value
  | .inl x => .int x
  | .inr (.inl r) => zrv E r
  | .inr (.inr (.inl x)) => .long x
  | .inr (.inr (.inr (.inl x))) => .double x
  | .inr (.inr (.inr (.inr a))) => .ref a
abbrev zLV : Type := List (Option zV)
/-- the locals that are known, by their places -/
def zlv (E : zE) : Nat → zLV → List (Nat × Value)
  | _, [] => []
  | i, none :: t => zlv E (i + 1) t
  | i, some v :: t => (i, zv E v) :: zlv E (i + 1) t
def zget : zLV → Nat → Option zV
  | [], _ => none
  | a :: _, 0 => a
  | _ :: t, k + 1 => zget t k
def zwide : Option zV → Bool
  | some (.inr (.inr (.inl _))) => true
  | some (.inr (.inr (.inr (.inl _)))) => true
  | _ => false
def zset : zLV → Nat → zV → Option zLV
  | [], _, _ => none
  | _ :: t, 0, v => some (some v :: t)
  | a :: t, k + 1, v => match zwide a with
    | true => none
    | false => match zset t k v with
      | some t' => some (a :: t')
      | none => none
/-- locals left out, by a mask -/
def zmask : zLV → List Bool → zLV
  | [], _ => []
  | a :: t, [] => a :: t
  | a :: t, b :: m => (match b with | true => a | false => none) :: zmask t m
def zcst : Int → Int32
  | .ofNat k => Int32.ofNat k
  | .negSucc k => -(Int32.ofNat (k + 1))
def zfit (b : Nat) : Int → Bool
  | .ofNat k => Nat.ble (k + 1) b
  | .negSucc k => Nat.ble (k + 1) b
/-- the instructions that touch neither heap nor branch -/
def zp1 : Instr → Nat → zLV → List zV → Option (Nat × zLV × List zV)
  | .iconst n, pc, lv, st => some (pc + 1, lv, .inl (zcst n) :: st)
  | .bipush n, pc, lv, st => match zfit 128 n with
    | true => some (pc + 2, lv, .inl (zcst n) :: st)
    | false => none
  | .sipush n, pc, lv, st => match zfit 32768 n with
    | true => some (pc + 3, lv, .inl (zcst n) :: st)
    | false => none
  | .iload_n k, pc, lv, st => match zget lv k with
    | some (.inl x) => some (pc + 1, lv, .inl x :: st)
    | _ => none
  | .iload k, pc, lv, st => match zget lv k with
    | some (.inl x) => some (pc + 2, lv, .inl x :: st)
    | _ => none
  | .aload_n k, pc, lv, st => match zget lv k with
    | some (.inr (.inl r)) => some (pc + 1, lv, .inr (.inl r) :: st)
    | _ => none
  | .aload k, pc, lv, st => match zget lv k with
    | some (.inr (.inl r)) => some (pc + 2, lv, .inr (.inl r) :: st)
    | _ => none
  | .dload k, pc, lv, st => match zget lv k with
    | some (.inr (.inr (.inr (.inl r)))) => some (pc + 2, lv, .inr (.inr (.inr (.inl r))) :: st)
    | _ => none
  | .istore_n k, pc, lv, .inl x :: st => match zset lv k (.inl x) with
    | some lv' => some (pc + 1, lv', st)
    | none => none
  | .istore k, pc, lv, .inl x :: st => match zset lv k (.inl x) with
    | some lv' => some (pc + 2, lv', st)
    | none => none
  | .astore_n k, pc, lv, .inr (.inl r) :: st => match zset lv k (.inr (.inl r)) with
    | some lv' => some (pc + 1, lv', st)
    | none => none
  | .astore k, pc, lv, .inr (.inl r) :: st => match zset lv k (.inr (.inl r)) with
    | some lv' => some (pc + 2, lv', st)
    | none => none
  | .astore_n k, pc, lv, .inr (.inr (.inr (.inr r))) :: st => match zset lv k (.inr (.inr (.inr (.inr r)))) with
    | some lv' => some (pc + 1, lv', st)
    | none => none
  | .astore k, pc, lv, .inr (.inr (.inr (.inr r))) :: st => match zset lv k (.inr (.inr (.inr (.inr r)))) with
    | some lv' => some (pc + 2, lv', st)
    | none => none
  | .iinc k n, pc, lv, st => match zget lv k with
    | some (.inl x) => match zset lv k (.inl (x + zcst n)) with
      | some lv' => some (pc + 3, lv', st)
      | none => none
    | _ => none
  | .iadd, pc, lv, .inl y :: .inl x :: st => some (pc + 1, lv, .inl (x + y) :: st)
  | .isub, pc, lv, .inl y :: .inl x :: st => some (pc + 1, lv, .inl (x - y) :: st)
  | .imul, pc, lv, .inl y :: .inl x :: st => some (pc + 1, lv, .inl (x * y) :: st)
  | .iand, pc, lv, .inl y :: .inl x :: st => some (pc + 1, lv, .inl (x &&& y) :: st)
  | .i2l, pc, lv, .inl x :: st => some (pc + 1, lv, .inr (.inr (.inl x.toInt64)) :: st)
  | .l2i, pc, lv, .inr (.inr (.inl x)) :: st => some (pc + 1, lv, .inl x.toInt32 :: st)
  | .i2c, pc, lv, .inl x :: st => some (pc + 1, lv, .inl (x.toUInt32 % 65536).toInt32 :: st)
  | .i2d, pc, lv, .inl x :: st => some (pc + 1, lv, .inr (.inr (.inr (.inl (FP.i2d x)))) :: st)
  | .lmul, pc, lv, .inr (.inr (.inl y)) :: .inr (.inr (.inl x)) :: st => some (pc + 1, lv, .inr (.inr (.inl (x * y))) :: st)
  | .lcmp, pc, lv, .inr (.inr (.inl y)) :: .inr (.inr (.inl x)) :: st => some (pc + 1, lv, .inl (lg_cmp x y) :: st)
  | .dcmp op, pc, lv, .inr (.inr (.inr (.inl y))) :: .inr (.inr (.inr (.inl x))) :: st => some (pc + 1, lv, .inl (Op.cmpValue (FP.dcmp x y) op) :: st)
  | .dstore k, pc, lv, .inr (.inr (.inr (.inl x))) :: st => match zget lv (k + 1) with
    | none => match zset lv (k + 1) (.inl 0) with
      | some _ => match zset lv k (.inr (.inr (.inr (.inl x)))) with
        | some lv' => some (pc + 2, lv', st)
        | none => none
      | none => none
    | _ => none
  | .dup, pc, lv, .inl x :: st => some (pc + 1, lv, .inl x :: .inl x :: st)
  | .dup, pc, lv, .inr (.inl x) :: st => some (pc + 1, lv, .inr (.inl x) :: .inr (.inl x) :: st)
  | .dup2, pc, lv, .inl y :: .inr (.inl x) :: st => some (pc + 1, lv, .inl y :: .inr (.inl x) :: .inl y :: .inr (.inl x) :: st)
  | _, _, _, _ => none
def zrun : List jI → Nat → zLV → List zV → Option (Nat × zLV × List zV)
  | [], pc, lv, st => some (pc, lv, st)
  | r :: t, pc, lv, st => match Nat.beq r.1 pc with
    | true => match zp1 r.2.1 pc lv st with
      | some (pc', lv', st') => match Nat.beq pc' (pc + r.2.2) with
        | true => zrun t pc' lv' st'
        | false => none
      | none => none
    | false => none
end
section
/-! WHAT STAYS TRUE THROUGH A RUN, AND THE JUDGEMENT -/
abbrev zty (E : zE) : List (ClassId × FieldType) := [(eC E 20, .int), (eC E 22, .char), (eC E 23, .long), (eC E 24, .double), (eC E 25, .object "LotSales$Lot"), (eC E 26, .object "LotSales$Sale")]
def zX : List String := ["", "java/lang/IndexOutOfBoundsException", "java/lang/IllegalArgumentException", "java/lang/IllegalStateException", "java/util/NoSuchElementException", "java/lang/UnsupportedOperationException", "java/lang/ArithmeticException"]
/-- exceptions by their numbers: 1 index, 2 argument, 3 state, 4 no such element, 5 unsupported, 6 arithmetic -/
def zxn (k : Nat) : String := zX.getD k ""
def zold (E : zE) : Nat → Prop := fun q => zB E ≤ q
def zFx (E : zE) : Prop :=
  (eL E).stackTraces = false ∧ (∀ w ∈ lw_tbl, w.before #[] (eS E) = true) ∧ va_K (eD E) zcl (zty E) (eS E) ∧ eC E 21 = eC E 20 ∧
  (∀ o : Nat, 4 ≤ o → eA E o = zB E + (o - 4)) ∧ (∀ o : Nat, o < 4 → o ≠ 0 → eA E o < zB E) ∧
  (va_Z "LotSales" "FIRST_BOUNDS" "[I" (.ref (eA E 1)) (zold E) (eS E) (eS E).heap ∧ va_Z "LotSales" "FIRST_INCREMENTS" "[I" (.ref (eA E 2)) (zold E) (eS E) (eS E).heap) ∧
  (vx_Zq Bundle.tN "UNASSIGNED_STACK" Bundle.steD (zold E) (eS E) (eS E).heap ∧ vx_Zq Bundle.tN "SUPPRESSED_SENTINEL" Bundle.listD (zold E) (eS E) (eS E).heap) ∧
  (∀ (k : Nat) (tx : String), Cond.stringRef "LotSales" k tx ∈ lw_tbl → ∃ a, vk_R "LotSales" k tx a (eS E)) ∧
  (∀ i j : Nat, 1 ≤ i → i ≤ 6 → 1 ≤ j → j ≤ 6 → i ≠ j → va_Nc (zxn i) (zxn j) (eS E))
/-- a method's own: the machine, its start, its end, the world at its start, what it is to answer -/
abbrev zO : Type := (Option Value ⊕ Nat) × zW
abbrev zC : Type := (Program × Env × Room × State × MethodId × Array Value × List Frame) × (Method × Code × (State → Prop)) × zW × zO
def cP (K : zC) : Program := K.1.1
def cE (K : zC) : Env := K.1.2.1
def cR (K : zC) : Room := K.1.2.2.1
def cS (K : zC) : State := K.1.2.2.2.1
def cM (K : zC) : MethodId := K.1.2.2.2.2.1
def cA (K : zC) : Array Value := K.1.2.2.2.2.2.1
def cB (K : zC) : List Frame := K.1.2.2.2.2.2.2
def cMe (K : zC) : Method := K.2.1.1
def cCo (K : zC) : Code := K.2.1.2.1
def cQ (K : zC) : State → Prop := K.2.1.2.2
def c0 (K : zC) : zW := K.2.2.1
def cO (K : zC) : zO := K.2.2.2
def zk (E : zE) (K : zC) (own : String) (cc : ByteArray) (nL : Nat) (h : Nat) : Prop :=
  (cP K).tables.exec = Jvm.exec ∧ (cCo K).code = cc ∧ (cCo K).maxLocals = nL ∧ (cS K).vm.findClass own = some (cM K).cls ∧ (cMe K).locks = false ∧ (eS E).WarmedH (cS K).vm ∧ zFx E ∧
  (cR K).cells = 603072 - zN (c0 K) ∧ (cR K).slots = 7219305 - zS (c0 K) ∧ h ≤ (cR K).frames ∧ 100 * h ≤ (cR K).locals ∧ zRp E (c0 K) (cS K).heap
abbrev zWw (E : zE) (K : zC) (H : Heap) (locs : List Loc) (cells slots : Nat) (g : JFrame) : Prop :=
  W (cP K) (eL E) (cE K) (cR K) (cS K) (cM K) (cA K) (cB K) (cMe K) (cCo K) H locs cells slots (cQ K) g
/-- where X is the rest of the method's answer and the world is σ, the machine at pc comes to that answer -/
def zG (E : zE) (K : zC) {α : Type} (fin : α → zO) (X : Option α) (σ : zW) (pc : Nat) (lv : zLV) (st : List zV) : Prop :=
  (∃ o, X = some o ∧ fin o = cO K) → zN (c0 K) ≤ zN σ → zS (c0 K) ≤ zS σ → lv.length ≤ (cCo K).maxLocals → ∀ (H : Heap) (locs : List Loc) (ls : Array Slot), zRp E σ H → (∀ q ∈ locs, zB E ≤ q.base) → lv_has ls (cCo K).maxLocals (zlv E 0 lv) →
    zWw E K H locs (cR K).cells (cR K).slots (F0 (cM K) pc ls (st.map (zv E)))
section ZP
variable {E : zE} {K : zC} {own : String} {cc : ByteArray} {nL h : Nat} {α : Type} {fin : α → zO} {X : Option α} {σ : zW} {pc : Nat} {lv : zLV} {st : List zV}
theorem zlv_at {E : zE} : ∀ (lv : zLV) (i k : Nat) (v : zV), zget lv k = some v → (i + k, zv E v) ∈ zlv E i lv
  | [], _, _, _, h => by cases h
  | none :: t, i, 0, v, h => by cases h
  | some a :: t, i, 0, v, h => by
    have h1 : some a = some v := h
    cases h1
    exact List.mem_cons_self
  | none :: t, i, k + 1, v, h => by
    have := zlv_at (E := E) t (i + 1) k v h
    rw [show i + 1 + k = i + (k + 1) by omega] at this
    exact this
  | some a :: t, i, k + 1, v, h => by
    have := zlv_at (E := E) t (i + 1) k v h
    rw [show i + 1 + k = i + (k + 1) by omega] at this
    exact List.mem_cons_of_mem _ this
theorem zlv_le {E : zE} : ∀ (lv : zLV) (i : Nat) (q : Nat × Value), q ∈ zlv E i lv → i ≤ q.1
  | [], _, _, h => by cases h
  | none :: t, i, q, h => Nat.le_of_succ_le (zlv_le (E := E) t (i + 1) q h)
  | some a :: t, i, q, h => by
    rcases List.mem_cons.mp h with h | h
    · rw [h]; exact Nat.le_refl _
    · exact Nat.le_of_succ_le (zlv_le (E := E) t (i + 1) q h)
theorem zv_wide {E : zE} {v : zV} (h : zwide (some v) = false) : (zv E v).category = 1 := by
  rcases v with x | r | x | x | a
  · rfl
  · show (va_rf (zro E r)).category = 1
    cases zro E r <;> rfl
  · cases h
  · cases h
  · rfl
theorem zset_mem {E : zE} : ∀ (lv lv' : zLV) (i k : Nat) (v : zV), zset lv k v = some lv' → lv'.length = lv.length ∧ k < lv.length ∧ ∀ q ∈ zlv E i lv', q = (i + k, zv E v) ∨ (q ∈ zlv E i lv ∧ q.1 ≠ i + k ∧ (q.1 + 1 = i + k → q.2.category ≠ 2))
  | [], _, _, _, _, h => by cases h
  | a :: t, lv', i, 0, v, h => by
    cases h
    refine ⟨rfl, Nat.succ_pos _, fun q hq => ?_⟩
    rcases List.mem_cons.mp hq with hq | hq
    · exact Or.inl (by rw [hq]; rfl)
    · have h1 := zlv_le (E := E) t (i + 1) q hq
      refine Or.inr ⟨?_, by omega, fun h2 => by omega⟩
      cases a with
      | none => exact hq
      | some b => exact List.mem_cons_of_mem _ hq
  | a :: t, lv', i, k + 1, v, h => by
    unfold zset at h
    cases hw : zwide a with
    | true => rw [hw] at h; cases h
    | false =>
      rw [hw] at h
      cases hs : zset t k v with
      | none => rw [hs] at h; cases h
      | some t' =>
        rw [hs] at h
        cases h
        obtain ⟨h1, h2, h3⟩ := zset_mem (E := E) t t' (i + 1) k v hs
        refine ⟨by simp [h1], by simpa using h2, fun q hq => ?_⟩
        have key : ∀ q ∈ zlv E (i + 1) t', q = (i + (k + 1), zv E v) ∨ (q ∈ zlv E (i + 1) t ∧ q.1 ≠ i + (k + 1) ∧ (q.1 + 1 = i + (k + 1) → q.2.category ≠ 2)) := by
          intro q hq
          have := h3 q hq
          rw [show i + 1 + k = i + (k + 1) by omega] at this
          exact this
        cases a with
        | none => exact key q hq
        | some b =>
          rcases List.mem_cons.mp hq with hq | hq
          · refine Or.inr ⟨by rw [hq]; exact List.mem_cons_self, by rw [hq]; show i ≠ _; omega, fun _ => ?_⟩
            rw [hq]
            show (zv E b).category ≠ 2
            rw [zv_wide hw]; decide
          · rcases key q hq with g | ⟨g1, g2, g3⟩
            · exact Or.inl g
            · exact Or.inr ⟨List.mem_cons_of_mem _ g1, g2, g3⟩
theorem zhas_set {E : zE} {lv lv' : zLV} {k n : Nat} {v : zV} {ls : Array Slot} (hz : zset lv k v = some lv') (h : lv_has ls n ((k, zv E v) :: (zlv E 0 lv).filter (fun q => !(q.1 == k) && !(q.1 + 1 == k && q.2.category == 2)))) : lv_has ls n (zlv E 0 lv') := by
  refine ⟨h.1, h.2.1, fun q hq => h.2.2 q ?_⟩
  rcases (zset_mem (E := E) lv lv' 0 k v hz).2.2 q hq with g | ⟨g1, g2, g3⟩
  · rw [g, Nat.zero_add]; exact List.mem_cons_self
  · refine List.mem_cons_of_mem _ (List.mem_filter.mpr ⟨g1, ?_⟩)
    rw [Nat.zero_add] at g2 g3
    have e1 : (q.1 == k) = false := by simpa using g2
    rw [e1]
    by_cases e2 : q.1 + 1 = k
    · have := g3 e2
      simp [this]
    · simp [e2]
theorem zmask_mem {E : zE} : ∀ (lv : zLV) (m : List Bool) (i : Nat), (zmask lv m).length = lv.length ∧ ∀ q ∈ zlv E i (zmask lv m), q ∈ zlv E i lv
  | [], m, i => by cases m <;> exact ⟨rfl, fun q hq => hq⟩
  | a :: t, [], i => ⟨rfl, fun q hq => hq⟩
  | a :: t, b :: m, i => by
    obtain ⟨h1, h2⟩ := zmask_mem (E := E) t m (i + 1)
    refine ⟨by simp [zmask, h1], fun q hq => ?_⟩
    cases b with
    | true =>
      cases a with
      | none => exact h2 q hq
      | some x =>
        rcases List.mem_cons.mp hq with hq | hq
        · rw [hq]; exact List.mem_cons_self
        · exact List.mem_cons_of_mem _ (h2 q hq)
    | false =>
      have h3 := h2 q hq
      cases a with
      | none => exact h3
      | some x => exact List.mem_cons_of_mem _ h3
/-- fewer locals are known -/
theorem z_mask {lv' : zLV} (m : List Bool) (hm : zmask lv m = lv') (k : zG E K fin X σ pc lv' st) : zG E K fin X σ pc lv st := by
  subst hm
  intro hX h1 h2 h3 H locs ls hR hl hh
  exact k hX h1 h2 (by rw [(zmask_mem (E := E) lv m 0).1]; exact h3) H locs ls hR hl ⟨hh.1, hh.2.1, fun q hq => hh.2.2 q ((zmask_mem (E := E) lv m 0).2 q hq)⟩
theorem zcst_ofInt (n : Int) : zcst n = Int32.ofInt n := by
  cases n with
  | ofNat k => rfl
  | negSucc k =>
    show -(Int32.ofNat (k + 1)) = _
    rw [← Int32.ofInt_eq_ofNat, ← Int32.ofInt_neg]
    rfl
theorem zcst8 {n : Int} (h : zfit 128 n = true) : (Int8.ofInt n).toInt32 = zcst n := by
  have h1 : -2^7 ≤ n ∧ n < 2^7 := by
    cases n with
    | ofNat k =>
      have : k + 1 ≤ 128 := Nat.le_of_ble_eq_true h
      rw [Int.ofNat_eq_natCast]
      omega
    | negSucc k =>
      have : k + 1 ≤ 128 := Nat.le_of_ble_eq_true h
      omega
  rw [zcst_ofInt]
  apply Int32.toInt_inj.mp
  rw [Int8.toInt_toInt32, Int8.toInt_ofInt_of_le h1.1 h1.2, Int32.toInt_ofInt_of_le (by omega) (by omega)]
theorem zcst16 {n : Int} (h : zfit 32768 n = true) : (Int16.ofInt n).toInt32 = zcst n := by
  have h1 : -2^15 ≤ n ∧ n < 2^15 := by
    cases n with
    | ofNat k =>
      have : k + 1 ≤ 32768 := Nat.le_of_ble_eq_true h
      rw [Int.ofNat_eq_natCast]
      omega
    | negSucc k =>
      have : k + 1 ≤ 32768 := Nat.le_of_ble_eq_true h
      omega
  rw [zcst_ofInt]
  apply Int32.toInt_inj.mp
  rw [Int16.toInt_toInt32, Int16.toInt_ofInt_of_le h1.1 h1.2, Int32.toInt_ofInt_of_le (by omega) (by omega)]
/-- one step of the machine, whatever the heap -/
theorem z_lift {pc' : Nat} {lv' : zLV} {st' : List zV} (hl : lv'.length = lv.length)
    (h : ∀ (H : Heap) (locs : List Loc) (ls : Array Slot), lv_has ls (cCo K).maxLocals (zlv E 0 lv) → (∀ ls' : Array Slot, lv_has ls' (cCo K).maxLocals (zlv E 0 lv') → zWw E K H locs (cR K).cells (cR K).slots (F0 (cM K) pc' ls' (st'.map (zv E)))) → zWw E K H locs (cR K).cells (cR K).slots (F0 (cM K) pc ls (st.map (zv E))))
    (k : zG E K fin X σ pc' lv' st') : zG E K fin X σ pc lv st := by
  intro hX h1 h2 h3 H locs ls hR ho hh
  exact h H locs ls hh (fun ls' hh' => k hX h1 h2 (by rw [hl]; exact h3) H locs ls' hR ho hh')
theorem z_lift0 {pc' : Nat} {st' : List zV}
    (h : ∀ (H : Heap) (locs : List Loc) (ls : Array Slot), zWw E K H locs (cR K).cells (cR K).slots (F0 (cM K) pc' ls (st'.map (zv E))) → zWw E K H locs (cR K).cells (cR K).slots (F0 (cM K) pc ls (st.map (zv E))))
    (k : zG E K fin X σ pc' lv st') : zG E K fin X σ pc lv st :=
  fun hX h1 h2 h3 H locs ls hR ho hh => h H locs ls (k hX h1 h2 h3 H locs ls hR ho hh)
theorem z_ld {ls : Array Slot} {n k : Nat} {v : zV} (hh : lv_has ls n (zlv E 0 lv)) (h : zget lv k = some v) : ls[k]? = some (.val (zv E v)) := by
  have := hh.2.2 _ (zlv_at (E := E) lv 0 k v h)
  rw [Nat.zero_add] at this
  exact this
theorem zrv_cases (E : zE) (r : Nat) : zrv E r = .null ∨ ∃ a, zrv E r = .ref a := by
  unfold zrv
  cases zro E r with
  | none => exact Or.inl rfl
  | some a => exact Or.inr ⟨a, rfl⟩
end ZP
end
section
theorem zlv_get {E : zE} : ∀ (lv : zLV) (i : Nat) (q : Nat × Value), q ∈ zlv E i lv → ¬ zget lv (q.1 - i) = none
  | [], _, _, h => by cases h
  | none :: t, i, q, h => by
    have h1 := zlv_le (E := E) t (i + 1) q h
    have h2 := zlv_get t (i + 1) q h
    rw [show q.1 - i = (q.1 - (i + 1)) + 1 by omega]
    exact h2
  | some a :: t, i, q, h => by
    rcases List.mem_cons.mp h with h | h
    · rw [h, show (i, zv E a).1 - i = 0 by simp]
      exact fun h => by cases h
    · have h1 := zlv_le (E := E) t (i + 1) q h
      have h2 := zlv_get t (i + 1) q h
      rw [show q.1 - i = (q.1 - (i + 1)) + 1 by omega]
      exact h2
section ZQ
variable {E : zE} {K : zC} {own : String} {cc : ByteArray} {nL h : Nat} {α : Type} {fin : α → zO} {X : Option α} {σ : zW} {pc pc' : Nat} {lv lv' : zLV} {st st' : List zV}
/-- one of the instructions that touch neither heap nor branch -/
theorem z_p1 (hk : zk E K own cc nL h) {ins : Instr} {len : Nat} (hd : decode cc pc = .ok (ins, len)) (hp : zp1 ins pc lv st = some (pc', lv', st')) (hlen : pc' = pc + len)
    (k : zG E K fin X σ pc' lv' st') : zG E K fin X σ pc lv st := by
  obtain ⟨hx, hb, hml, hown, hlocks, hW, hF, -⟩ := hk
  subst hlen
  unfold zp1 at hp
  split at hp
  -- iconst
  · have e := Option.some.inj hp
    have e1 : _ + 1 = _ := congrArg (·.1) e
    have hlen : len = 1 := by omega
    subst hlen
    cases e
    exact z_lift0 (fun H locs ls kk => lv_iconst hx hb hd (zcst_ofInt _).symm kk) k
  -- bipush
  · split at hp
    · next hz => 
      have e := Option.some.inj hp
      have e1 : _ + 2 = _ := congrArg (·.1) e
      have hlen : len = 2 := by omega
      subst hlen
      cases e
      exact z_lift0 (fun H locs ls kk => lv_bipush hx hb hd (zcst8 hz) kk) k
    · cases hp
  -- sipush
  · split at hp
    · next hz => 
      have e := Option.some.inj hp
      have e1 : _ + 3 = _ := congrArg (·.1) e
      have hlen : len = 3 := by omega
      subst hlen
      cases e
      exact z_lift0 (fun H locs ls kk => lv_sipush hx hb hd (zcst16 hz) kk) k
    · cases hp
  -- iload_n
  · split at hp
    · next hz => 
      have e := Option.some.inj hp
      have e1 : _ + 1 = _ := congrArg (·.1) e
      have hlen : len = 1 := by omega
      subst hlen
      cases e
      exact z_lift rfl (fun H locs ls hh kk => lv_iload_n hx hb hd rfl (z_ld hh hz) (kk ls hh)) k
    · cases hp
  -- iload
  · split at hp
    · next hz => 
      have e := Option.some.inj hp
      have e1 : _ + 2 = _ := congrArg (·.1) e
      have hlen : len = 2 := by omega
      subst hlen
      cases e
      exact z_lift rfl (fun H locs ls hh kk => lv_iload hx hb hd (z_ld hh hz) (kk ls hh)) k
    · cases hp
  -- aload_n
  · split at hp
    · next r hz => 
      have e := Option.some.inj hp
      have e1 : _ + 1 = _ := congrArg (·.1) e
      have hlen : len = 1 := by omega
      subst hlen
      cases e
      refine z_lift rfl (fun H locs ls hh kk => ?_) k
      have hq := z_ld hh hz
      have kk := kk ls hh
      dsimp only [zv, List.map] at hq kk
      rcases zrv_cases E r with e | ⟨a, e⟩
      · rw [e] at hq kk
        exact lv_aload_nN hx hb hd rfl hq kk
      · rw [e] at hq kk
        exact lv_aload_n hx hb hd rfl hq kk
    · cases hp
  -- aload
  · split at hp
    · next r hz => 
      have e := Option.some.inj hp
      have e1 : _ + 2 = _ := congrArg (·.1) e
      have hlen : len = 2 := by omega
      subst hlen
      cases e
      refine z_lift rfl (fun H locs ls hh kk => ?_) k
      have hq := z_ld hh hz
      have kk := kk ls hh
      dsimp only [zv, List.map] at hq kk
      rcases zrv_cases E r with e | ⟨a, e⟩
      · rw [e] at hq kk
        exact lv_aloadN hx hb hd hq kk
      · rw [e] at hq kk
        exact lv_aload hx hb hd hq kk
    · cases hp
  -- dload
  · split at hp
    · next hz => 
      have e := Option.some.inj hp
      have e1 : _ + 2 = _ := congrArg (·.1) e
      have hlen : len = 2 := by omega
      subst hlen
      cases e
      exact z_lift rfl (fun H locs ls hh kk => lv_dload hx hb hd (z_ld hh hz) (kk ls hh)) k
    · cases hp
  -- istore_n
  · split at hp
    · next lw hz => 
      have e := Option.some.inj hp
      have e1 : _ + 1 = _ := congrArg (·.1) e
      have hlen : len = 1 := by omega
      subst hlen
      cases e
      obtain ⟨g1, g2, -⟩ := zset_mem (E := E) _ _ 0 _ _ hz
      intro hX w1 w2 w3 H locs ls hR ho hh
      exact lv_istore_n hx hb hd rfl hh (by omega) rfl (fun ls' hh' => k hX w1 w2 (by rw [g1]; exact w3) H locs ls' hR ho (zhas_set hz hh'))
    · cases hp
  -- istore
  · split at hp
    · next lw hz => 
      have e := Option.some.inj hp
      have e1 : _ + 2 = _ := congrArg (·.1) e
      have hlen : len = 2 := by omega
      subst hlen
      cases e
      obtain ⟨g1, g2, -⟩ := zset_mem (E := E) _ _ 0 _ _ hz
      intro hX w1 w2 w3 H locs ls hR ho hh
      exact lv_istore hx hb hd hh (by omega) rfl (fun ls' hh' => k hX w1 w2 (by rw [g1]; exact w3) H locs ls' hR ho (zhas_set hz hh'))
    · cases hp
  -- astore_n
  · split at hp
    · next lw hz => 
      have e := Option.some.inj hp
      have e1 : _ + 1 = _ := congrArg (·.1) e
      have hlen : len = 1 := by omega
      subst hlen
      cases e
      obtain ⟨g1, g2, -⟩ := zset_mem (E := E) _ _ 0 _ _ hz
      intro hX w1 w2 w3 H locs ls hR ho hh
      have kk : ∀ ls' : Array Slot, _ → _ := fun ls' hh' => k hX w1 w2 (by rw [g1]; exact w3) H locs ls' hR ho (zhas_set hz hh')
      dsimp only [zv, List.map] at kk ⊢
      rcases zrv_cases E _ with e | ⟨a, e⟩
      · rw [e] at kk ⊢
        exact lv_astore_nN hx hb hd rfl hh (by omega) rfl kk
      · rw [e] at kk ⊢
        exact lv_astore_n hx hb hd rfl hh (by omega) rfl kk
    · cases hp
  -- astore
  · split at hp
    · next lw hz => 
      have e := Option.some.inj hp
      have e1 : _ + 2 = _ := congrArg (·.1) e
      have hlen : len = 2 := by omega
      subst hlen
      cases e
      obtain ⟨g1, g2, -⟩ := zset_mem (E := E) _ _ 0 _ _ hz
      intro hX w1 w2 w3 H locs ls hR ho hh
      have kk : ∀ ls' : Array Slot, _ → _ := fun ls' hh' => k hX w1 w2 (by rw [g1]; exact w3) H locs ls' hR ho (zhas_set hz hh')
      dsimp only [zv, List.map] at kk ⊢
      rcases zrv_cases E _ with e | ⟨a, e⟩
      · rw [e] at kk ⊢
        exact lv_astoreN hx hb hd hh (by omega) rfl kk
      · rw [e] at kk ⊢
        exact lv_astore hx hb hd hh (by omega) rfl kk
    · cases hp
  -- astore_n opaque
  · split at hp
    · next lw hz => 
      have e := Option.some.inj hp
      have e1 : _ + 1 = _ := congrArg (·.1) e
      have hlen : len = 1 := by omega
      subst hlen
      cases e
      obtain ⟨g1, g2, -⟩ := zset_mem (E := E) _ _ 0 _ _ hz
      intro hX w1 w2 w3 H locs ls hR ho hh
      exact lv_astore_n hx hb hd rfl hh (by omega) rfl (fun ls' hh' => k hX w1 w2 (by rw [g1]; exact w3) H locs ls' hR ho (zhas_set hz hh'))
    · cases hp
  -- astore opaque
  · split at hp
    · next lw hz => 
      have e := Option.some.inj hp
      have e1 : _ + 2 = _ := congrArg (·.1) e
      have hlen : len = 2 := by omega
      subst hlen
      cases e
      obtain ⟨g1, g2, -⟩ := zset_mem (E := E) _ _ 0 _ _ hz
      intro hX w1 w2 w3 H locs ls hR ho hh
      exact lv_astore hx hb hd hh (by omega) rfl (fun ls' hh' => k hX w1 w2 (by rw [g1]; exact w3) H locs ls' hR ho (zhas_set hz hh'))
    · cases hp
  -- iinc
  · split at hp
    · next x hg => 
      split at hp
      · next lw hz => 
        have e := Option.some.inj hp
        have e1 : _ + 3 = _ := congrArg (·.1) e
        have hlen : len = 3 := by omega
        subst hlen
        cases e
        obtain ⟨g1, g2, -⟩ := zset_mem (E := E) _ _ 0 _ _ hz
        intro hX w1 w2 w3 H locs ls hR ho hh
        have hm := zlv_at (E := E) lv 0 _ _ hg
        rw [Nat.zero_add] at hm
        obtain ⟨j, hj⟩ := List.getElem?_of_mem hm
        exact lv_iinc hx hb hd hh hj (by rw [← zcst_ofInt]) (by omega) rfl (fun ls' hh' => k hX w1 w2 (by rw [g1]; exact w3) H locs ls' hR ho (zhas_set hz hh'))
      · cases hp
    · cases hp
  -- iadd
  · have e := Option.some.inj hp
    have e1 : _ + 1 = _ := congrArg (·.1) e
    have hlen : len = 1 := by omega
    subst hlen
    cases e
    exact z_lift0 (fun H locs ls kk => lv_iadd hx hb hd kk) k
  -- isub
  · have e := Option.some.inj hp
    have e1 : _ + 1 = _ := congrArg (·.1) e
    have hlen : len = 1 := by omega
    subst hlen
    cases e
    exact z_lift0 (fun H locs ls kk => lv_isub hx hb hd kk) k
  -- imul
  · have e := Option.some.inj hp
    have e1 : _ + 1 = _ := congrArg (·.1) e
    have hlen : len = 1 := by omega
    subst hlen
    cases e
    exact z_lift0 (fun H locs ls kk => lv_imul hx hb hd kk) k
  -- iand
  · have e := Option.some.inj hp
    have e1 : _ + 1 = _ := congrArg (·.1) e
    have hlen : len = 1 := by omega
    subst hlen
    cases e
    exact z_lift0 (fun H locs ls kk => lv_iand hx hb hd kk) k
  -- i2l
  · have e := Option.some.inj hp
    have e1 : _ + 1 = _ := congrArg (·.1) e
    have hlen : len = 1 := by omega
    subst hlen
    cases e
    exact z_lift0 (fun H locs ls kk => lv_i2l hx hb hd rfl kk) k
  -- l2i
  · have e := Option.some.inj hp
    have e1 : _ + 1 = _ := congrArg (·.1) e
    have hlen : len = 1 := by omega
    subst hlen
    cases e
    exact z_lift0 (fun H locs ls kk => lv_l2i hx hb hd rfl kk) k
  -- i2c
  · have e := Option.some.inj hp
    have e1 : _ + 1 = _ := congrArg (·.1) e
    have hlen : len = 1 := by omega
    subst hlen
    cases e
    exact z_lift0 (fun H locs ls kk => lv_i2c hx hb hd rfl kk) k
  -- i2d
  · have e := Option.some.inj hp
    have e1 : _ + 1 = _ := congrArg (·.1) e
    have hlen : len = 1 := by omega
    subst hlen
    cases e
    exact z_lift0 (fun H locs ls kk => lv_i2d hx hb hd kk) k
  -- lmul
  · have e := Option.some.inj hp
    have e1 : _ + 1 = _ := congrArg (·.1) e
    have hlen : len = 1 := by omega
    subst hlen
    cases e
    exact z_lift0 (fun H locs ls kk => lv_lmul hx hb hd kk) k
  -- lcmp
  · have e := Option.some.inj hp
    have e1 : _ + 1 = _ := congrArg (·.1) e
    have hlen : len = 1 := by omega
    subst hlen
    cases e
    exact z_lift0 (fun H locs ls kk => W.lcmp hx hb hd kk) k
  -- dcmp
  · have e := Option.some.inj hp
    have e1 : _ + 1 = _ := congrArg (·.1) e
    have hlen : len = 1 := by omega
    subst hlen
    cases e
    exact z_lift0 (fun H locs ls kk => lv_dcmp hx hb hd kk) k
  -- dstore
  · split at hp
    · split at hp
      · next hz1 => 
        split at hp
        · next lw hz => 
          have e := Option.some.inj hp
          have e1 : _ + 2 = _ := congrArg (·.1) e
          have hlen : len = 2 := by omega
          subst hlen
          cases e
          obtain ⟨g1, g2, -⟩ := zset_mem (E := E) _ _ 0 _ _ hz
          obtain ⟨-, g3, -⟩ := zset_mem (E := E) _ _ 0 _ _ hz1
          intro hX w1 w2 w3 H locs ls hR ho hh
          refine lv_dstore hx hb hd hh (by omega) rfl (fun ls' hh' => k hX w1 w2 (by rw [g1]; exact w3) H locs ls' hR ho ⟨hh'.1, hh'.2.1, fun q hq => hh'.2.2 q ?_⟩)
          rcases (zset_mem (E := E) _ _ 0 _ _ hz).2.2 q hq with g | ⟨f1, f2, f3⟩
          · rw [g, Nat.zero_add]; exact List.mem_cons_self
          · refine List.mem_cons_of_mem _ (List.mem_filter.mpr ⟨f1, ?_⟩)
            rw [Nat.zero_add] at f2 f3
            have f4 : q.1 ≠ _ + 1 := fun e => by
              have := zlv_get _ 0 q f1
              rw [Nat.sub_zero, e] at this
              exact this (by assumption)
            simp [f2, f4]
            exact Classical.or_iff_not_imp_left.mpr (fun g => f3 (Classical.not_not.mp g))
        · cases hp
      · cases hp
    · cases hp
  -- dup int
  · have e := Option.some.inj hp
    have e1 : _ + 1 = _ := congrArg (·.1) e
    have hlen : len = 1 := by omega
    subst hlen
    cases e
    exact z_lift0 (fun H locs ls kk => lv_dup hx hb hd rfl kk) k
  -- dup ref
  · have e := Option.some.inj hp
    have e1 : _ + 1 = _ := congrArg (·.1) e
    have hlen : len = 1 := by omega
    subst hlen
    cases e
    refine z_lift0 (fun H locs ls kk => ?_) k
    dsimp only [zv, List.map] at kk ⊢
    rcases zrv_cases E _ with e | ⟨a, e⟩
    · rw [e] at kk ⊢
      exact lv_dup hx hb hd rfl kk
    · rw [e] at kk ⊢
      exact lv_dup hx hb hd rfl kk
  -- dup2 int ref
  · have e := Option.some.inj hp
    have e1 : _ + 1 = _ := congrArg (·.1) e
    have hlen : len = 1 := by omega
    subst hlen
    cases e
    refine z_lift0 (fun H locs ls kk => ?_) k
    dsimp only [zv, List.map] at kk ⊢
    rcases zrv_cases E _ with e | ⟨a, e⟩
    · rw [e] at kk ⊢
      exact lv_dup2_11 hx hb hd rfl rfl kk
    · rw [e] at kk ⊢
      exact lv_dup2_11 hx hb hd rfl rfl kk
  · cases hp
/-- a stretch of them -/
theorem z_run0 (hk : zk E K own cc nL h) : ∀ (l : List jI) (pc : Nat) (lv : zLV) (st : List zV), (∀ r ∈ l, decode cc r.1 = .ok (r.2.1, r.2.2)) → zrun l pc lv st = some (pc', lv', st') → zG E K fin X σ pc' lv' st' → zG E K fin X σ pc lv st
  | [], pc, lv, st, _, hr, k => by
    cases hr
    exact k
  | r :: t, pc, lv, st, hd, hr, k => by
    unfold zrun at hr
    split at hr
    · next h1 =>
      split at hr
      · next q lq sq h2 =>
        split at hr
        · next h3 =>
          have e1 : r.1 = pc := Nat.eq_of_beq_eq_true h1
          have e3 := Nat.eq_of_beq_eq_true h3
          have hd0 := hd r List.mem_cons_self
          rw [e1] at hd0
          exact z_p1 hk hd0 h2 e3 (z_run0 hk t q lq sq (fun r' h' => hd r' (List.mem_cons_of_mem _ h')) hr k)
        · cases hr
      · cases hr
    · cases hr
theorem z_hd {b : ByteArray} {l : List jI} (h : jD b l = true) {r : jI} (hr : r ∈ l) : decode b r.1 = .ok (r.2.1, r.2.2) := by
  have := List.all_eq_true.mp h r hr
  simpa using this
theorem z_run (hk : zk E K own cc nL h) {l : List jI} (hb : jD cc l = true) (i n : Nat) (hr : zrun ((l.drop i).take n) pc lv st = some (pc', lv', st')) (k : zG E K fin X σ pc' lv' st') : zG E K fin X σ pc lv st :=
  z_run0 hk _ pc lv st (fun r h => z_hd hb (List.mem_of_mem_drop (List.mem_of_mem_take h))) hr k
end ZQ
end
section
/-! WORDS OF THE TABLES, BY THEIR PLACES -/
theorem zlays_0 : GoodIn lw_tbl (u_ws RX0 TX0 3) := goodIn_r _ [290, 292, 294] (by decide +kernel) (by decide +kernel)
theorem zlays_1 : GoodIn lw_tbl (u_ws RX1 TX1 5) := goodIn_r _ [145, 147, 149, 151, 153] (by decide +kernel) (by decide +kernel)
theorem zlays_2 : GoodIn lw_tbl (u_ws RX2 TX2 12) := goodIn_r _ [194, 196, 198, 200, 202, 204, 206, 208, 210, 212, 214, 216] (by decide +kernel) (by decide +kernel)
theorem zlays_3 : GoodIn lw_tbl (u_ws RX3 TX3 7) := goodIn_r _ [233, 235, 237, 239, 241, 243, 245] (by decide +kernel) (by decide +kernel)
theorem zlays_4 : GoodIn lw_tbl (u_ws RX4 TX4 6) := goodIn_r _ [265, 267, 269, 271, 273, 275] (by decide +kernel) (by decide +kernel)
theorem zlays_5 : GoodIn lw_tbl (u_ws RX5 TX5 3) := goodIn_r _ [115, 117, 119] (by decide +kernel) (by decide +kernel)
theorem zlays_6 : GoodIn lw_tbl (u_ws RX6 TX6 6) := goodIn_r _ [313, 315, 317, 319, 321, 323] (by decide +kernel) (by decide +kernel)
theorem zlays_7 : GoodIn lw_tbl (u_ws RX7 TX7 7) := goodIn_r _ [334, 336, 338, 340, 342, 344, 346] (by decide +kernel) (by decide +kernel)
theorem zlays_8 : GoodIn lw_tbl (u_ws RX8 TX8 18) := goodIn_r _ [1199, 1201, 1203, 1205, 1207, 1209, 1211, 1213, 1215, 1217, 1219, 1221, 1223, 1225, 1227, 1229, 1231, 1233] (by decide +kernel) (by decide +kernel)
def znwt : List Cond → Nat → Option Cond
  | [], _ => none
  | a :: _, 0 => some a
  | _ :: t, k + 1 => znwt t k
theorem znw : ∀ (l : List Cond) (i : Nat) (r : Cond), znwt l i = some r → r ∈ l
  | [], _, _, h => by cases h
  | a :: t, 0, r, h => by
    have h1 : some a = some r := h
    cases h1
    exact List.mem_cons_self
  | a :: t, i + 1, r, h => List.mem_cons_of_mem _ (znw t i r h)
theorem wt_0 : ∀ w ∈ tables_1, w ∈ lw_tbl := fun _ h => List.mem_append_right _ h
theorem wt_1 : ∀ w ∈ tables_1_1, w ∈ lw_tbl := fun _ h => wt_0 _ (List.mem_append_left _ h)
theorem wt_2 : ∀ w ∈ tables_1_2, w ∈ lw_tbl := fun _ h => wt_0 _ (List.mem_append_right _ (List.mem_append_left _ h))
theorem wt_3 : ∀ w ∈ tables_1_3, w ∈ lw_tbl := fun _ h => wt_0 _ (List.mem_append_right _ (List.mem_append_right _ (List.mem_append_left _ h)))
theorem wt_4 : ∀ w ∈ tables_1_4, w ∈ lw_tbl := fun _ h => wt_0 _ (List.mem_append_right _ (List.mem_append_right _ (List.mem_append_right _ (List.mem_append_left _ h))))
theorem wt_5 : ∀ w ∈ tables_1_5, w ∈ lw_tbl := fun _ h => wt_0 _ (List.mem_append_right _ (List.mem_append_right _ (List.mem_append_right _ (List.mem_append_right _ (List.mem_append_left _ h)))))
theorem wt_6 : ∀ w ∈ tables_1_6, w ∈ lw_tbl := fun _ h => wt_0 _ (List.mem_append_right _ (List.mem_append_right _ (List.mem_append_right _ (List.mem_append_right _ (List.mem_append_right _ (List.mem_append_left _ h))))))
theorem wt_7 : ∀ w ∈ tables_1_7, w ∈ lw_tbl := fun _ h => wt_0 _ (List.mem_append_right _ (List.mem_append_right _ (List.mem_append_right _ (List.mem_append_right _ (List.mem_append_right _ (List.mem_append_right _ (h)))))))
theorem wd_0 : (Jvm.Cond.initialized "LotSalesLaw") ∈ lw_tbl := wt_1 _ (znw tables_1_1 0 _ rfl)
theorem wd_1 : (Jvm.Cond.initialized "LotSales") ∈ lw_tbl := wt_1 _ (znw tables_1_1 1 _ rfl)
theorem wd_2 : (Jvm.Cond.initialized "LotSales$Sale") ∈ lw_tbl := wt_1 _ (znw tables_1_1 2 _ rfl)
theorem wd_3 : (Jvm.Cond.initialized "LotSales$Table") ∈ lw_tbl := wt_1 _ (znw tables_1_1 3 _ rfl)
theorem wd_4 : (Jvm.Cond.initialized "java/lang/System") ∈ lw_tbl := wt_1 _ (znw tables_1_1 4 _ rfl)
theorem wd_5 : (Jvm.Cond.initialized "LotSales$Ledger") ∈ lw_tbl := wt_1 _ (znw tables_1_1 5 _ rfl)
theorem wd_6 : (Jvm.Cond.initialized "LotSales$Lot") ∈ lw_tbl := wt_1 _ (znw tables_1_1 6 _ rfl)
theorem wd_7 : (Jvm.Cond.initialized "LotSales$Standing") ∈ lw_tbl := wt_1 _ (znw tables_1_1 7 _ rfl)
theorem wd_8 : (Jvm.Cond.initialized "LotSales$History") ∈ lw_tbl := wt_1 _ (znw tables_1_1 8 _ rfl)
theorem wd_9 : (Jvm.Cond.initialized "LotSales$Text") ∈ lw_tbl := wt_1 _ (znw tables_1_1 9 _ rfl)
theorem wd_10 : (Jvm.Cond.initialized "LotSalesModel") ∈ lw_tbl := wt_1 _ (znw tables_1_1 10 _ rfl)
theorem wd_13 : (Jvm.Cond.initialized "java/lang/RuntimeException") ∈ lw_tbl := wt_1 _ (znw tables_1_1 13 _ rfl)
theorem wd_14 : (Jvm.Cond.initialized "java/lang/IllegalArgumentException") ∈ lw_tbl := wt_1 _ (znw tables_1_1 14 _ rfl)
theorem wd_15 : (Jvm.Cond.initialized "java/lang/IllegalStateException") ∈ lw_tbl := wt_1 _ (znw tables_1_1 15 _ rfl)
theorem wd_16 : (Jvm.Cond.initialized "java/lang/Math") ∈ lw_tbl := wt_1 _ (znw tables_1_1 16 _ rfl)
theorem wd_17 : (Jvm.Cond.initialized "java/lang/IndexOutOfBoundsException") ∈ lw_tbl := wt_1 _ (znw tables_1_1 17 _ rfl)
theorem wd_18 : (Jvm.Cond.initialized "java/lang/ArrayIndexOutOfBoundsException") ∈ lw_tbl := wt_1 _ (znw tables_1_1 18 _ rfl)
theorem wd_19 : (Jvm.Cond.initialized "java/lang/String") ∈ lw_tbl := wt_1 _ (znw tables_1_1 19 _ rfl)
theorem wd_20 : (Jvm.Cond.initialized "java/util/NoSuchElementException") ∈ lw_tbl := wt_1 _ (znw tables_1_1 20 _ rfl)
theorem wd_21 : (Jvm.Cond.initialized "java/lang/UnsupportedOperationException") ∈ lw_tbl := wt_1 _ (znw tables_1_1 21 _ rfl)
theorem wd_22 : (Jvm.Cond.initialized "java/lang/ArithmeticException") ∈ lw_tbl := wt_1 _ (znw tables_1_1 22 _ rfl)
theorem wd_23 : (Jvm.Cond.classLink "LotSalesLaw" (8 : Nat) "LotSales") ∈ lw_tbl := wt_1 _ (znw tables_1_1 23 _ rfl)
theorem wd_24 : (Jvm.Cond.instantiable "LotSales" (7 : Nat)) ∈ lw_tbl := wt_1 _ (znw tables_1_1 24 _ rfl)
theorem wd_25 : (Jvm.Cond.methodLink "LotSalesLaw" (140 : Nat) ({ cls := "LotSales", name := "<init>", desc := "()V" } : Jvm.MethodName)) ∈ lw_tbl := wt_1 _ (znw tables_1_1 25 _ rfl)
theorem wd_26 : (Jvm.Cond.instanceMethod ({ cls := "LotSales", name := "<init>", desc := "()V" } : Jvm.MethodName)) ∈ lw_tbl := wt_1 _ (znw tables_1_1 26 _ rfl)
theorem wd_27 : (Jvm.Cond.code ({ cls := "LotSales", name := "<init>", desc := "()V" } : Jvm.MethodName) prog_1_method_1_code (1 : Nat) (Option.none : Option Jvm.ClassFile.FieldType)) ∈ lw_tbl := wt_1 _ (znw tables_1_1 27 _ rfl)
theorem wd_28 : (Jvm.Cond.methodLink "LotSales" (1 : Nat) ({ cls := "java/lang/Object", name := "<init>", desc := "()V" } : Jvm.MethodName)) ∈ lw_tbl := wt_1 _ (znw tables_1_1 28 _ rfl)
theorem wd_29 : (Jvm.Cond.instanceMethod ({ cls := "java/lang/Object", name := "<init>", desc := "()V" } : Jvm.MethodName)) ∈ lw_tbl := wt_1 _ (znw tables_1_1 29 _ rfl)
theorem wd_30 : (Jvm.Cond.code ({ cls := "java/lang/Object", name := "<init>", desc := "()V" } : Jvm.MethodName) object_method_1_code (1 : Nat) (Option.none : Option Jvm.ClassFile.FieldType)) ∈ lw_tbl := wt_1 _ (znw tables_1_1 30 _ rfl)
theorem wd_31 : (Jvm.Cond.classLink "LotSales" (7 : Nat) "LotSales$Sale") ∈ lw_tbl := wt_1 _ (znw tables_1_1 31 _ rfl)
theorem wd_32 : (Jvm.Cond.instantiable "LotSales$Sale" (7 : Nat)) ∈ lw_tbl := wt_1 _ (znw tables_1_1 32 _ rfl)
theorem wd_33 : (Jvm.Cond.methodLink "LotSales" (9 : Nat) ({ cls := "LotSales$Sale", name := "<init>", desc := "()V" } : Jvm.MethodName)) ∈ lw_tbl := wt_1 _ (znw tables_1_1 33 _ rfl)
theorem wd_34 : (Jvm.Cond.instanceMethod ({ cls := "LotSales$Sale", name := "<init>", desc := "()V" } : Jvm.MethodName)) ∈ lw_tbl := wt_1 _ (znw tables_1_1 34 _ rfl)
theorem wd_35 : (Jvm.Cond.code ({ cls := "LotSales$Sale", name := "<init>", desc := "()V" } : Jvm.MethodName) prog_5_method_1_code (2 : Nat) (Option.none : Option Jvm.ClassFile.FieldType)) ∈ lw_tbl := wt_1 _ (znw tables_1_1 35 _ rfl)
theorem wd_36 : (Jvm.Cond.methodLink "LotSales$Sale" (3 : Nat) ({ cls := "java/lang/Object", name := "<init>", desc := "()V" } : Jvm.MethodName)) ∈ lw_tbl := wt_1 _ (znw tables_1_1 36 _ rfl)
theorem wd_37 : (Jvm.Cond.classLink "LotSales$Sale" (9 : Nat) "LotSales$Table") ∈ lw_tbl := wt_1 _ (znw tables_1_1 37 _ rfl)
theorem wd_38 : (Jvm.Cond.instantiable "LotSales$Table" (3 : Nat)) ∈ lw_tbl := wt_1 _ (znw tables_1_1 38 _ rfl)
theorem wd_39 : (Jvm.Cond.methodLink "LotSales$Sale" (11 : Nat) ({ cls := "LotSales$Table", name := "<init>", desc := "()V" } : Jvm.MethodName)) ∈ lw_tbl := wt_1 _ (znw tables_1_1 39 _ rfl)
theorem wd_40 : (Jvm.Cond.instanceMethod ({ cls := "LotSales$Table", name := "<init>", desc := "()V" } : Jvm.MethodName)) ∈ lw_tbl := wt_1 _ (znw tables_1_1 40 _ rfl)
theorem wd_41 : (Jvm.Cond.code ({ cls := "LotSales$Table", name := "<init>", desc := "()V" } : Jvm.MethodName) prog_7_method_1_code (1 : Nat) (Option.none : Option Jvm.ClassFile.FieldType)) ∈ lw_tbl := wt_1 _ (znw tables_1_1 41 _ rfl)
theorem wd_42 : (Jvm.Cond.methodLink "LotSales$Table" (3 : Nat) ({ cls := "java/lang/Object", name := "<init>", desc := "()V" } : Jvm.MethodName)) ∈ lw_tbl := wt_1 _ (znw tables_1_1 42 _ rfl)
theorem wd_43 : (Jvm.Cond.fieldLinkNest "LotSales$Table" (18 : Nat) "LotSales" "FIRST_BOUNDS" "[I" "LotSales") ∈ lw_tbl := wt_1 _ (znw tables_1_1 43 _ rfl)
theorem wd_45 : (Jvm.Cond.methodLink "LotSales$Table" (25 : Nat) ({ cls := "java/lang/System", name := "arraycopy", desc := "(Ljava/lang/Object;ILjava/lang/Object;II)V" } : Jvm.MethodName)) ∈ lw_tbl := wt_1 _ (znw tables_1_1 45 _ rfl)
theorem wd_46 : (Jvm.Cond.static ({ cls := "java/lang/System", name := "arraycopy", desc := "(Ljava/lang/Object;ILjava/lang/Object;II)V" } : Jvm.MethodName)) ∈ lw_tbl := wt_1 _ (znw tables_1_1 46 _ rfl)
theorem wd_47 : (Jvm.Cond.native ({ cls := "java/lang/System", name := "arraycopy", desc := "(Ljava/lang/Object;ILjava/lang/Object;II)V" } : Jvm.MethodName)) ∈ lw_tbl := wt_1 _ (znw tables_1_1 47 _ rfl)
theorem wd_48 : (Jvm.Cond.fieldLinkNest "LotSales$Table" (31 : Nat) "LotSales" "FIRST_INCREMENTS" "[I" "LotSales") ∈ lw_tbl := wt_1 _ (znw tables_1_1 48 _ rfl)
theorem wd_50 : (Jvm.Cond.fieldLink "LotSales$Table" (9 : Nat) "LotSales$Table" "bounds" "[I") ∈ lw_tbl := wt_1 _ (znw tables_1_1 50 _ rfl)
theorem wd_51 : (Jvm.Cond.fieldLink "LotSales" (127 : Nat) "LotSales$Table" "bounds" "[I") ∈ lw_tbl := wt_1 _ (znw tables_1_1 51 _ rfl)
theorem wd_52 : (Jvm.Cond.fieldLink "LotSales$Table" (15 : Nat) "LotSales$Table" "increments" "[I") ∈ lw_tbl := wt_1 _ (znw tables_1_1 52 _ rfl)
theorem wd_53 : (Jvm.Cond.fieldLink "LotSales" (131 : Nat) "LotSales$Table" "increments" "[I") ∈ lw_tbl := wt_1 _ (znw tables_1_1 53 _ rfl)
theorem wd_54 : (Jvm.Cond.fieldLink "LotSales$Table" (21 : Nat) "LotSales$Table" "rows" "I") ∈ lw_tbl := wt_1 _ (znw tables_1_1 54 _ rfl)
theorem wd_55 : (Jvm.Cond.fieldLink "LotSales" (96 : Nat) "LotSales$Table" "rows" "I") ∈ lw_tbl := wt_1 _ (znw tables_1_1 55 _ rfl)
theorem wd_63 : (Jvm.Cond.arrayClass Jvm.ClassFile.FieldType.int) ∈ lw_tbl := wt_1 _ (znw tables_1_1 63 _ rfl)
theorem wd_64 : (Jvm.Cond.classLink "LotSales$Sale" (25 : Nat) "LotSales$Lot") ∈ lw_tbl := wt_1 _ (znw tables_1_1 64 _ rfl)
theorem wd_65 : (Jvm.Cond.arrayOver (Jvm.ClassFile.FieldType.object "LotSales$Lot")) ∈ lw_tbl := wt_1 _ (znw tables_1_1 65 _ rfl)
theorem wd_66 : (Jvm.Cond.classLink "LotSales$Sale" (31 : Nat) "LotSales$Ledger") ∈ lw_tbl := wt_1 _ (znw tables_1_1 66 _ rfl)
theorem wd_67 : (Jvm.Cond.instantiable "LotSales$Ledger" (5 : Nat)) ∈ lw_tbl := wt_1 _ (znw tables_1_1 67 _ rfl)
theorem wd_68 : (Jvm.Cond.methodLinkNest "LotSales$Sale" (33 : Nat) ({ cls := "LotSales$Ledger", name := "<init>", desc := "()V" } : Jvm.MethodName) "LotSales") ∈ lw_tbl := wt_1 _ (znw tables_1_1 68 _ rfl)
theorem wd_69 : (Jvm.Cond.instanceMethod ({ cls := "LotSales$Ledger", name := "<init>", desc := "()V" } : Jvm.MethodName)) ∈ lw_tbl := wt_1 _ (znw tables_1_1 69 _ rfl)
theorem wd_70 : (Jvm.Cond.code ({ cls := "LotSales$Ledger", name := "<init>", desc := "()V" } : Jvm.MethodName) prog_3_method_1_code (1 : Nat) (Option.none : Option Jvm.ClassFile.FieldType)) ∈ lw_tbl := wt_1 _ (znw tables_1_1 70 _ rfl)
theorem wd_71 : (Jvm.Cond.methodLink "LotSales$Ledger" (3 : Nat) ({ cls := "java/lang/Object", name := "<init>", desc := "()V" } : Jvm.MethodName)) ∈ lw_tbl := wt_1 _ (znw tables_1_1 71 _ rfl)
theorem wd_72 : (Jvm.Cond.fieldLink "LotSales$Ledger" (9 : Nat) "LotSales$Ledger" "kinds" "[I") ∈ lw_tbl := wt_1 _ (znw tables_1_1 72 _ rfl)
theorem wd_73 : (Jvm.Cond.fieldLink "LotSales$Sale" (133 : Nat) "LotSales$Ledger" "kinds" "[I") ∈ lw_tbl := wt_1 _ (znw tables_1_1 73 _ rfl)
theorem wd_74 : (Jvm.Cond.fieldLink "LotSales" (333 : Nat) "LotSales$Ledger" "kinds" "[I") ∈ lw_tbl := wt_1 _ (znw tables_1_1 74 _ rfl)
theorem wd_75 : (Jvm.Cond.fieldLink "LotSales$Ledger" (15 : Nat) "LotSales$Ledger" "lots" "[I") ∈ lw_tbl := wt_1 _ (znw tables_1_1 75 _ rfl)
theorem wd_76 : (Jvm.Cond.fieldLink "LotSales$Sale" (131 : Nat) "LotSales$Ledger" "lots" "[I") ∈ lw_tbl := wt_1 _ (znw tables_1_1 76 _ rfl)
theorem wd_77 : (Jvm.Cond.fieldLink "LotSales" (336 : Nat) "LotSales$Ledger" "lots" "[I") ∈ lw_tbl := wt_1 _ (znw tables_1_1 77 _ rfl)
theorem wd_78 : (Jvm.Cond.fieldLink "LotSales$Ledger" (18 : Nat) "LotSales$Ledger" "bidders" "[I") ∈ lw_tbl := wt_1 _ (znw tables_1_1 78 _ rfl)
theorem wd_79 : (Jvm.Cond.fieldLink "LotSales" (338 : Nat) "LotSales$Ledger" "bidders" "[I") ∈ lw_tbl := wt_1 _ (znw tables_1_1 79 _ rfl)
theorem wd_80 : (Jvm.Cond.fieldLink "LotSales$Ledger" (21 : Nat) "LotSales$Ledger" "amounts" "[I") ∈ lw_tbl := wt_1 _ (znw tables_1_1 80 _ rfl)
theorem wd_81 : (Jvm.Cond.fieldLink "LotSales$Sale" (140 : Nat) "LotSales$Ledger" "amounts" "[I") ∈ lw_tbl := wt_1 _ (znw tables_1_1 81 _ rfl)
theorem wd_82 : (Jvm.Cond.fieldLink "LotSales" (341 : Nat) "LotSales$Ledger" "amounts" "[I") ∈ lw_tbl := wt_1 _ (znw tables_1_1 82 _ rfl)
theorem wd_83 : (Jvm.Cond.fieldLink "LotSales$Ledger" (24 : Nat) "LotSales$Ledger" "count" "I") ∈ lw_tbl := wt_1 _ (znw tables_1_1 83 _ rfl)
theorem wd_84 : (Jvm.Cond.fieldLink "LotSales$Sale" (128 : Nat) "LotSales$Ledger" "count" "I") ∈ lw_tbl := wt_1 _ (znw tables_1_1 84 _ rfl)
theorem wd_85 : (Jvm.Cond.fieldLink "LotSales" (328 : Nat) "LotSales$Ledger" "count" "I") ∈ lw_tbl := wt_1 _ (znw tables_1_1 85 _ rfl)
theorem wd_97 : (Jvm.Cond.instantiable "LotSales$Lot" (12 : Nat)) ∈ lw_tbl := wt_1 _ (znw tables_1_1 97 _ rfl)
theorem wd_98 : (Jvm.Cond.methodLinkNest "LotSales$Sale" (38 : Nat) ({ cls := "LotSales$Lot", name := "<init>", desc := "()V" } : Jvm.MethodName) "LotSales") ∈ lw_tbl := wt_1 _ (znw tables_1_1 98 _ rfl)
theorem wd_99 : (Jvm.Cond.instanceMethod ({ cls := "LotSales$Lot", name := "<init>", desc := "()V" } : Jvm.MethodName)) ∈ lw_tbl := wt_1 _ (znw tables_1_1 99 _ rfl)
theorem wd_100 : (Jvm.Cond.code ({ cls := "LotSales$Lot", name := "<init>", desc := "()V" } : Jvm.MethodName) prog_4_method_1_code (1 : Nat) (Option.none : Option Jvm.ClassFile.FieldType)) ∈ lw_tbl := wt_1 _ (znw tables_1_1 100 _ rfl)
theorem wd_101 : (Jvm.Cond.methodLink "LotSales$Lot" (3 : Nat) ({ cls := "java/lang/Object", name := "<init>", desc := "()V" } : Jvm.MethodName)) ∈ lw_tbl := wt_1 _ (znw tables_1_1 101 _ rfl)
theorem wd_102 : (Jvm.Cond.fieldLink "LotSales$Lot" (9 : Nat) "LotSales$Lot" "maximums" "[I") ∈ lw_tbl := wt_1 _ (znw tables_1_1 102 _ rfl)
theorem wd_103 : (Jvm.Cond.fieldLink "LotSales$Standing" (18 : Nat) "LotSales$Lot" "maximums" "[I") ∈ lw_tbl := wt_1 _ (znw tables_1_1 103 _ rfl)
theorem wd_104 : (Jvm.Cond.fieldLink "LotSales$Sale" (80 : Nat) "LotSales$Lot" "maximums" "[I") ∈ lw_tbl := wt_1 _ (znw tables_1_1 104 _ rfl)
theorem wd_105 : (Jvm.Cond.fieldLink "LotSales" (158 : Nat) "LotSales$Lot" "maximums" "[I") ∈ lw_tbl := wt_1 _ (znw tables_1_1 105 _ rfl)
theorem wd_106 : (Jvm.Cond.fieldLink "LotSales$Lot" (15 : Nat) "LotSales$Lot" "orderNumbers" "[I") ∈ lw_tbl := wt_1 _ (znw tables_1_1 106 _ rfl)
theorem wd_107 : (Jvm.Cond.fieldLink "LotSales$Standing" (38 : Nat) "LotSales$Lot" "orderNumbers" "[I") ∈ lw_tbl := wt_1 _ (znw tables_1_1 107 _ rfl)
theorem wd_108 : (Jvm.Cond.fieldLink "LotSales$Lot" (18 : Nat) "LotSales$Lot" "bids" "[I") ∈ lw_tbl := wt_1 _ (znw tables_1_1 108 _ rfl)
theorem wd_109 : (Jvm.Cond.fieldLink "LotSales$Standing" (29 : Nat) "LotSales$Lot" "bids" "[I") ∈ lw_tbl := wt_1 _ (znw tables_1_1 109 _ rfl)
theorem wd_110 : (Jvm.Cond.fieldLink "LotSales$Lot" (21 : Nat) "LotSales$Lot" "bidNumbers" "[I") ∈ lw_tbl := wt_1 _ (znw tables_1_1 110 _ rfl)
theorem wd_111 : (Jvm.Cond.fieldLink "LotSales$Standing" (41 : Nat) "LotSales$Lot" "bidNumbers" "[I") ∈ lw_tbl := wt_1 _ (znw tables_1_1 111 _ rfl)
theorem wd_112 : (Jvm.Cond.fieldLink "LotSales$Lot" (24 : Nat) "LotSales$Lot" "state" "I") ∈ lw_tbl := wt_1 _ (znw tables_1_1 112 _ rfl)
theorem wd_113 : (Jvm.Cond.fieldLink "LotSales" (68 : Nat) "LotSales$Lot" "state" "I") ∈ lw_tbl := wt_1 _ (znw tables_1_1 113 _ rfl)
theorem wd_114 : (Jvm.Cond.fieldLink "LotSales$Sale" (102 : Nat) "LotSales$Lot" "state" "I") ∈ lw_tbl := wt_1 _ (znw tables_1_1 114 _ rfl)
theorem wd_115 : (Jvm.Cond.fieldLink "LotSales$Lot" (28 : Nat) "LotSales$Lot" "seller" "I") ∈ lw_tbl := wt_1 _ (znw tables_1_1 115 _ rfl)
theorem wd_116 : (Jvm.Cond.fieldLink "LotSales" (73 : Nat) "LotSales$Lot" "seller" "I") ∈ lw_tbl := wt_1 _ (znw tables_1_1 116 _ rfl)
theorem wd_117 : (Jvm.Cond.fieldLink "LotSales$Sale" (66 : Nat) "LotSales$Lot" "seller" "I") ∈ lw_tbl := wt_1 _ (znw tables_1_1 117 _ rfl)
theorem wd_118 : (Jvm.Cond.fieldLink "LotSales$Lot" (31 : Nat) "LotSales$Lot" "quantity" "I") ∈ lw_tbl := wt_1 _ (znw tables_1_1 118 _ rfl)
theorem wd_119 : (Jvm.Cond.fieldLink "LotSales" (76 : Nat) "LotSales$Lot" "quantity" "I") ∈ lw_tbl := wt_1 _ (znw tables_1_1 119 _ rfl)
theorem wd_120 : (Jvm.Cond.fieldLink "LotSales$Sale" (90 : Nat) "LotSales$Lot" "quantity" "I") ∈ lw_tbl := wt_1 _ (znw tables_1_1 120 _ rfl)
theorem wd_121 : (Jvm.Cond.fieldLink "LotSales$Lot" (34 : Nat) "LotSales$Lot" "reserve" "I") ∈ lw_tbl := wt_1 _ (znw tables_1_1 121 _ rfl)
theorem wd_122 : (Jvm.Cond.fieldLink "LotSales$Standing" (47 : Nat) "LotSales$Lot" "reserve" "I") ∈ lw_tbl := wt_1 _ (znw tables_1_1 122 _ rfl)
theorem wd_123 : (Jvm.Cond.fieldLink "LotSales" (79 : Nat) "LotSales$Lot" "reserve" "I") ∈ lw_tbl := wt_1 _ (znw tables_1_1 123 _ rfl)
theorem wd_124 : (Jvm.Cond.fieldLink "LotSales$Sale" (69 : Nat) "LotSales$Lot" "reserve" "I") ∈ lw_tbl := wt_1 _ (znw tables_1_1 124 _ rfl)
theorem wd_125 : (Jvm.Cond.fieldLink "LotSales$Lot" (37 : Nat) "LotSales$Lot" "openings" "I") ∈ lw_tbl := wt_1 _ (znw tables_1_1 125 _ rfl)
theorem wd_126 : (Jvm.Cond.fieldLink "LotSales" (82 : Nat) "LotSales$Lot" "openings" "I") ∈ lw_tbl := wt_1 _ (znw tables_1_1 126 _ rfl)
theorem wd_127 : (Jvm.Cond.fieldLink "LotSales$Lot" (40 : Nat) "LotSales$Lot" "closing" "I") ∈ lw_tbl := wt_1 _ (znw tables_1_1 127 _ rfl)
theorem wd_128 : (Jvm.Cond.fieldLink "LotSales" (273 : Nat) "LotSales$Lot" "closing" "I") ∈ lw_tbl := wt_1 _ (znw tables_1_1 128 _ rfl)
theorem wd_129 : (Jvm.Cond.fieldLink "LotSales$Lot" (43 : Nat) "LotSales$Lot" "buyer" "I") ∈ lw_tbl := wt_1 _ (znw tables_1_1 129 _ rfl)
theorem wd_130 : (Jvm.Cond.fieldLink "LotSales$Sale" (116 : Nat) "LotSales$Lot" "buyer" "I") ∈ lw_tbl := wt_1 _ (znw tables_1_1 130 _ rfl)
theorem wd_131 : (Jvm.Cond.fieldLink "LotSales" (282 : Nat) "LotSales$Lot" "buyer" "I") ∈ lw_tbl := wt_1 _ (znw tables_1_1 131 _ rfl)
theorem wd_132 : (Jvm.Cond.fieldLink "LotSales$Lot" (46 : Nat) "LotSales$Lot" "price" "I") ∈ lw_tbl := wt_1 _ (znw tables_1_1 132 _ rfl)
theorem wd_133 : (Jvm.Cond.fieldLink "LotSales$Sale" (109 : Nat) "LotSales$Lot" "price" "I") ∈ lw_tbl := wt_1 _ (znw tables_1_1 133 _ rfl)
theorem wd_134 : (Jvm.Cond.fieldLink "LotSales" (280 : Nat) "LotSales$Lot" "price" "I") ∈ lw_tbl := wt_1 _ (znw tables_1_1 134 _ rfl)
theorem wd_160 : (Jvm.Cond.fieldLink "LotSales$Sale" (12 : Nat) "LotSales$Sale" "table" "LLotSales$Table;") ∈ lw_tbl := wt_1 _ (znw tables_1_1 160 _ rfl)
theorem wd_161 : (Jvm.Cond.fieldLink "LotSales" (92 : Nat) "LotSales$Sale" "table" "LLotSales$Table;") ∈ lw_tbl := wt_1 _ (znw tables_1_1 161 _ rfl)
theorem wd_162 : (Jvm.Cond.fieldLink "LotSales$Sale" (18 : Nat) "LotSales$Sale" "credits" "[I") ∈ lw_tbl := wt_1 _ (znw tables_1_1 162 _ rfl)
theorem wd_163 : (Jvm.Cond.fieldLink "LotSales" (145 : Nat) "LotSales$Sale" "credits" "[I") ∈ lw_tbl := wt_1 _ (znw tables_1_1 163 _ rfl)
theorem wd_164 : (Jvm.Cond.fieldLink "LotSales$Sale" (22 : Nat) "LotSales$Sale" "fees" "[I") ∈ lw_tbl := wt_1 _ (znw tables_1_1 164 _ rfl)
theorem wd_165 : (Jvm.Cond.fieldLink "LotSales" (311 : Nat) "LotSales$Sale" "fees" "[I") ∈ lw_tbl := wt_1 _ (znw tables_1_1 165 _ rfl)
theorem wd_166 : (Jvm.Cond.fieldLink "LotSales$Sale" (27 : Nat) "LotSales$Sale" "lots" "[LLotSales$Lot;") ∈ lw_tbl := wt_1 _ (znw tables_1_1 166 _ rfl)
theorem wd_167 : (Jvm.Cond.fieldLink "LotSales" (64 : Nat) "LotSales$Sale" "lots" "[LLotSales$Lot;") ∈ lw_tbl := wt_1 _ (znw tables_1_1 167 _ rfl)
theorem wd_168 : (Jvm.Cond.fieldLink "LotSales$Sale" (34 : Nat) "LotSales$Sale" "ledger" "LLotSales$Ledger;") ∈ lw_tbl := wt_1 _ (znw tables_1_1 168 _ rfl)
theorem wd_169 : (Jvm.Cond.fieldLink "LotSales" (243 : Nat) "LotSales$Sale" "ledger" "LLotSales$Ledger;") ∈ lw_tbl := wt_1 _ (znw tables_1_1 169 _ rfl)
theorem wd_170 : (Jvm.Cond.fieldLink "LotSales$Sale" (49 : Nat) "LotSales$Sale" "lotCount" "I") ∈ lw_tbl := wt_1 _ (znw tables_1_1 170 _ rfl)
theorem wd_171 : (Jvm.Cond.fieldLink "LotSales" (85 : Nat) "LotSales$Sale" "lotCount" "I") ∈ lw_tbl := wt_1 _ (znw tables_1_1 171 _ rfl)
theorem wd_172 : (Jvm.Cond.fieldLink "LotSales$Sale" (59 : Nat) "LotSales$Sale" "numbers" "I") ∈ lw_tbl := wt_1 _ (znw tables_1_1 172 _ rfl)
theorem wd_173 : (Jvm.Cond.fieldLink "LotSales" (231 : Nat) "LotSales$Sale" "numbers" "I") ∈ lw_tbl := wt_1 _ (znw tables_1_1 173 _ rfl)
theorem wd_189 : (Jvm.Cond.classLink "LotSales" (16 : Nat) "LotSales$Standing") ∈ lw_tbl := wt_1 _ (znw tables_1_1 189 _ rfl)
theorem wd_190 : (Jvm.Cond.instantiable "LotSales$Standing" (6 : Nat)) ∈ lw_tbl := wt_1 _ (znw tables_1_1 190 _ rfl)
theorem wd_191 : (Jvm.Cond.methodLinkNest "LotSales" (18 : Nat) ({ cls := "LotSales$Standing", name := "<init>", desc := "()V" } : Jvm.MethodName) "LotSales") ∈ lw_tbl := wt_1 _ (znw tables_1_1 191 _ rfl)
theorem wd_192 : (Jvm.Cond.instanceMethod ({ cls := "LotSales$Standing", name := "<init>", desc := "()V" } : Jvm.MethodName)) ∈ lw_tbl := wt_1 _ (znw tables_1_1 192 _ rfl)
theorem wd_193 : (Jvm.Cond.code ({ cls := "LotSales$Standing", name := "<init>", desc := "()V" } : Jvm.MethodName) prog_6_method_1_code (1 : Nat) (Option.none : Option Jvm.ClassFile.FieldType)) ∈ lw_tbl := wt_1 _ (znw tables_1_1 193 _ rfl)
theorem wd_194 : (Jvm.Cond.methodLink "LotSales$Standing" (3 : Nat) ({ cls := "java/lang/Object", name := "<init>", desc := "()V" } : Jvm.MethodName)) ∈ lw_tbl := wt_1 _ (znw tables_1_1 194 _ rfl)
theorem wd_195 : (Jvm.Cond.fieldLink "LotSales$Standing" (9 : Nat) "LotSales$Standing" "limits" "[I") ∈ lw_tbl := wt_1 _ (znw tables_1_1 195 _ rfl)
theorem wd_196 : (Jvm.Cond.fieldLink "LotSales" (219 : Nat) "LotSales$Standing" "limits" "[I") ∈ lw_tbl := wt_1 _ (znw tables_1_1 196 _ rfl)
theorem wd_197 : (Jvm.Cond.fieldLink "LotSales$Standing" (15 : Nat) "LotSales$Standing" "times" "[I") ∈ lw_tbl := wt_1 _ (znw tables_1_1 197 _ rfl)
theorem wd_198 : (Jvm.Cond.fieldLink "LotSales" (222 : Nat) "LotSales$Standing" "times" "[I") ∈ lw_tbl := wt_1 _ (znw tables_1_1 198 _ rfl)
theorem wd_199 : (Jvm.Cond.fieldLink "LotSales$Standing" (51 : Nat) "LotSales$Standing" "houseLimit" "I") ∈ lw_tbl := wt_1 _ (znw tables_1_1 199 _ rfl)
theorem wd_200 : (Jvm.Cond.fieldLink "LotSales$Standing" (61 : Nat) "LotSales$Standing" "leader" "I") ∈ lw_tbl := wt_1 _ (znw tables_1_1 200 _ rfl)
theorem wd_201 : (Jvm.Cond.fieldLink "LotSales" (198 : Nat) "LotSales$Standing" "leader" "I") ∈ lw_tbl := wt_1 _ (znw tables_1_1 201 _ rfl)
theorem wd_202 : (Jvm.Cond.fieldLink "LotSales$Standing" (64 : Nat) "LotSales$Standing" "leaderLimit" "I") ∈ lw_tbl := wt_1 _ (znw tables_1_1 202 _ rfl)
theorem wd_203 : (Jvm.Cond.fieldLink "LotSales" (205 : Nat) "LotSales$Standing" "leaderLimit" "I") ∈ lw_tbl := wt_1 _ (znw tables_1_1 203 _ rfl)
theorem wd_204 : (Jvm.Cond.fieldLink "LotSales$Standing" (67 : Nat) "LotSales$Standing" "secondLimit" "I") ∈ lw_tbl := wt_1 _ (znw tables_1_1 204 _ rfl)
theorem wd_205 : (Jvm.Cond.fieldLink "LotSales" (208 : Nat) "LotSales$Standing" "secondLimit" "I") ∈ lw_tbl := wt_1 _ (znw tables_1_1 205 _ rfl)
theorem wd_219 : (Jvm.Cond.classLink "LotSales" (23 : Nat) "LotSales$History") ∈ lw_tbl := wt_1 _ (znw tables_1_1 219 _ rfl)
theorem wd_220 : (Jvm.Cond.instantiable "LotSales$History" (3 : Nat)) ∈ lw_tbl := wt_1 _ (znw tables_1_1 220 _ rfl)
theorem wd_221 : (Jvm.Cond.methodLinkNest "LotSales" (25 : Nat) ({ cls := "LotSales$History", name := "<init>", desc := "()V" } : Jvm.MethodName) "LotSales") ∈ lw_tbl := wt_1 _ (znw tables_1_1 221 _ rfl)
theorem wd_222 : (Jvm.Cond.instanceMethod ({ cls := "LotSales$History", name := "<init>", desc := "()V" } : Jvm.MethodName)) ∈ lw_tbl := wt_1 _ (znw tables_1_1 222 _ rfl)
theorem wd_223 : (Jvm.Cond.code ({ cls := "LotSales$History", name := "<init>", desc := "()V" } : Jvm.MethodName) prog_2_method_1_code (1 : Nat) (Option.none : Option Jvm.ClassFile.FieldType)) ∈ lw_tbl := wt_1 _ (znw tables_1_1 223 _ rfl)
theorem wd_224 : (Jvm.Cond.methodLink "LotSales$History" (3 : Nat) ({ cls := "java/lang/Object", name := "<init>", desc := "()V" } : Jvm.MethodName)) ∈ lw_tbl := wt_1 _ (znw tables_1_1 224 _ rfl)
theorem wd_225 : (Jvm.Cond.classLink "LotSales$History" (9 : Nat) "LotSales$Sale") ∈ lw_tbl := wt_1 _ (znw tables_1_1 225 _ rfl)
theorem wd_226 : (Jvm.Cond.arrayOver (Jvm.ClassFile.FieldType.object "LotSales$Sale")) ∈ lw_tbl := wt_1 _ (znw tables_1_1 226 _ rfl)
theorem wd_227 : (Jvm.Cond.fieldLink "LotSales$History" (11 : Nat) "LotSales$History" "kept" "[LLotSales$Sale;") ∈ lw_tbl := wt_1 _ (znw tables_1_1 227 _ rfl)
theorem wd_228 : (Jvm.Cond.fieldLink "LotSales$History" (17 : Nat) "LotSales$History" "next" "I") ∈ lw_tbl := wt_1 _ (znw tables_1_1 228 _ rfl)
theorem wd_229 : (Jvm.Cond.fieldLink "LotSales$History" (26 : Nat) "LotSales$History" "count" "I") ∈ lw_tbl := wt_1 _ (znw tables_1_1 229 _ rfl)
theorem wd_230 : (Jvm.Cond.fieldLink "LotSales" (374 : Nat) "LotSales$History" "count" "I") ∈ lw_tbl := wt_1 _ (znw tables_1_1 230 _ rfl)
theorem wd_238 : (Jvm.Cond.classLink "LotSales" (30 : Nat) "LotSales$Text") ∈ lw_tbl := wt_1 _ (znw tables_1_1 238 _ rfl)
theorem wd_239 : (Jvm.Cond.instantiable "LotSales$Text" (6 : Nat)) ∈ lw_tbl := wt_1 _ (znw tables_1_1 239 _ rfl)
theorem wd_240 : (Jvm.Cond.methodLinkNest "LotSales" (32 : Nat) ({ cls := "LotSales$Text", name := "<init>", desc := "()V" } : Jvm.MethodName) "LotSales") ∈ lw_tbl := wt_2 _ (znw tables_1_2 0 _ rfl)
theorem wd_241 : (Jvm.Cond.instanceMethod ({ cls := "LotSales$Text", name := "<init>", desc := "()V" } : Jvm.MethodName)) ∈ lw_tbl := wt_2 _ (znw tables_1_2 1 _ rfl)
theorem wd_242 : (Jvm.Cond.code ({ cls := "LotSales$Text", name := "<init>", desc := "()V" } : Jvm.MethodName) prog_8_method_1_code (1 : Nat) (Option.none : Option Jvm.ClassFile.FieldType)) ∈ lw_tbl := wt_2 _ (znw tables_1_2 2 _ rfl)
theorem wd_243 : (Jvm.Cond.methodLink "LotSales$Text" (3 : Nat) ({ cls := "java/lang/Object", name := "<init>", desc := "()V" } : Jvm.MethodName)) ∈ lw_tbl := wt_2 _ (znw tables_1_2 3 _ rfl)
theorem wd_244 : (Jvm.Cond.fieldLink "LotSales$Text" (9 : Nat) "LotSales$Text" "signs" "[C") ∈ lw_tbl := wt_2 _ (znw tables_1_2 4 _ rfl)
theorem wd_245 : (Jvm.Cond.fieldLink "LotSales$Text" (15 : Nat) "LotSales$Text" "numbers" "[I") ∈ lw_tbl := wt_2 _ (znw tables_1_2 5 _ rfl)
theorem wd_246 : (Jvm.Cond.fieldLink "LotSales" (414 : Nat) "LotSales$Text" "numbers" "[I") ∈ lw_tbl := wt_2 _ (znw tables_1_2 6 _ rfl)
theorem wd_247 : (Jvm.Cond.fieldLink "LotSales$Text" (19 : Nat) "LotSales$Text" "length" "I") ∈ lw_tbl := wt_2 _ (znw tables_1_2 7 _ rfl)
theorem wd_248 : (Jvm.Cond.fieldLink "LotSales" (348 : Nat) "LotSales$Text" "length" "I") ∈ lw_tbl := wt_2 _ (znw tables_1_2 8 _ rfl)
theorem wd_249 : (Jvm.Cond.fieldLink "LotSales$Text" (23 : Nat) "LotSales$Text" "at" "I") ∈ lw_tbl := wt_2 _ (znw tables_1_2 9 _ rfl)
theorem wd_250 : (Jvm.Cond.fieldLink "LotSales$Text" (30 : Nat) "LotSales$Text" "commands" "I") ∈ lw_tbl := wt_2 _ (znw tables_1_2 10 _ rfl)
theorem wd_251 : (Jvm.Cond.fieldLink "LotSales" (365 : Nat) "LotSales$Text" "commands" "I") ∈ lw_tbl := wt_2 _ (znw tables_1_2 11 _ rfl)
theorem wd_252 : (Jvm.Cond.fieldLink "LotSales$Text" (41 : Nat) "LotSales$Text" "command" "C") ∈ lw_tbl := wt_2 _ (znw tables_1_2 12 _ rfl)
theorem wd_253 : (Jvm.Cond.fieldLink "LotSales" (416 : Nat) "LotSales$Text" "command" "C") ∈ lw_tbl := wt_2 _ (znw tables_1_2 13 _ rfl)
theorem wd_267 : (Jvm.Cond.arrayClass Jvm.ClassFile.FieldType.char) ∈ lw_tbl := wt_2 _ (znw tables_1_2 27 _ rfl)
theorem wd_268 : (Jvm.Cond.fieldLink "LotSales" (10 : Nat) "LotSales" "sale" "LLotSales$Sale;") ∈ lw_tbl := wt_2 _ (znw tables_1_2 28 _ rfl)
theorem wd_269 : (Jvm.Cond.fieldLink "LotSales" (19 : Nat) "LotSales" "view" "LLotSales$Standing;") ∈ lw_tbl := wt_2 _ (znw tables_1_2 29 _ rfl)
theorem wd_270 : (Jvm.Cond.fieldLink "LotSales" (26 : Nat) "LotSales" "history" "LLotSales$History;") ∈ lw_tbl := wt_2 _ (znw tables_1_2 30 _ rfl)
theorem wd_271 : (Jvm.Cond.fieldLink "LotSales" (33 : Nat) "LotSales" "text" "LLotSales$Text;") ∈ lw_tbl := wt_2 _ (znw tables_1_2 31 _ rfl)
theorem wd_272 : (Jvm.Cond.fieldLink "LotSales" (380 : Nat) "LotSales" "snapshot" "LLotSales$Sale;") ∈ lw_tbl := wt_2 _ (znw tables_1_2 32 _ rfl)
theorem wd_273 : (Jvm.Cond.fieldLink "LotSales" (37 : Nat) "LotSales" "latestReason" "I") ∈ lw_tbl := wt_2 _ (znw tables_1_2 33 _ rfl)
theorem wd_274 : (Jvm.Cond.fieldLink "LotSales" (41 : Nat) "LotSales" "latestFault" "I") ∈ lw_tbl := wt_2 _ (znw tables_1_2 34 _ rfl)
theorem wd_290 : (Jvm.Cond.methodLink "LotSalesLaw" (255 : Nat) ({ cls := "LotSales", name := "audit", desc := "()I" } : Jvm.MethodName)) ∈ lw_tbl := wt_2 _ (znw tables_1_2 50 _ rfl)
theorem wd_291 : (Jvm.Cond.instanceMethod ({ cls := "LotSales", name := "audit", desc := "()I" } : Jvm.MethodName)) ∈ lw_tbl := wt_2 _ (znw tables_1_2 51 _ rfl)
theorem wd_293 : (Jvm.Cond.code ({ cls := "LotSales", name := "audit", desc := "()I" } : Jvm.MethodName) prog_1_method_35_code (3 : Nat) (Option.some Jvm.ClassFile.FieldType.int)) ∈ lw_tbl := wt_2 _ (znw tables_1_2 53 _ rfl)
theorem wd_294 : (Jvm.Cond.methodLink "LotSales" (344 : Nat) ({ cls := "LotSales$Ledger", name := "pricesTo", desc := "(I)I" } : Jvm.MethodName)) ∈ lw_tbl := wt_2 _ (znw tables_1_2 54 _ rfl)
theorem wd_295 : (Jvm.Cond.instanceMethod ({ cls := "LotSales$Ledger", name := "pricesTo", desc := "(I)I" } : Jvm.MethodName)) ∈ lw_tbl := wt_2 _ (znw tables_1_2 55 _ rfl)
theorem wd_297 : (Jvm.Cond.code ({ cls := "LotSales$Ledger", name := "pricesTo", desc := "(I)I" } : Jvm.MethodName) prog_3_method_5_code (4 : Nat) (Option.some Jvm.ClassFile.FieldType.int)) ∈ lw_tbl := wt_2 _ (znw tables_1_2 57 _ rfl)
theorem wd_298 : (Jvm.Cond.methodLink "LotSales" (288 : Nat) ({ cls := "LotSales$Sale", name := "pricesTo", desc := "(I)I" } : Jvm.MethodName)) ∈ lw_tbl := wt_2 _ (znw tables_1_2 58 _ rfl)
theorem wd_299 : (Jvm.Cond.instanceMethod ({ cls := "LotSales$Sale", name := "pricesTo", desc := "(I)I" } : Jvm.MethodName)) ∈ lw_tbl := wt_2 _ (znw tables_1_2 59 _ rfl)
theorem wd_301 : (Jvm.Cond.code ({ cls := "LotSales$Sale", name := "pricesTo", desc := "(I)I" } : Jvm.MethodName) prog_5_method_11_code (4 : Nat) (Option.some Jvm.ClassFile.FieldType.int)) ∈ lw_tbl := wt_2 _ (znw tables_1_2 61 _ rfl)
theorem wd_302 : (Jvm.Cond.methodLink "LotSales$Sale" (105 : Nat) ({ cls := "LotSales$Sale", name := "isSoldTo", desc := "(II)Z" } : Jvm.MethodName)) ∈ lw_tbl := wt_2 _ (znw tables_1_2 62 _ rfl)
theorem wd_303 : (Jvm.Cond.instanceMethod ({ cls := "LotSales$Sale", name := "isSoldTo", desc := "(II)Z" } : Jvm.MethodName)) ∈ lw_tbl := wt_2 _ (znw tables_1_2 63 _ rfl)
theorem wd_305 : (Jvm.Cond.code ({ cls := "LotSales$Sale", name := "isSoldTo", desc := "(II)Z" } : Jvm.MethodName) prog_5_method_13_code (3 : Nat) (Option.some Jvm.ClassFile.FieldType.boolean)) ∈ lw_tbl := wt_2 _ (znw tables_1_2 65 _ rfl)
theorem wd_306 : (Jvm.Cond.methodLink "LotSales" (345 : Nat) ({ cls := "LotSales$Sale", name := "feesInLedger", desc := "(I)I" } : Jvm.MethodName)) ∈ lw_tbl := wt_2 _ (znw tables_1_2 66 _ rfl)
theorem wd_307 : (Jvm.Cond.instanceMethod ({ cls := "LotSales$Sale", name := "feesInLedger", desc := "(I)I" } : Jvm.MethodName)) ∈ lw_tbl := wt_2 _ (znw tables_1_2 67 _ rfl)
theorem wd_309 : (Jvm.Cond.code ({ cls := "LotSales$Sale", name := "feesInLedger", desc := "(I)I" } : Jvm.MethodName) prog_5_method_18_code (5 : Nat) (Option.some Jvm.ClassFile.FieldType.int)) ∈ lw_tbl := wt_2 _ (znw tables_1_2 69 _ rfl)
theorem wd_310 : (Jvm.Cond.methodLink "LotSales$Sale" (136 : Nat) ({ cls := "LotSales$Sale", name := "has", desc := "(I)Z" } : Jvm.MethodName)) ∈ lw_tbl := wt_2 _ (znw tables_1_2 70 _ rfl)
theorem wd_311 : (Jvm.Cond.instanceMethod ({ cls := "LotSales$Sale", name := "has", desc := "(I)Z" } : Jvm.MethodName)) ∈ lw_tbl := wt_2 _ (znw tables_1_2 71 _ rfl)
theorem wd_313 : (Jvm.Cond.code ({ cls := "LotSales$Sale", name := "has", desc := "(I)Z" } : Jvm.MethodName) prog_5_method_3_code (2 : Nat) (Option.some Jvm.ClassFile.FieldType.boolean)) ∈ lw_tbl := wt_2 _ (znw tables_1_2 73 _ rfl)
theorem wd_314 : (Jvm.Cond.methodLink "LotSalesLaw" (266 : Nat) ({ cls := "LotSales", name := "faultPosition", desc := "()I" } : Jvm.MethodName)) ∈ lw_tbl := wt_2 _ (znw tables_1_2 74 _ rfl)
theorem wd_315 : (Jvm.Cond.instanceMethod ({ cls := "LotSales", name := "faultPosition", desc := "()I" } : Jvm.MethodName)) ∈ lw_tbl := wt_2 _ (znw tables_1_2 75 _ rfl)
theorem wd_317 : (Jvm.Cond.code ({ cls := "LotSales", name := "faultPosition", desc := "()I" } : Jvm.MethodName) prog_1_method_38_code (1 : Nat) (Option.some Jvm.ClassFile.FieldType.int)) ∈ lw_tbl := wt_2 _ (znw tables_1_2 77 _ rfl)
theorem wd_318 : (Jvm.Cond.methodLink "LotSalesLaw" (273 : Nat) ({ cls := "LotSales", name := "save", desc := "()V" } : Jvm.MethodName)) ∈ lw_tbl := wt_2 _ (znw tables_1_2 78 _ rfl)
theorem wd_319 : (Jvm.Cond.instanceMethod ({ cls := "LotSales", name := "save", desc := "()V" } : Jvm.MethodName)) ∈ lw_tbl := wt_2 _ (znw tables_1_2 79 _ rfl)
theorem wd_321 : (Jvm.Cond.code ({ cls := "LotSales", name := "save", desc := "()V" } : Jvm.MethodName) prog_1_method_40_code (1 : Nat) (Option.none : Option Jvm.ClassFile.FieldType)) ∈ lw_tbl := wt_2 _ (znw tables_1_2 81 _ rfl)
theorem wd_322 : (Jvm.Cond.methodLink "LotSales" (383 : Nat) ({ cls := "LotSales$Sale", name := "take", desc := "(LLotSales$Sale;)V" } : Jvm.MethodName)) ∈ lw_tbl := wt_2 _ (znw tables_1_2 82 _ rfl)
theorem wd_323 : (Jvm.Cond.instanceMethod ({ cls := "LotSales$Sale", name := "take", desc := "(LLotSales$Sale;)V" } : Jvm.MethodName)) ∈ lw_tbl := wt_2 _ (znw tables_1_2 83 _ rfl)
theorem wd_325 : (Jvm.Cond.code ({ cls := "LotSales$Sale", name := "take", desc := "(LLotSales$Sale;)V" } : Jvm.MethodName) prog_5_method_2_code (3 : Nat) (Option.none : Option Jvm.ClassFile.FieldType)) ∈ lw_tbl := wt_2 _ (znw tables_1_2 85 _ rfl)
theorem wd_326 : (Jvm.Cond.methodLink "LotSales$Sale" (39 : Nat) ({ cls := "LotSales$Table", name := "take", desc := "(LLotSales$Table;)V" } : Jvm.MethodName)) ∈ lw_tbl := wt_2 _ (znw tables_1_2 86 _ rfl)
theorem wd_327 : (Jvm.Cond.instanceMethod ({ cls := "LotSales$Table", name := "take", desc := "(LLotSales$Table;)V" } : Jvm.MethodName)) ∈ lw_tbl := wt_2 _ (znw tables_1_2 87 _ rfl)
theorem wd_329 : (Jvm.Cond.code ({ cls := "LotSales$Table", name := "take", desc := "(LLotSales$Table;)V" } : Jvm.MethodName) prog_7_method_2_code (2 : Nat) (Option.none : Option Jvm.ClassFile.FieldType)) ∈ lw_tbl := wt_2 _ (znw tables_1_2 89 _ rfl)
theorem wd_330 : (Jvm.Cond.methodLink "LotSales$Sale" (43 : Nat) ({ cls := "java/lang/System", name := "arraycopy", desc := "(Ljava/lang/Object;ILjava/lang/Object;II)V" } : Jvm.MethodName)) ∈ lw_tbl := wt_2 _ (znw tables_1_2 90 _ rfl)
theorem wd_331 : (Jvm.Cond.methodLink "LotSales$Sale" (53 : Nat) ({ cls := "LotSales$Lot", name := "take", desc := "(LLotSales$Lot;)V" } : Jvm.MethodName)) ∈ lw_tbl := wt_2 _ (znw tables_1_2 91 _ rfl)
theorem wd_332 : (Jvm.Cond.instanceMethod ({ cls := "LotSales$Lot", name := "take", desc := "(LLotSales$Lot;)V" } : Jvm.MethodName)) ∈ lw_tbl := wt_2 _ (znw tables_1_2 92 _ rfl)
theorem wd_334 : (Jvm.Cond.code ({ cls := "LotSales$Lot", name := "take", desc := "(LLotSales$Lot;)V" } : Jvm.MethodName) prog_4_method_3_code (2 : Nat) (Option.none : Option Jvm.ClassFile.FieldType)) ∈ lw_tbl := wt_2 _ (znw tables_1_2 94 _ rfl)
theorem wd_335 : (Jvm.Cond.methodLink "LotSales$Lot" (55 : Nat) ({ cls := "java/lang/System", name := "arraycopy", desc := "(Ljava/lang/Object;ILjava/lang/Object;II)V" } : Jvm.MethodName)) ∈ lw_tbl := wt_2 _ (znw tables_1_2 95 _ rfl)
theorem wd_336 : (Jvm.Cond.methodLink "LotSales$Sale" (56 : Nat) ({ cls := "LotSales$Ledger", name := "take", desc := "(LLotSales$Ledger;)V" } : Jvm.MethodName)) ∈ lw_tbl := wt_2 _ (znw tables_1_2 96 _ rfl)
theorem wd_337 : (Jvm.Cond.instanceMethod ({ cls := "LotSales$Ledger", name := "take", desc := "(LLotSales$Ledger;)V" } : Jvm.MethodName)) ∈ lw_tbl := wt_2 _ (znw tables_1_2 97 _ rfl)
theorem wd_339 : (Jvm.Cond.code ({ cls := "LotSales$Ledger", name := "take", desc := "(LLotSales$Ledger;)V" } : Jvm.MethodName) prog_3_method_2_code (2 : Nat) (Option.none : Option Jvm.ClassFile.FieldType)) ∈ lw_tbl := wt_2 _ (znw tables_1_2 99 _ rfl)
theorem wd_340 : (Jvm.Cond.methodLink "LotSales$Ledger" (28 : Nat) ({ cls := "java/lang/System", name := "arraycopy", desc := "(Ljava/lang/Object;ILjava/lang/Object;II)V" } : Jvm.MethodName)) ∈ lw_tbl := wt_2 _ (znw tables_1_2 100 _ rfl)
theorem wd_341 : (Jvm.Cond.methodLink "LotSalesLaw" (144 : Nat) ({ cls := "LotSalesLaw", name := "addLot", desc := "(LLotSales;III[J)I" } : Jvm.MethodName)) ∈ lw_tbl := wt_2 _ (znw tables_1_2 101 _ rfl)
theorem wd_342 : (Jvm.Cond.static ({ cls := "LotSalesLaw", name := "addLot", desc := "(LLotSales;III[J)I" } : Jvm.MethodName)) ∈ lw_tbl := wt_2 _ (znw tables_1_2 102 _ rfl)
theorem wd_343 : (Jvm.Cond.codeWith ({ cls := "LotSalesLaw", name := "addLot", desc := "(LLotSales;III[J)I" } : Jvm.MethodName) method_3_code (6 : Nat) (Option.some Jvm.ClassFile.FieldType.int) [((0 : Nat), (12 : Nat), (15 : Nat), (13 : Nat)), ((0 : Nat), (12 : Nat), (19 : Nat), (15 : Nat))]) ∈ lw_tbl := wt_2 _ (znw tables_1_2 103 _ rfl)
theorem wd_344 : (Jvm.Cond.classLink "LotSalesLaw" (13 : Nat) "java/lang/IllegalArgumentException") ∈ lw_tbl := wt_2 _ (znw tables_1_2 104 _ rfl)
theorem wd_345 : (Jvm.Cond.classLink "LotSalesLaw" (15 : Nat) "java/lang/IllegalStateException") ∈ lw_tbl := wt_2 _ (znw tables_1_2 105 _ rfl)
theorem wd_346 : (Jvm.Cond.methodLink "LotSalesLaw" (7 : Nat) ({ cls := "LotSales", name := "addLot", desc := "(III)I" } : Jvm.MethodName)) ∈ lw_tbl := wt_2 _ (znw tables_1_2 106 _ rfl)
theorem wd_347 : (Jvm.Cond.instanceMethod ({ cls := "LotSales", name := "addLot", desc := "(III)I" } : Jvm.MethodName)) ∈ lw_tbl := wt_2 _ (znw tables_1_2 107 _ rfl)
theorem wd_349 : (Jvm.Cond.code ({ cls := "LotSales", name := "addLot", desc := "(III)I" } : Jvm.MethodName) prog_1_method_2_code (4 : Nat) (Option.some Jvm.ClassFile.FieldType.int)) ∈ lw_tbl := wt_2 _ (znw tables_1_2 109 _ rfl)
theorem wd_350 : (Jvm.Cond.methodLink "LotSales" (44 : Nat) ({ cls := "LotSales", name := "needWithin", desc := "(III)V" } : Jvm.MethodName)) ∈ lw_tbl := wt_2 _ (znw tables_1_2 110 _ rfl)
theorem wd_351 : (Jvm.Cond.static ({ cls := "LotSales", name := "needWithin", desc := "(III)V" } : Jvm.MethodName)) ∈ lw_tbl := wt_2 _ (znw tables_1_2 111 _ rfl)
theorem wd_352 : (Jvm.Cond.code ({ cls := "LotSales", name := "needWithin", desc := "(III)V" } : Jvm.MethodName) prog_1_method_44_code (3 : Nat) (Option.none : Option Jvm.ClassFile.FieldType)) ∈ lw_tbl := wt_2 _ (znw tables_1_2 112 _ rfl)
theorem wd_353 : (Jvm.Cond.classLink "LotSales" (112 : Nat) "java/lang/IllegalArgumentException") ∈ lw_tbl := wt_2 _ (znw tables_1_2 113 _ rfl)
theorem wd_354 : (Jvm.Cond.instantiable "java/lang/IllegalArgumentException" (6 : Nat)) ∈ lw_tbl := wt_2 _ (znw tables_1_2 114 _ rfl)
theorem wd_398 : (Jvm.Cond.stringRef "LotSales" (401 : Nat) "an argument is out of range") ∈ lw_tbl := wt_2 _ (znw tables_1_2 158 _ rfl)
theorem wd_399 : (Jvm.Cond.methodLink "LotSales" (116 : Nat) ({ cls := "java/lang/IllegalArgumentException", name := "<init>", desc := "(Ljava/lang/String;)V" } : Jvm.MethodName)) ∈ lw_tbl := wt_2 _ (znw tables_1_2 159 _ rfl)
theorem wd_400 : (Jvm.Cond.instanceMethod ({ cls := "java/lang/IllegalArgumentException", name := "<init>", desc := "(Ljava/lang/String;)V" } : Jvm.MethodName)) ∈ lw_tbl := wt_2 _ (znw tables_1_2 160 _ rfl)
theorem wd_401 : (Jvm.Cond.code ({ cls := "java/lang/IllegalArgumentException", name := "<init>", desc := "(Ljava/lang/String;)V" } : Jvm.MethodName) prog_15_method_2_code (2 : Nat) (Option.none : Option Jvm.ClassFile.FieldType)) ∈ lw_tbl := wt_2 _ (znw tables_1_2 161 _ rfl)
theorem wd_402 : (Jvm.Cond.methodLink "java/lang/IllegalArgumentException" (7 : Nat) ({ cls := "java/lang/RuntimeException", name := "<init>", desc := "(Ljava/lang/String;)V" } : Jvm.MethodName)) ∈ lw_tbl := wt_2 _ (znw tables_1_2 162 _ rfl)
theorem wd_403 : (Jvm.Cond.instanceMethod ({ cls := "java/lang/RuntimeException", name := "<init>", desc := "(Ljava/lang/String;)V" } : Jvm.MethodName)) ∈ lw_tbl := wt_2 _ (znw tables_1_2 163 _ rfl)
theorem wd_404 : (Jvm.Cond.code ({ cls := "java/lang/RuntimeException", name := "<init>", desc := "(Ljava/lang/String;)V" } : Jvm.MethodName) prog_19_method_2_code (2 : Nat) (Option.none : Option Jvm.ClassFile.FieldType)) ∈ lw_tbl := wt_2 _ (znw tables_1_2 164 _ rfl)
theorem wd_424 : (Jvm.Cond.arrayClass Jvm.ClassFile.FieldType.byte) ∈ lw_tbl := wt_2 _ (znw tables_1_2 184 _ rfl)
theorem wd_425 : (Jvm.Cond.constant "LotSales" (48 : Nat) (90000 : Int32)) ∈ lw_tbl := wt_2 _ (znw tables_1_2 185 _ rfl)
theorem wd_426 : (Jvm.Cond.methodLink "LotSales" (49 : Nat) ({ cls := "LotSales", name := "needRoomForLots", desc := "(I)V" } : Jvm.MethodName)) ∈ lw_tbl := wt_2 _ (znw tables_1_2 186 _ rfl)
theorem wd_428 : (Jvm.Cond.instanceMethod ({ cls := "LotSales", name := "needRoomForLots", desc := "(I)V" } : Jvm.MethodName)) ∈ lw_tbl := wt_2 _ (znw tables_1_2 188 _ rfl)
theorem wd_429 : (Jvm.Cond.code ({ cls := "LotSales", name := "needRoomForLots", desc := "(I)V" } : Jvm.MethodName) prog_1_method_46_code (2 : Nat) (Option.none : Option Jvm.ClassFile.FieldType)) ∈ lw_tbl := wt_2 _ (znw tables_1_2 189 _ rfl)
theorem wd_430 : (Jvm.Cond.classLink "LotSales" (117 : Nat) "java/lang/IllegalStateException") ∈ lw_tbl := wt_2 _ (znw tables_1_2 190 _ rfl)
theorem wd_431 : (Jvm.Cond.instantiable "java/lang/IllegalStateException" (6 : Nat)) ∈ lw_tbl := wt_2 _ (znw tables_1_2 191 _ rfl)
theorem wd_439 : (Jvm.Cond.stringRef "LotSales" (405 : Nat) "too many lots") ∈ lw_tbl := wt_2 _ (znw tables_1_2 199 _ rfl)
theorem wd_440 : (Jvm.Cond.methodLink "LotSales" (121 : Nat) ({ cls := "java/lang/IllegalStateException", name := "<init>", desc := "(Ljava/lang/String;)V" } : Jvm.MethodName)) ∈ lw_tbl := wt_2 _ (znw tables_1_2 200 _ rfl)
theorem wd_441 : (Jvm.Cond.instanceMethod ({ cls := "java/lang/IllegalStateException", name := "<init>", desc := "(Ljava/lang/String;)V" } : Jvm.MethodName)) ∈ lw_tbl := wt_2 _ (znw tables_1_2 201 _ rfl)
theorem wd_442 : (Jvm.Cond.code ({ cls := "java/lang/IllegalStateException", name := "<init>", desc := "(Ljava/lang/String;)V" } : Jvm.MethodName) prog_16_method_2_code (2 : Nat) (Option.none : Option Jvm.ClassFile.FieldType)) ∈ lw_tbl := wt_2 _ (znw tables_1_2 202 _ rfl)
theorem wd_443 : (Jvm.Cond.methodLink "java/lang/IllegalStateException" (7 : Nat) ({ cls := "java/lang/RuntimeException", name := "<init>", desc := "(Ljava/lang/String;)V" } : Jvm.MethodName)) ∈ lw_tbl := wt_2 _ (znw tables_1_2 203 _ rfl)
theorem wd_446 : (Jvm.Cond.methodLink "LotSales" (53 : Nat) ({ cls := "LotSales$History", name := "keep", desc := "(LLotSales$Sale;)V" } : Jvm.MethodName)) ∈ lw_tbl := wt_2 _ (znw tables_1_2 206 _ rfl)
theorem wd_447 : (Jvm.Cond.instanceMethod ({ cls := "LotSales$History", name := "keep", desc := "(LLotSales$Sale;)V" } : Jvm.MethodName)) ∈ lw_tbl := wt_2 _ (znw tables_1_2 207 _ rfl)
theorem wd_449 : (Jvm.Cond.code ({ cls := "LotSales$History", name := "keep", desc := "(LLotSales$Sale;)V" } : Jvm.MethodName) prog_2_method_2_code (2 : Nat) (Option.none : Option Jvm.ClassFile.FieldType)) ∈ lw_tbl := wt_2 _ (znw tables_1_2 209 _ rfl)
theorem wd_450 : (Jvm.Cond.methodLink "LotSales$History" (21 : Nat) ({ cls := "LotSales$Sale", name := "<init>", desc := "()V" } : Jvm.MethodName)) ∈ lw_tbl := wt_2 _ (znw tables_1_2 210 _ rfl)
theorem wd_451 : (Jvm.Cond.methodLink "LotSales$History" (22 : Nat) ({ cls := "LotSales$Sale", name := "take", desc := "(LLotSales$Sale;)V" } : Jvm.MethodName)) ∈ lw_tbl := wt_2 _ (znw tables_1_2 211 _ rfl)
theorem wd_452 : (Jvm.Cond.methodLink "LotSales$History" (29 : Nat) ({ cls := "java/lang/Math", name := "min", desc := "(II)I" } : Jvm.MethodName)) ∈ lw_tbl := wt_2 _ (znw tables_1_2 212 _ rfl)
theorem wd_453 : (Jvm.Cond.static ({ cls := "java/lang/Math", name := "min", desc := "(II)I" } : Jvm.MethodName)) ∈ lw_tbl := wt_2 _ (znw tables_1_2 213 _ rfl)
theorem wd_454 : (Jvm.Cond.code ({ cls := "java/lang/Math", name := "min", desc := "(II)I" } : Jvm.MethodName) prog_18_method_69_code (2 : Nat) (Option.some Jvm.ClassFile.FieldType.int)) ∈ lw_tbl := wt_2 _ (znw tables_1_2 214 _ rfl)
theorem wd_455 : (Jvm.Cond.methodLink "LotSales" (57 : Nat) ({ cls := "LotSales$Sale", name := "makeLot", desc := "(III)I" } : Jvm.MethodName)) ∈ lw_tbl := wt_2 _ (znw tables_1_2 215 _ rfl)
theorem wd_456 : (Jvm.Cond.instanceMethod ({ cls := "LotSales$Sale", name := "makeLot", desc := "(III)I" } : Jvm.MethodName)) ∈ lw_tbl := wt_2 _ (znw tables_1_2 216 _ rfl)
theorem wd_458 : (Jvm.Cond.code ({ cls := "LotSales$Sale", name := "makeLot", desc := "(III)I" } : Jvm.MethodName) prog_5_method_5_code (5 : Nat) (Option.some Jvm.ClassFile.FieldType.int)) ∈ lw_tbl := wt_2 _ (znw tables_1_2 218 _ rfl)
theorem wd_459 : (Jvm.Cond.methodLink "LotSales$Sale" (62 : Nat) ({ cls := "LotSales$Lot", name := "begin", desc := "(III)V" } : Jvm.MethodName)) ∈ lw_tbl := wt_2 _ (znw tables_1_2 219 _ rfl)
theorem wd_460 : (Jvm.Cond.instanceMethod ({ cls := "LotSales$Lot", name := "begin", desc := "(III)V" } : Jvm.MethodName)) ∈ lw_tbl := wt_2 _ (znw tables_1_2 220 _ rfl)
theorem wd_462 : (Jvm.Cond.code ({ cls := "LotSales$Lot", name := "begin", desc := "(III)V" } : Jvm.MethodName) prog_4_method_2_code (4 : Nat) (Option.none : Option Jvm.ClassFile.FieldType)) ∈ lw_tbl := wt_2 _ (znw tables_1_2 222 _ rfl)
theorem wd_463 : (Jvm.Cond.methodLink "LotSales$Lot" (49 : Nat) ({ cls := "LotSales$Lot", name := "removeOrders", desc := "()V" } : Jvm.MethodName)) ∈ lw_tbl := wt_2 _ (znw tables_1_2 223 _ rfl)
theorem wd_464 : (Jvm.Cond.instanceMethod ({ cls := "LotSales$Lot", name := "removeOrders", desc := "()V" } : Jvm.MethodName)) ∈ lw_tbl := wt_2 _ (znw tables_1_2 224 _ rfl)
theorem wd_466 : (Jvm.Cond.code ({ cls := "LotSales$Lot", name := "removeOrders", desc := "()V" } : Jvm.MethodName) prog_4_method_7_code (2 : Nat) (Option.none : Option Jvm.ClassFile.FieldType)) ∈ lw_tbl := wt_2 _ (znw tables_1_2 226 _ rfl)
theorem wd_467 : (Jvm.Cond.methodLink "LotSales$Lot" (61 : Nat) ({ cls := "LotSales$Lot", name := "putOrder", desc := "(III)V" } : Jvm.MethodName)) ∈ lw_tbl := wt_2 _ (znw tables_1_2 227 _ rfl)
theorem wd_468 : (Jvm.Cond.instanceMethod ({ cls := "LotSales$Lot", name := "putOrder", desc := "(III)V" } : Jvm.MethodName)) ∈ lw_tbl := wt_2 _ (znw tables_1_2 228 _ rfl)
theorem wd_470 : (Jvm.Cond.code ({ cls := "LotSales$Lot", name := "putOrder", desc := "(III)V" } : Jvm.MethodName) prog_4_method_4_code (4 : Nat) (Option.none : Option Jvm.ClassFile.FieldType)) ∈ lw_tbl := wt_2 _ (znw tables_1_2 230 _ rfl)
theorem wd_471 : (Jvm.Cond.methodLink "LotSales$Lot" (52 : Nat) ({ cls := "LotSales$Lot", name := "removeBids", desc := "()V" } : Jvm.MethodName)) ∈ lw_tbl := wt_2 _ (znw tables_1_2 231 _ rfl)
theorem wd_472 : (Jvm.Cond.instanceMethod ({ cls := "LotSales$Lot", name := "removeBids", desc := "()V" } : Jvm.MethodName)) ∈ lw_tbl := wt_2 _ (znw tables_1_2 232 _ rfl)
theorem wd_474 : (Jvm.Cond.code ({ cls := "LotSales$Lot", name := "removeBids", desc := "()V" } : Jvm.MethodName) prog_4_method_8_code (2 : Nat) (Option.none : Option Jvm.ClassFile.FieldType)) ∈ lw_tbl := wt_2 _ (znw tables_1_2 234 _ rfl)
theorem wd_475 : (Jvm.Cond.methodLink "LotSales$Lot" (65 : Nat) ({ cls := "LotSales$Lot", name := "putBid", desc := "(III)V" } : Jvm.MethodName)) ∈ lw_tbl := wt_2 _ (znw tables_1_2 235 _ rfl)
theorem wd_476 : (Jvm.Cond.instanceMethod ({ cls := "LotSales$Lot", name := "putBid", desc := "(III)V" } : Jvm.MethodName)) ∈ lw_tbl := wt_2 _ (znw tables_1_2 236 _ rfl)
theorem wd_478 : (Jvm.Cond.code ({ cls := "LotSales$Lot", name := "putBid", desc := "(III)V" } : Jvm.MethodName) prog_4_method_5_code (4 : Nat) (Option.none : Option Jvm.ClassFile.FieldType)) ∈ lw_tbl := wt_2 _ (znw tables_1_2 238 _ rfl)
theorem wd_479 : (Jvm.Cond.methodLink "LotSalesLaw" (153 : Nat) ({ cls := "LotSalesLaw", name := "lot", desc := "(LLotSales;II[J)I" } : Jvm.MethodName)) ∈ lw_tbl := wt_2 _ (znw tables_1_2 239 _ rfl)
theorem wd_480 : (Jvm.Cond.static ({ cls := "LotSalesLaw", name := "lot", desc := "(LLotSales;II[J)I" } : Jvm.MethodName)) ∈ lw_tbl := wt_3 _ (znw tables_1_3 0 _ rfl)
theorem wd_481 : (Jvm.Cond.codeWith ({ cls := "LotSalesLaw", name := "lot", desc := "(LLotSales;II[J)I" } : Jvm.MethodName) method_4_code (5 : Nat) (Option.some Jvm.ClassFile.FieldType.int) [((0 : Nat), (10 : Nat), (13 : Nat), (21 : Nat)), ((0 : Nat), (10 : Nat), (17 : Nat), (13 : Nat))]) ∈ lw_tbl := wt_3 _ (znw tables_1_3 1 _ rfl)
theorem wd_482 : (Jvm.Cond.classLink "LotSalesLaw" (21 : Nat) "java/lang/IndexOutOfBoundsException") ∈ lw_tbl := wt_3 _ (znw tables_1_3 2 _ rfl)
theorem wd_483 : (Jvm.Cond.instantiable "java/lang/ArrayIndexOutOfBoundsException" (6 : Nat)) ∈ lw_tbl := wt_3 _ (znw tables_1_3 3 _ rfl)
theorem wd_484 : (Jvm.Cond.instanceMethod ({ cls := "java/lang/ArrayIndexOutOfBoundsException", name := "<init>", desc := "(Ljava/lang/String;)V" } : Jvm.MethodName)) ∈ lw_tbl := wt_3 _ (znw tables_1_3 4 _ rfl)
theorem wd_485 : (Jvm.Cond.code ({ cls := "java/lang/ArrayIndexOutOfBoundsException", name := "<init>", desc := "(Ljava/lang/String;)V" } : Jvm.MethodName) prog_13_method_2_code (2 : Nat) (Option.none : Option Jvm.ClassFile.FieldType)) ∈ lw_tbl := wt_3 _ (znw tables_1_3 5 _ rfl)
theorem wd_486 : (Jvm.Cond.methodLink "java/lang/ArrayIndexOutOfBoundsException" (7 : Nat) ({ cls := "java/lang/IndexOutOfBoundsException", name := "<init>", desc := "(Ljava/lang/String;)V" } : Jvm.MethodName)) ∈ lw_tbl := wt_3 _ (znw tables_1_3 6 _ rfl)
theorem wd_487 : (Jvm.Cond.instanceMethod ({ cls := "java/lang/IndexOutOfBoundsException", name := "<init>", desc := "(Ljava/lang/String;)V" } : Jvm.MethodName)) ∈ lw_tbl := wt_3 _ (znw tables_1_3 7 _ rfl)
theorem wd_488 : (Jvm.Cond.code ({ cls := "java/lang/IndexOutOfBoundsException", name := "<init>", desc := "(Ljava/lang/String;)V" } : Jvm.MethodName) prog_17_method_2_code (2 : Nat) (Option.none : Option Jvm.ClassFile.FieldType)) ∈ lw_tbl := wt_3 _ (znw tables_1_3 8 _ rfl)
theorem wd_489 : (Jvm.Cond.methodLink "java/lang/IndexOutOfBoundsException" (7 : Nat) ({ cls := "java/lang/RuntimeException", name := "<init>", desc := "(Ljava/lang/String;)V" } : Jvm.MethodName)) ∈ lw_tbl := wt_3 _ (znw tables_1_3 9 _ rfl)
theorem wd_501 : (Jvm.Cond.instantiable "java/lang/String" (4 : Nat)) ∈ lw_tbl := wt_3 _ (znw tables_1_3 21 _ rfl)
theorem wd_506 : (Jvm.Cond.methodLink "LotSalesLaw" (17 : Nat) ({ cls := "LotSales", name := "lot", desc := "(II)I" } : Jvm.MethodName)) ∈ lw_tbl := wt_3 _ (znw tables_1_3 26 _ rfl)
theorem wd_507 : (Jvm.Cond.instanceMethod ({ cls := "LotSales", name := "lot", desc := "(II)I" } : Jvm.MethodName)) ∈ lw_tbl := wt_3 _ (znw tables_1_3 27 _ rfl)
theorem wd_509 : (Jvm.Cond.code ({ cls := "LotSales", name := "lot", desc := "(II)I" } : Jvm.MethodName) prog_1_method_3_code (4 : Nat) (Option.some Jvm.ClassFile.FieldType.int)) ∈ lw_tbl := wt_3 _ (znw tables_1_3 29 _ rfl)
theorem wd_510 : (Jvm.Cond.methodLink "LotSales" (61 : Nat) ({ cls := "LotSales", name := "needLot", desc := "(I)V" } : Jvm.MethodName)) ∈ lw_tbl := wt_3 _ (znw tables_1_3 30 _ rfl)
theorem wd_512 : (Jvm.Cond.instanceMethod ({ cls := "LotSales", name := "needLot", desc := "(I)V" } : Jvm.MethodName)) ∈ lw_tbl := wt_3 _ (znw tables_1_3 32 _ rfl)
theorem wd_513 : (Jvm.Cond.code ({ cls := "LotSales", name := "needLot", desc := "(I)V" } : Jvm.MethodName) prog_1_method_42_code (2 : Nat) (Option.none : Option Jvm.ClassFile.FieldType)) ∈ lw_tbl := wt_3 _ (znw tables_1_3 33 _ rfl)
theorem wd_514 : (Jvm.Cond.methodLink "LotSales" (391 : Nat) ({ cls := "LotSales$Sale", name := "has", desc := "(I)Z" } : Jvm.MethodName)) ∈ lw_tbl := wt_3 _ (znw tables_1_3 34 _ rfl)
theorem wd_515 : (Jvm.Cond.classLink "LotSales" (101 : Nat) "java/lang/IndexOutOfBoundsException") ∈ lw_tbl := wt_3 _ (znw tables_1_3 35 _ rfl)
theorem wd_516 : (Jvm.Cond.instantiable "java/lang/IndexOutOfBoundsException" (6 : Nat)) ∈ lw_tbl := wt_3 _ (znw tables_1_3 36 _ rfl)
theorem wd_524 : (Jvm.Cond.stringRef "LotSales" (394 : Nat) "no such lot") ∈ lw_tbl := wt_3 _ (znw tables_1_3 44 _ rfl)
theorem wd_525 : (Jvm.Cond.methodLink "LotSales" (105 : Nat) ({ cls := "java/lang/IndexOutOfBoundsException", name := "<init>", desc := "(Ljava/lang/String;)V" } : Jvm.MethodName)) ∈ lw_tbl := wt_3 _ (znw tables_1_3 45 _ rfl)
theorem wd_528 : (Jvm.Cond.methodLink "LotSalesLaw" (157 : Nat) ({ cls := "LotSalesLaw", name := "lots", desc := "(LLotSales;I[J)I" } : Jvm.MethodName)) ∈ lw_tbl := wt_3 _ (znw tables_1_3 48 _ rfl)
theorem wd_529 : (Jvm.Cond.static ({ cls := "LotSalesLaw", name := "lots", desc := "(LLotSales;I[J)I" } : Jvm.MethodName)) ∈ lw_tbl := wt_3 _ (znw tables_1_3 49 _ rfl)
theorem wd_530 : (Jvm.Cond.codeWith ({ cls := "LotSalesLaw", name := "lots", desc := "(LLotSales;I[J)I" } : Jvm.MethodName) method_5_code (4 : Nat) (Option.some Jvm.ClassFile.FieldType.int) [((0 : Nat), (9 : Nat), (12 : Nat), (13 : Nat))]) ∈ lw_tbl := wt_3 _ (znw tables_1_3 50 _ rfl)
theorem wd_531 : (Jvm.Cond.methodLink "LotSalesLaw" (23 : Nat) ({ cls := "LotSales", name := "lots", desc := "(I)I" } : Jvm.MethodName)) ∈ lw_tbl := wt_3 _ (znw tables_1_3 51 _ rfl)
theorem wd_532 : (Jvm.Cond.instanceMethod ({ cls := "LotSales", name := "lots", desc := "(I)I" } : Jvm.MethodName)) ∈ lw_tbl := wt_3 _ (znw tables_1_3 52 _ rfl)
theorem wd_534 : (Jvm.Cond.code ({ cls := "LotSales", name := "lots", desc := "(I)I" } : Jvm.MethodName) prog_1_method_4_code (2 : Nat) (Option.some Jvm.ClassFile.FieldType.int)) ∈ lw_tbl := wt_3 _ (znw tables_1_3 54 _ rfl)
theorem wd_535 : (Jvm.Cond.methodLink "LotSales" (88 : Nat) ({ cls := "LotSales$Sale", name := "lotsIn", desc := "(I)I" } : Jvm.MethodName)) ∈ lw_tbl := wt_3 _ (znw tables_1_3 55 _ rfl)
theorem wd_536 : (Jvm.Cond.instanceMethod ({ cls := "LotSales$Sale", name := "lotsIn", desc := "(I)I" } : Jvm.MethodName)) ∈ lw_tbl := wt_3 _ (znw tables_1_3 56 _ rfl)
theorem wd_538 : (Jvm.Cond.code ({ cls := "LotSales$Sale", name := "lotsIn", desc := "(I)I" } : Jvm.MethodName) prog_5_method_9_code (4 : Nat) (Option.some Jvm.ClassFile.FieldType.int)) ∈ lw_tbl := wt_3 _ (znw tables_1_3 58 _ rfl)
theorem wd_539 : (Jvm.Cond.methodLink "LotSalesLaw" (161 : Nat) ({ cls := "LotSalesLaw", name := "setRows", desc := "(LLotSales;III[J)I" } : Jvm.MethodName)) ∈ lw_tbl := wt_3 _ (znw tables_1_3 59 _ rfl)
theorem wd_540 : (Jvm.Cond.static ({ cls := "LotSalesLaw", name := "setRows", desc := "(LLotSales;III[J)I" } : Jvm.MethodName)) ∈ lw_tbl := wt_3 _ (znw tables_1_3 60 _ rfl)
theorem wd_541 : (Jvm.Cond.codeWith ({ cls := "LotSalesLaw", name := "setRows", desc := "(LLotSales;III[J)I" } : Jvm.MethodName) method_6_code (6 : Nat) (Option.some Jvm.ClassFile.FieldType.int) [((0 : Nat), (12 : Nat), (15 : Nat), (21 : Nat)), ((0 : Nat), (12 : Nat), (19 : Nat), (13 : Nat)), ((0 : Nat), (12 : Nat), (23 : Nat), (15 : Nat))]) ∈ lw_tbl := wt_3 _ (znw tables_1_3 61 _ rfl)
theorem wd_542 : (Jvm.Cond.methodLink "LotSalesLaw" (27 : Nat) ({ cls := "LotSales", name := "setRows", desc := "(III)I" } : Jvm.MethodName)) ∈ lw_tbl := wt_3 _ (znw tables_1_3 62 _ rfl)
theorem wd_543 : (Jvm.Cond.instanceMethod ({ cls := "LotSales", name := "setRows", desc := "(III)I" } : Jvm.MethodName)) ∈ lw_tbl := wt_3 _ (znw tables_1_3 63 _ rfl)
theorem wd_545 : (Jvm.Cond.code ({ cls := "LotSales", name := "setRows", desc := "(III)I" } : Jvm.MethodName) prog_1_method_5_code (4 : Nat) (Option.some Jvm.ClassFile.FieldType.int)) ∈ lw_tbl := wt_3 _ (znw tables_1_3 65 _ rfl)
theorem wd_546 : (Jvm.Cond.stringRef "LotSales" (103 : Nat) "so many rows cannot stay") ∈ lw_tbl := wt_3 _ (znw tables_1_3 66 _ rfl)
theorem wd_547 : (Jvm.Cond.methodLink "LotSales" (108 : Nat) ({ cls := "LotSales$Table", name := "canFollow", desc := "(II)Z" } : Jvm.MethodName)) ∈ lw_tbl := wt_3 _ (znw tables_1_3 67 _ rfl)
theorem wd_548 : (Jvm.Cond.instanceMethod ({ cls := "LotSales$Table", name := "canFollow", desc := "(II)Z" } : Jvm.MethodName)) ∈ lw_tbl := wt_3 _ (znw tables_1_3 68 _ rfl)
theorem wd_550 : (Jvm.Cond.code ({ cls := "LotSales$Table", name := "canFollow", desc := "(II)Z" } : Jvm.MethodName) prog_7_method_3_code (3 : Nat) (Option.some Jvm.ClassFile.FieldType.boolean)) ∈ lw_tbl := wt_3 _ (znw tables_1_3 70 _ rfl)
theorem wd_551 : (Jvm.Cond.stringRef "LotSales" (114 : Nat) "the bounds do not ascend from 0") ∈ lw_tbl := wt_3 _ (znw tables_1_3 71 _ rfl)
theorem wd_552 : (Jvm.Cond.stringRef "LotSales" (119 : Nat) "a lot is open") ∈ lw_tbl := wt_3 _ (znw tables_1_3 72 _ rfl)
theorem wd_553 : (Jvm.Cond.methodLink "LotSales" (122 : Nat) ({ cls := "LotSales$Table", name := "putLast", desc := "(III)V" } : Jvm.MethodName)) ∈ lw_tbl := wt_3 _ (znw tables_1_3 73 _ rfl)
theorem wd_554 : (Jvm.Cond.instanceMethod ({ cls := "LotSales$Table", name := "putLast", desc := "(III)V" } : Jvm.MethodName)) ∈ lw_tbl := wt_3 _ (znw tables_1_3 74 _ rfl)
theorem wd_556 : (Jvm.Cond.code ({ cls := "LotSales$Table", name := "putLast", desc := "(III)V" } : Jvm.MethodName) prog_7_method_4_code (4 : Nat) (Option.none : Option Jvm.ClassFile.FieldType)) ∈ lw_tbl := wt_3 _ (znw tables_1_3 76 _ rfl)
theorem wd_557 : (Jvm.Cond.methodLink "LotSalesLaw" (164 : Nat) ({ cls := "LotSalesLaw", name := "row", desc := "(LLotSales;II[J)I" } : Jvm.MethodName)) ∈ lw_tbl := wt_3 _ (znw tables_1_3 77 _ rfl)
theorem wd_558 : (Jvm.Cond.static ({ cls := "LotSalesLaw", name := "row", desc := "(LLotSales;II[J)I" } : Jvm.MethodName)) ∈ lw_tbl := wt_3 _ (znw tables_1_3 78 _ rfl)
theorem wd_559 : (Jvm.Cond.codeWith ({ cls := "LotSalesLaw", name := "row", desc := "(LLotSales;II[J)I" } : Jvm.MethodName) method_7_code (5 : Nat) (Option.some Jvm.ClassFile.FieldType.int) [((0 : Nat), (10 : Nat), (13 : Nat), (21 : Nat)), ((0 : Nat), (10 : Nat), (17 : Nat), (13 : Nat))]) ∈ lw_tbl := wt_3 _ (znw tables_1_3 79 _ rfl)
theorem wd_560 : (Jvm.Cond.methodLink "LotSalesLaw" (30 : Nat) ({ cls := "LotSales", name := "row", desc := "(II)I" } : Jvm.MethodName)) ∈ lw_tbl := wt_3 _ (znw tables_1_3 80 _ rfl)
theorem wd_561 : (Jvm.Cond.instanceMethod ({ cls := "LotSales", name := "row", desc := "(II)I" } : Jvm.MethodName)) ∈ lw_tbl := wt_3 _ (znw tables_1_3 81 _ rfl)
theorem wd_563 : (Jvm.Cond.code ({ cls := "LotSales", name := "row", desc := "(II)I" } : Jvm.MethodName) prog_1_method_6_code (3 : Nat) (Option.some Jvm.ClassFile.FieldType.int)) ∈ lw_tbl := wt_3 _ (znw tables_1_3 83 _ rfl)
theorem wd_564 : (Jvm.Cond.stringRef "LotSales" (125 : Nat) "no such row") ∈ lw_tbl := wt_3 _ (znw tables_1_3 84 _ rfl)
theorem wd_565 : (Jvm.Cond.methodLink "LotSalesLaw" (167 : Nat) ({ cls := "LotSalesLaw", name := "step", desc := "(LLotSales;I[J)I" } : Jvm.MethodName)) ∈ lw_tbl := wt_3 _ (znw tables_1_3 85 _ rfl)
theorem wd_566 : (Jvm.Cond.static ({ cls := "LotSalesLaw", name := "step", desc := "(LLotSales;I[J)I" } : Jvm.MethodName)) ∈ lw_tbl := wt_3 _ (znw tables_1_3 86 _ rfl)
theorem wd_567 : (Jvm.Cond.codeWith ({ cls := "LotSalesLaw", name := "step", desc := "(LLotSales;I[J)I" } : Jvm.MethodName) method_8_code (4 : Nat) (Option.some Jvm.ClassFile.FieldType.int) [((0 : Nat), (9 : Nat), (12 : Nat), (13 : Nat))]) ∈ lw_tbl := wt_3 _ (znw tables_1_3 87 _ rfl)
theorem wd_568 : (Jvm.Cond.methodLink "LotSalesLaw" (33 : Nat) ({ cls := "LotSales", name := "step", desc := "(I)I" } : Jvm.MethodName)) ∈ lw_tbl := wt_3 _ (znw tables_1_3 88 _ rfl)
theorem wd_569 : (Jvm.Cond.instanceMethod ({ cls := "LotSales", name := "step", desc := "(I)I" } : Jvm.MethodName)) ∈ lw_tbl := wt_3 _ (znw tables_1_3 89 _ rfl)
theorem wd_571 : (Jvm.Cond.code ({ cls := "LotSales", name := "step", desc := "(I)I" } : Jvm.MethodName) prog_1_method_7_code (2 : Nat) (Option.some Jvm.ClassFile.FieldType.int)) ∈ lw_tbl := wt_3 _ (znw tables_1_3 91 _ rfl)
theorem wd_572 : (Jvm.Cond.constant "LotSales" (134 : Nat) (99999 : Int32)) ∈ lw_tbl := wt_3 _ (znw tables_1_3 92 _ rfl)
theorem wd_573 : (Jvm.Cond.methodLink "LotSales" (135 : Nat) ({ cls := "LotSales$Table", name := "stepAt", desc := "(I)I" } : Jvm.MethodName)) ∈ lw_tbl := wt_3 _ (znw tables_1_3 93 _ rfl)
theorem wd_574 : (Jvm.Cond.instanceMethod ({ cls := "LotSales$Table", name := "stepAt", desc := "(I)I" } : Jvm.MethodName)) ∈ lw_tbl := wt_3 _ (znw tables_1_3 94 _ rfl)
theorem wd_576 : (Jvm.Cond.code ({ cls := "LotSales$Table", name := "stepAt", desc := "(I)I" } : Jvm.MethodName) prog_7_method_5_code (8 : Nat) (Option.some Jvm.ClassFile.FieldType.int)) ∈ lw_tbl := wt_3 _ (znw tables_1_3 96 _ rfl)
theorem wd_577 : (Jvm.Cond.methodLink "LotSales$Table" (34 : Nat) ({ cls := "java/lang/Math", name := "max", desc := "(II)I" } : Jvm.MethodName)) ∈ lw_tbl := wt_3 _ (znw tables_1_3 97 _ rfl)
theorem wd_578 : (Jvm.Cond.static ({ cls := "java/lang/Math", name := "max", desc := "(II)I" } : Jvm.MethodName)) ∈ lw_tbl := wt_3 _ (znw tables_1_3 98 _ rfl)
theorem wd_579 : (Jvm.Cond.code ({ cls := "java/lang/Math", name := "max", desc := "(II)I" } : Jvm.MethodName) prog_18_method_65_code (2 : Nat) (Option.some Jvm.ClassFile.FieldType.int)) ∈ lw_tbl := wt_3 _ (znw tables_1_3 99 _ rfl)
theorem wd_580 : (Jvm.Cond.methodLink "LotSalesLaw" (170 : Nat) ({ cls := "LotSalesLaw", name := "nextStep", desc := "(LLotSales;I[J)I" } : Jvm.MethodName)) ∈ lw_tbl := wt_3 _ (znw tables_1_3 100 _ rfl)
theorem wd_581 : (Jvm.Cond.static ({ cls := "LotSalesLaw", name := "nextStep", desc := "(LLotSales;I[J)I" } : Jvm.MethodName)) ∈ lw_tbl := wt_3 _ (znw tables_1_3 101 _ rfl)
theorem wd_582 : (Jvm.Cond.codeWith ({ cls := "LotSalesLaw", name := "nextStep", desc := "(LLotSales;I[J)I" } : Jvm.MethodName) method_9_code (4 : Nat) (Option.some Jvm.ClassFile.FieldType.int) [((0 : Nat), (9 : Nat), (12 : Nat), (13 : Nat))]) ∈ lw_tbl := wt_3 _ (znw tables_1_3 102 _ rfl)
theorem wd_583 : (Jvm.Cond.methodLink "LotSalesLaw" (36 : Nat) ({ cls := "LotSales", name := "nextStep", desc := "(I)I" } : Jvm.MethodName)) ∈ lw_tbl := wt_3 _ (znw tables_1_3 103 _ rfl)
theorem wd_584 : (Jvm.Cond.instanceMethod ({ cls := "LotSales", name := "nextStep", desc := "(I)I" } : Jvm.MethodName)) ∈ lw_tbl := wt_3 _ (znw tables_1_3 104 _ rfl)
theorem wd_586 : (Jvm.Cond.code ({ cls := "LotSales", name := "nextStep", desc := "(I)I" } : Jvm.MethodName) prog_1_method_8_code (2 : Nat) (Option.some Jvm.ClassFile.FieldType.int)) ∈ lw_tbl := wt_3 _ (znw tables_1_3 106 _ rfl)
theorem wd_587 : (Jvm.Cond.methodLink "LotSales" (138 : Nat) ({ cls := "LotSales$Table", name := "stepAfter", desc := "(I)I" } : Jvm.MethodName)) ∈ lw_tbl := wt_3 _ (znw tables_1_3 107 _ rfl)
theorem wd_588 : (Jvm.Cond.instanceMethod ({ cls := "LotSales$Table", name := "stepAfter", desc := "(I)I" } : Jvm.MethodName)) ∈ lw_tbl := wt_3 _ (znw tables_1_3 108 _ rfl)
theorem wd_590 : (Jvm.Cond.code ({ cls := "LotSales$Table", name := "stepAfter", desc := "(I)I" } : Jvm.MethodName) prog_7_method_6_code (5 : Nat) (Option.some Jvm.ClassFile.FieldType.int)) ∈ lw_tbl := wt_3 _ (znw tables_1_3 110 _ rfl)
theorem wd_591 : (Jvm.Cond.methodLink "LotSales$Table" (40 : Nat) ({ cls := "LotSales$Table", name := "stepAt", desc := "(I)I" } : Jvm.MethodName)) ∈ lw_tbl := wt_3 _ (znw tables_1_3 111 _ rfl)
theorem wd_592 : (Jvm.Cond.methodLink "LotSalesLaw" (173 : Nat) ({ cls := "LotSalesLaw", name := "setCredit", desc := "(LLotSales;II[J)I" } : Jvm.MethodName)) ∈ lw_tbl := wt_3 _ (znw tables_1_3 112 _ rfl)
theorem wd_593 : (Jvm.Cond.static ({ cls := "LotSalesLaw", name := "setCredit", desc := "(LLotSales;II[J)I" } : Jvm.MethodName)) ∈ lw_tbl := wt_3 _ (znw tables_1_3 113 _ rfl)
theorem wd_594 : (Jvm.Cond.codeWith ({ cls := "LotSalesLaw", name := "setCredit", desc := "(LLotSales;II[J)I" } : Jvm.MethodName) method_10_code (5 : Nat) (Option.some Jvm.ClassFile.FieldType.int) [((0 : Nat), (10 : Nat), (13 : Nat), (21 : Nat)), ((0 : Nat), (10 : Nat), (17 : Nat), (13 : Nat))]) ∈ lw_tbl := wt_3 _ (znw tables_1_3 114 _ rfl)
theorem wd_595 : (Jvm.Cond.methodLink "LotSalesLaw" (39 : Nat) ({ cls := "LotSales", name := "setCredit", desc := "(II)I" } : Jvm.MethodName)) ∈ lw_tbl := wt_3 _ (znw tables_1_3 115 _ rfl)
theorem wd_596 : (Jvm.Cond.instanceMethod ({ cls := "LotSales", name := "setCredit", desc := "(II)I" } : Jvm.MethodName)) ∈ lw_tbl := wt_3 _ (znw tables_1_3 116 _ rfl)
theorem wd_598 : (Jvm.Cond.code ({ cls := "LotSales", name := "setCredit", desc := "(II)I" } : Jvm.MethodName) prog_1_method_9_code (4 : Nat) (Option.some Jvm.ClassFile.FieldType.int)) ∈ lw_tbl := wt_3 _ (znw tables_1_3 118 _ rfl)
theorem wd_599 : (Jvm.Cond.methodLink "LotSales" (141 : Nat) ({ cls := "LotSales", name := "needBidder", desc := "(I)V" } : Jvm.MethodName)) ∈ lw_tbl := wt_3 _ (znw tables_1_3 119 _ rfl)
theorem wd_600 : (Jvm.Cond.static ({ cls := "LotSales", name := "needBidder", desc := "(I)V" } : Jvm.MethodName)) ∈ lw_tbl := wt_3 _ (znw tables_1_3 120 _ rfl)
theorem wd_601 : (Jvm.Cond.code ({ cls := "LotSales", name := "needBidder", desc := "(I)V" } : Jvm.MethodName) prog_1_method_43_code (1 : Nat) (Option.none : Option Jvm.ClassFile.FieldType)) ∈ lw_tbl := wt_3 _ (znw tables_1_3 121 _ rfl)
theorem wd_602 : (Jvm.Cond.methodLink "LotSales" (396 : Nat) ({ cls := "LotSales", name := "isBidder", desc := "(I)Z" } : Jvm.MethodName)) ∈ lw_tbl := wt_3 _ (znw tables_1_3 122 _ rfl)
theorem wd_603 : (Jvm.Cond.static ({ cls := "LotSales", name := "isBidder", desc := "(I)Z" } : Jvm.MethodName)) ∈ lw_tbl := wt_3 _ (znw tables_1_3 123 _ rfl)
theorem wd_604 : (Jvm.Cond.code ({ cls := "LotSales", name := "isBidder", desc := "(I)Z" } : Jvm.MethodName) prog_1_method_47_code (1 : Nat) (Option.some Jvm.ClassFile.FieldType.boolean)) ∈ lw_tbl := wt_3 _ (znw tables_1_3 124 _ rfl)
theorem wd_605 : (Jvm.Cond.stringRef "LotSales" (399 : Nat) "no such bidder") ∈ lw_tbl := wt_3 _ (znw tables_1_3 125 _ rfl)
theorem wd_606 : (Jvm.Cond.constant "LotSales" (144 : Nat) (999999 : Int32)) ∈ lw_tbl := wt_3 _ (znw tables_1_3 126 _ rfl)
theorem wd_607 : (Jvm.Cond.methodLink "LotSalesLaw" (176 : Nat) ({ cls := "LotSalesLaw", name := "order", desc := "(LLotSales;III[J)I" } : Jvm.MethodName)) ∈ lw_tbl := wt_3 _ (znw tables_1_3 127 _ rfl)
theorem wd_608 : (Jvm.Cond.static ({ cls := "LotSalesLaw", name := "order", desc := "(LLotSales;III[J)I" } : Jvm.MethodName)) ∈ lw_tbl := wt_3 _ (znw tables_1_3 128 _ rfl)
theorem wd_609 : (Jvm.Cond.codeWith ({ cls := "LotSalesLaw", name := "order", desc := "(LLotSales;III[J)I" } : Jvm.MethodName) method_11_code (6 : Nat) (Option.some Jvm.ClassFile.FieldType.int) [((0 : Nat), (12 : Nat), (15 : Nat), (21 : Nat)), ((0 : Nat), (12 : Nat), (19 : Nat), (13 : Nat)), ((0 : Nat), (12 : Nat), (23 : Nat), (45 : Nat))]) ∈ lw_tbl := wt_3 _ (znw tables_1_3 129 _ rfl)
theorem wd_610 : (Jvm.Cond.classLink "LotSalesLaw" (45 : Nat) "java/lang/UnsupportedOperationException") ∈ lw_tbl := wt_3 _ (znw tables_1_3 130 _ rfl)
theorem wd_611 : (Jvm.Cond.methodLink "LotSalesLaw" (42 : Nat) ({ cls := "LotSales", name := "order", desc := "(III)I" } : Jvm.MethodName)) ∈ lw_tbl := wt_3 _ (znw tables_1_3 131 _ rfl)
theorem wd_612 : (Jvm.Cond.instanceMethod ({ cls := "LotSales", name := "order", desc := "(III)I" } : Jvm.MethodName)) ∈ lw_tbl := wt_3 _ (znw tables_1_3 132 _ rfl)
theorem wd_614 : (Jvm.Cond.code ({ cls := "LotSales", name := "order", desc := "(III)I" } : Jvm.MethodName) prog_1_method_10_code (4 : Nat) (Option.some Jvm.ClassFile.FieldType.int)) ∈ lw_tbl := wt_3 _ (znw tables_1_3 134 _ rfl)
theorem wd_615 : (Jvm.Cond.methodLink "LotSales" (148 : Nat) ({ cls := "LotSales", name := "tryOrder", desc := "(III)I" } : Jvm.MethodName)) ∈ lw_tbl := wt_3 _ (znw tables_1_3 135 _ rfl)
theorem wd_617 : (Jvm.Cond.instanceMethod ({ cls := "LotSales", name := "tryOrder", desc := "(III)I" } : Jvm.MethodName)) ∈ lw_tbl := wt_3 _ (znw tables_1_3 137 _ rfl)
theorem wd_618 : (Jvm.Cond.code ({ cls := "LotSales", name := "tryOrder", desc := "(III)I" } : Jvm.MethodName) prog_1_method_50_code (6 : Nat) (Option.some Jvm.ClassFile.FieldType.int)) ∈ lw_tbl := wt_3 _ (znw tables_1_3 138 _ rfl)
theorem wd_619 : (Jvm.Cond.methodLink "LotSales" (179 : Nat) ({ cls := "LotSales", name := "orderReason", desc := "(LLotSales$Lot;II)I" } : Jvm.MethodName)) ∈ lw_tbl := wt_3 _ (znw tables_1_3 139 _ rfl)
theorem wd_621 : (Jvm.Cond.instanceMethod ({ cls := "LotSales", name := "orderReason", desc := "(LLotSales$Lot;II)I" } : Jvm.MethodName)) ∈ lw_tbl := wt_3 _ (znw tables_1_3 141 _ rfl)
theorem wd_622 : (Jvm.Cond.code ({ cls := "LotSales", name := "orderReason", desc := "(LLotSales$Lot;II)I" } : Jvm.MethodName) prog_1_method_57_code (4 : Nat) (Option.some Jvm.ClassFile.FieldType.int)) ∈ lw_tbl := wt_3 _ (znw tables_1_3 142 _ rfl)
theorem wd_623 : (Jvm.Cond.methodLink "LotSales" (166 : Nat) ({ cls := "LotSales$Sale", name := "orderCount", desc := "()I" } : Jvm.MethodName)) ∈ lw_tbl := wt_3 _ (znw tables_1_3 143 _ rfl)
theorem wd_624 : (Jvm.Cond.instanceMethod ({ cls := "LotSales$Sale", name := "orderCount", desc := "()I" } : Jvm.MethodName)) ∈ lw_tbl := wt_3 _ (znw tables_1_3 144 _ rfl)
theorem wd_626 : (Jvm.Cond.code ({ cls := "LotSales$Sale", name := "orderCount", desc := "()I" } : Jvm.MethodName) prog_5_method_8_code (3 : Nat) (Option.some Jvm.ClassFile.FieldType.int)) ∈ lw_tbl := wt_3 _ (znw tables_1_3 146 _ rfl)
theorem wd_627 : (Jvm.Cond.methodLink "LotSales$Sale" (99 : Nat) ({ cls := "LotSales$Lot", name := "orderCount", desc := "()I" } : Jvm.MethodName)) ∈ lw_tbl := wt_3 _ (znw tables_1_3 147 _ rfl)
theorem wd_628 : (Jvm.Cond.instanceMethod ({ cls := "LotSales$Lot", name := "orderCount", desc := "()I" } : Jvm.MethodName)) ∈ lw_tbl := wt_3 _ (znw tables_1_3 148 _ rfl)
theorem wd_630 : (Jvm.Cond.code ({ cls := "LotSales$Lot", name := "orderCount", desc := "()I" } : Jvm.MethodName) prog_4_method_6_code (3 : Nat) (Option.some Jvm.ClassFile.FieldType.int)) ∈ lw_tbl := wt_3 _ (znw tables_1_3 150 _ rfl)
theorem wd_631 : (Jvm.Cond.methodLink "LotSales" (420 : Nat) ({ cls := "LotSales$Sale", name := "nextNumber", desc := "()I" } : Jvm.MethodName)) ∈ lw_tbl := wt_3 _ (znw tables_1_3 151 _ rfl)
theorem wd_632 : (Jvm.Cond.instanceMethod ({ cls := "LotSales$Sale", name := "nextNumber", desc := "()I" } : Jvm.MethodName)) ∈ lw_tbl := wt_3 _ (znw tables_1_3 152 _ rfl)
theorem wd_634 : (Jvm.Cond.code ({ cls := "LotSales$Sale", name := "nextNumber", desc := "()I" } : Jvm.MethodName) prog_5_method_4_code (1 : Nat) (Option.some Jvm.ClassFile.FieldType.int)) ∈ lw_tbl := wt_3 _ (znw tables_1_3 154 _ rfl)
theorem wd_635 : (Jvm.Cond.methodLink "LotSales" (423 : Nat) ({ cls := "LotSales$Lot", name := "putOrder", desc := "(III)V" } : Jvm.MethodName)) ∈ lw_tbl := wt_3 _ (znw tables_1_3 155 _ rfl)
theorem wd_636 : (Jvm.Cond.methodLink "LotSales" (247 : Nat) ({ cls := "LotSales$Ledger", name := "note", desc := "(IIII)V" } : Jvm.MethodName)) ∈ lw_tbl := wt_3 _ (znw tables_1_3 156 _ rfl)
theorem wd_637 : (Jvm.Cond.instanceMethod ({ cls := "LotSales$Ledger", name := "note", desc := "(IIII)V" } : Jvm.MethodName)) ∈ lw_tbl := wt_3 _ (znw tables_1_3 157 _ rfl)
theorem wd_639 : (Jvm.Cond.code ({ cls := "LotSales$Ledger", name := "note", desc := "(IIII)V" } : Jvm.MethodName) prog_3_method_3_code (5 : Nat) (Option.none : Option Jvm.ClassFile.FieldType)) ∈ lw_tbl := wt_3 _ (znw tables_1_3 159 _ rfl)
theorem wd_640 : (Jvm.Cond.methodLink "LotSales" (151 : Nat) ({ cls := "LotSales", name := "answered", desc := "(I)I" } : Jvm.MethodName)) ∈ lw_tbl := wt_3 _ (znw tables_1_3 160 _ rfl)
theorem wd_641 : (Jvm.Cond.static ({ cls := "LotSales", name := "answered", desc := "(I)I" } : Jvm.MethodName)) ∈ lw_tbl := wt_3 _ (znw tables_1_3 161 _ rfl)
theorem wd_642 : (Jvm.Cond.code ({ cls := "LotSales", name := "answered", desc := "(I)I" } : Jvm.MethodName) prog_1_method_48_code (1 : Nat) (Option.some Jvm.ClassFile.FieldType.int)) ∈ lw_tbl := wt_3 _ (znw tables_1_3 162 _ rfl)
theorem wd_643 : (Jvm.Cond.stringRef "LotSales" (407 : Nat) "no such lot or bidder") ∈ lw_tbl := wt_3 _ (znw tables_1_3 163 _ rfl)
theorem wd_644 : (Jvm.Cond.stringRef "LotSales" (403 : Nat) "the state of the lot is another one") ∈ lw_tbl := wt_3 _ (znw tables_1_3 164 _ rfl)
theorem wd_645 : (Jvm.Cond.classLink "LotSales" (161 : Nat) "java/util/NoSuchElementException") ∈ lw_tbl := wt_3 _ (znw tables_1_3 165 _ rfl)
theorem wd_646 : (Jvm.Cond.instantiable "java/util/NoSuchElementException" (6 : Nat)) ∈ lw_tbl := wt_3 _ (znw tables_1_3 166 _ rfl)
theorem wd_654 : (Jvm.Cond.stringRef "LotSales" (163 : Nat) "no such order") ∈ lw_tbl := wt_3 _ (znw tables_1_3 174 _ rfl)
theorem wd_655 : (Jvm.Cond.methodLink "LotSales" (165 : Nat) ({ cls := "java/util/NoSuchElementException", name := "<init>", desc := "(Ljava/lang/String;)V" } : Jvm.MethodName)) ∈ lw_tbl := wt_3 _ (znw tables_1_3 175 _ rfl)
theorem wd_656 : (Jvm.Cond.instanceMethod ({ cls := "java/util/NoSuchElementException", name := "<init>", desc := "(Ljava/lang/String;)V" } : Jvm.MethodName)) ∈ lw_tbl := wt_3 _ (znw tables_1_3 176 _ rfl)
theorem wd_657 : (Jvm.Cond.code ({ cls := "java/util/NoSuchElementException", name := "<init>", desc := "(Ljava/lang/String;)V" } : Jvm.MethodName) prog_24_method_4_code (2 : Nat) (Option.none : Option Jvm.ClassFile.FieldType)) ∈ lw_tbl := wt_3 _ (znw tables_1_3 177 _ rfl)
theorem wd_658 : (Jvm.Cond.methodLink "java/util/NoSuchElementException" (13 : Nat) ({ cls := "java/lang/RuntimeException", name := "<init>", desc := "(Ljava/lang/String;)V" } : Jvm.MethodName)) ∈ lw_tbl := wt_3 _ (znw tables_1_3 178 _ rfl)
theorem wd_661 : (Jvm.Cond.classLink "LotSales" (409 : Nat) "java/lang/UnsupportedOperationException") ∈ lw_tbl := wt_3 _ (znw tables_1_3 181 _ rfl)
theorem wd_662 : (Jvm.Cond.instantiable "java/lang/UnsupportedOperationException" (6 : Nat)) ∈ lw_tbl := wt_3 _ (znw tables_1_3 182 _ rfl)
theorem wd_670 : (Jvm.Cond.stringRef "LotSales" (411 : Nat) "refused") ∈ lw_tbl := wt_3 _ (znw tables_1_3 190 _ rfl)
theorem wd_671 : (Jvm.Cond.methodLink "LotSales" (413 : Nat) ({ cls := "java/lang/UnsupportedOperationException", name := "<init>", desc := "(Ljava/lang/String;)V" } : Jvm.MethodName)) ∈ lw_tbl := wt_3 _ (znw tables_1_3 191 _ rfl)
theorem wd_672 : (Jvm.Cond.instanceMethod ({ cls := "java/lang/UnsupportedOperationException", name := "<init>", desc := "(Ljava/lang/String;)V" } : Jvm.MethodName)) ∈ lw_tbl := wt_3 _ (znw tables_1_3 192 _ rfl)
theorem wd_673 : (Jvm.Cond.code ({ cls := "java/lang/UnsupportedOperationException", name := "<init>", desc := "(Ljava/lang/String;)V" } : Jvm.MethodName) prog_23_method_2_code (2 : Nat) (Option.none : Option Jvm.ClassFile.FieldType)) ∈ lw_tbl := wt_3 _ (znw tables_1_3 193 _ rfl)
theorem wd_674 : (Jvm.Cond.methodLink "java/lang/UnsupportedOperationException" (7 : Nat) ({ cls := "java/lang/RuntimeException", name := "<init>", desc := "(Ljava/lang/String;)V" } : Jvm.MethodName)) ∈ lw_tbl := wt_3 _ (znw tables_1_3 194 _ rfl)
theorem wd_677 : (Jvm.Cond.methodLink "LotSalesLaw" (179 : Nat) ({ cls := "LotSalesLaw", name := "cancel", desc := "(LLotSales;II[J)I" } : Jvm.MethodName)) ∈ lw_tbl := wt_3 _ (znw tables_1_3 197 _ rfl)
theorem wd_678 : (Jvm.Cond.static ({ cls := "LotSalesLaw", name := "cancel", desc := "(LLotSales;II[J)I" } : Jvm.MethodName)) ∈ lw_tbl := wt_3 _ (znw tables_1_3 198 _ rfl)
theorem wd_679 : (Jvm.Cond.codeWith ({ cls := "LotSalesLaw", name := "cancel", desc := "(LLotSales;II[J)I" } : Jvm.MethodName) method_12_code (5 : Nat) (Option.some Jvm.ClassFile.FieldType.int) [((0 : Nat), (10 : Nat), (13 : Nat), (21 : Nat)), ((0 : Nat), (10 : Nat), (17 : Nat), (50 : Nat)), ((0 : Nat), (10 : Nat), (21 : Nat), (15 : Nat))]) ∈ lw_tbl := wt_3 _ (znw tables_1_3 199 _ rfl)
theorem wd_680 : (Jvm.Cond.classLink "LotSalesLaw" (50 : Nat) "java/util/NoSuchElementException") ∈ lw_tbl := wt_3 _ (znw tables_1_3 200 _ rfl)
theorem wd_681 : (Jvm.Cond.methodLink "LotSalesLaw" (47 : Nat) ({ cls := "LotSales", name := "cancel", desc := "(II)I" } : Jvm.MethodName)) ∈ lw_tbl := wt_3 _ (znw tables_1_3 201 _ rfl)
theorem wd_682 : (Jvm.Cond.instanceMethod ({ cls := "LotSales", name := "cancel", desc := "(II)I" } : Jvm.MethodName)) ∈ lw_tbl := wt_3 _ (znw tables_1_3 202 _ rfl)
theorem wd_684 : (Jvm.Cond.code ({ cls := "LotSales", name := "cancel", desc := "(II)I" } : Jvm.MethodName) prog_1_method_11_code (3 : Nat) (Option.some Jvm.ClassFile.FieldType.int)) ∈ lw_tbl := wt_3 _ (znw tables_1_3 204 _ rfl)
theorem wd_685 : (Jvm.Cond.methodLink "LotSales" (154 : Nat) ({ cls := "LotSales", name := "tryCancel", desc := "(II)I" } : Jvm.MethodName)) ∈ lw_tbl := wt_3 _ (znw tables_1_3 205 _ rfl)
theorem wd_687 : (Jvm.Cond.instanceMethod ({ cls := "LotSales", name := "tryCancel", desc := "(II)I" } : Jvm.MethodName)) ∈ lw_tbl := wt_3 _ (znw tables_1_3 207 _ rfl)
theorem wd_688 : (Jvm.Cond.code ({ cls := "LotSales", name := "tryCancel", desc := "(II)I" } : Jvm.MethodName) prog_1_method_51_code (5 : Nat) (Option.some Jvm.ClassFile.FieldType.int)) ∈ lw_tbl := wt_3 _ (znw tables_1_3 208 _ rfl)
theorem wd_689 : (Jvm.Cond.methodLink "LotSalesLaw" (182 : Nat) ({ cls := "LotSalesLaw", name := "maximum", desc := "(LLotSales;II[J)I" } : Jvm.MethodName)) ∈ lw_tbl := wt_3 _ (znw tables_1_3 209 _ rfl)
theorem wd_690 : (Jvm.Cond.static ({ cls := "LotSalesLaw", name := "maximum", desc := "(LLotSales;II[J)I" } : Jvm.MethodName)) ∈ lw_tbl := wt_3 _ (znw tables_1_3 210 _ rfl)
theorem wd_691 : (Jvm.Cond.codeWith ({ cls := "LotSalesLaw", name := "maximum", desc := "(LLotSales;II[J)I" } : Jvm.MethodName) method_13_code (5 : Nat) (Option.some Jvm.ClassFile.FieldType.int) [((0 : Nat), (10 : Nat), (13 : Nat), (21 : Nat)), ((0 : Nat), (10 : Nat), (17 : Nat), (50 : Nat))]) ∈ lw_tbl := wt_3 _ (znw tables_1_3 211 _ rfl)
theorem wd_692 : (Jvm.Cond.methodLink "LotSalesLaw" (52 : Nat) ({ cls := "LotSales", name := "maximum", desc := "(II)I" } : Jvm.MethodName)) ∈ lw_tbl := wt_3 _ (znw tables_1_3 212 _ rfl)
theorem wd_693 : (Jvm.Cond.instanceMethod ({ cls := "LotSales", name := "maximum", desc := "(II)I" } : Jvm.MethodName)) ∈ lw_tbl := wt_3 _ (znw tables_1_3 213 _ rfl)
theorem wd_695 : (Jvm.Cond.code ({ cls := "LotSales", name := "maximum", desc := "(II)I" } : Jvm.MethodName) prog_1_method_12_code (4 : Nat) (Option.some Jvm.ClassFile.FieldType.int)) ∈ lw_tbl := wt_3 _ (znw tables_1_3 215 _ rfl)
theorem wd_696 : (Jvm.Cond.methodLink "LotSalesLaw" (185 : Nat) ({ cls := "LotSalesLaw", name := "orders", desc := "(LLotSales;I[J)I" } : Jvm.MethodName)) ∈ lw_tbl := wt_3 _ (znw tables_1_3 216 _ rfl)
theorem wd_697 : (Jvm.Cond.static ({ cls := "LotSalesLaw", name := "orders", desc := "(LLotSales;I[J)I" } : Jvm.MethodName)) ∈ lw_tbl := wt_3 _ (znw tables_1_3 217 _ rfl)
theorem wd_698 : (Jvm.Cond.codeWith ({ cls := "LotSalesLaw", name := "orders", desc := "(LLotSales;I[J)I" } : Jvm.MethodName) method_14_code (4 : Nat) (Option.some Jvm.ClassFile.FieldType.int) [((0 : Nat), (9 : Nat), (12 : Nat), (21 : Nat))]) ∈ lw_tbl := wt_3 _ (znw tables_1_3 218 _ rfl)
theorem wd_699 : (Jvm.Cond.methodLink "LotSalesLaw" (55 : Nat) ({ cls := "LotSales", name := "orders", desc := "(I)I" } : Jvm.MethodName)) ∈ lw_tbl := wt_3 _ (znw tables_1_3 219 _ rfl)
theorem wd_700 : (Jvm.Cond.instanceMethod ({ cls := "LotSales", name := "orders", desc := "(I)I" } : Jvm.MethodName)) ∈ lw_tbl := wt_3 _ (znw tables_1_3 220 _ rfl)
theorem wd_702 : (Jvm.Cond.code ({ cls := "LotSales", name := "orders", desc := "(I)I" } : Jvm.MethodName) prog_1_method_13_code (2 : Nat) (Option.some Jvm.ClassFile.FieldType.int)) ∈ lw_tbl := wt_3 _ (znw tables_1_3 222 _ rfl)
theorem wd_703 : (Jvm.Cond.methodLink "LotSales" (170 : Nat) ({ cls := "LotSales$Lot", name := "orderCount", desc := "()I" } : Jvm.MethodName)) ∈ lw_tbl := wt_3 _ (znw tables_1_3 223 _ rfl)
theorem wd_704 : (Jvm.Cond.methodLink "LotSalesLaw" (188 : Nat) ({ cls := "LotSalesLaw", name := "open", desc := "(LLotSales;I[J)I" } : Jvm.MethodName)) ∈ lw_tbl := wt_3 _ (znw tables_1_3 224 _ rfl)
theorem wd_705 : (Jvm.Cond.static ({ cls := "LotSalesLaw", name := "open", desc := "(LLotSales;I[J)I" } : Jvm.MethodName)) ∈ lw_tbl := wt_3 _ (znw tables_1_3 225 _ rfl)
theorem wd_706 : (Jvm.Cond.codeWith ({ cls := "LotSalesLaw", name := "open", desc := "(LLotSales;I[J)I" } : Jvm.MethodName) method_15_code (4 : Nat) (Option.some Jvm.ClassFile.FieldType.int) [((0 : Nat), (9 : Nat), (12 : Nat), (21 : Nat)), ((0 : Nat), (9 : Nat), (15 : Nat), (15 : Nat))]) ∈ lw_tbl := wt_3 _ (znw tables_1_3 226 _ rfl)
theorem wd_707 : (Jvm.Cond.methodLink "LotSalesLaw" (58 : Nat) ({ cls := "LotSales", name := "open", desc := "(I)I" } : Jvm.MethodName)) ∈ lw_tbl := wt_3 _ (znw tables_1_3 227 _ rfl)
theorem wd_708 : (Jvm.Cond.instanceMethod ({ cls := "LotSales", name := "open", desc := "(I)I" } : Jvm.MethodName)) ∈ lw_tbl := wt_3 _ (znw tables_1_3 228 _ rfl)
theorem wd_710 : (Jvm.Cond.code ({ cls := "LotSales", name := "open", desc := "(I)I" } : Jvm.MethodName) prog_1_method_14_code (2 : Nat) (Option.some Jvm.ClassFile.FieldType.int)) ∈ lw_tbl := wt_3 _ (znw tables_1_3 230 _ rfl)
theorem wd_711 : (Jvm.Cond.methodLink "LotSales" (171 : Nat) ({ cls := "LotSales", name := "tryOpen", desc := "(I)I" } : Jvm.MethodName)) ∈ lw_tbl := wt_3 _ (znw tables_1_3 231 _ rfl)
theorem wd_713 : (Jvm.Cond.instanceMethod ({ cls := "LotSales", name := "tryOpen", desc := "(I)I" } : Jvm.MethodName)) ∈ lw_tbl := wt_3 _ (znw tables_1_3 233 _ rfl)
theorem wd_714 : (Jvm.Cond.code ({ cls := "LotSales", name := "tryOpen", desc := "(I)I" } : Jvm.MethodName) prog_1_method_52_code (3 : Nat) (Option.some Jvm.ClassFile.FieldType.int)) ∈ lw_tbl := wt_3 _ (znw tables_1_3 234 _ rfl)
theorem wd_715 : (Jvm.Cond.methodLink "LotSales" (426 : Nat) ({ cls := "LotSales$Lot", name := "removeBids", desc := "()V" } : Jvm.MethodName)) ∈ lw_tbl := wt_3 _ (znw tables_1_3 235 _ rfl)
theorem wd_716 : (Jvm.Cond.methodLink "LotSales" (190 : Nat) ({ cls := "LotSales$Standing", name := "settle", desc := "(LLotSales$Lot;LLotSales$Table;)V" } : Jvm.MethodName)) ∈ lw_tbl := wt_3 _ (znw tables_1_3 236 _ rfl)
theorem wd_717 : (Jvm.Cond.instanceMethod ({ cls := "LotSales$Standing", name := "settle", desc := "(LLotSales$Lot;LLotSales$Table;)V" } : Jvm.MethodName)) ∈ lw_tbl := wt_3 _ (znw tables_1_3 237 _ rfl)
theorem wd_719 : (Jvm.Cond.code ({ cls := "LotSales$Standing", name := "settle", desc := "(LLotSales$Lot;LLotSales$Table;)V" } : Jvm.MethodName) prog_6_method_2_code (6 : Nat) (Option.none : Option Jvm.ClassFile.FieldType)) ∈ lw_tbl := wt_3 _ (znw tables_1_3 239 _ rfl)
theorem wd_720 : (Jvm.Cond.methodLink "LotSales$Standing" (23 : Nat) ({ cls := "LotSales$Table", name := "stepAt", desc := "(I)I" } : Jvm.MethodName)) ∈ lw_tbl := wt_4 _ (znw tables_1_4 0 _ rfl)
theorem wd_721 : (Jvm.Cond.methodLink "LotSales$Standing" (32 : Nat) ({ cls := "java/lang/Math", name := "max", desc := "(II)I" } : Jvm.MethodName)) ∈ lw_tbl := wt_4 _ (znw tables_1_4 1 _ rfl)
theorem wd_722 : (Jvm.Cond.methodLink "LotSales$Standing" (44 : Nat) ({ cls := "java/lang/Math", name := "min", desc := "(II)I" } : Jvm.MethodName)) ∈ lw_tbl := wt_4 _ (znw tables_1_4 2 _ rfl)
theorem wd_723 : (Jvm.Cond.methodLink "LotSales$Standing" (54 : Nat) ({ cls := "LotSales$Standing", name := "findLeader", desc := "()V" } : Jvm.MethodName)) ∈ lw_tbl := wt_4 _ (znw tables_1_4 3 _ rfl)
theorem wd_724 : (Jvm.Cond.instanceMethod ({ cls := "LotSales$Standing", name := "findLeader", desc := "()V" } : Jvm.MethodName)) ∈ lw_tbl := wt_4 _ (znw tables_1_4 4 _ rfl)
theorem wd_726 : (Jvm.Cond.code ({ cls := "LotSales$Standing", name := "findLeader", desc := "()V" } : Jvm.MethodName) prog_6_method_4_code (5 : Nat) (Option.none : Option Jvm.ClassFile.FieldType)) ∈ lw_tbl := wt_4 _ (znw tables_1_4 6 _ rfl)
theorem wd_727 : (Jvm.Cond.methodLink "LotSales$Standing" (57 : Nat) ({ cls := "LotSales$Standing", name := "isAhead", desc := "(II)Z" } : Jvm.MethodName)) ∈ lw_tbl := wt_4 _ (znw tables_1_4 7 _ rfl)
theorem wd_728 : (Jvm.Cond.instanceMethod ({ cls := "LotSales$Standing", name := "isAhead", desc := "(II)Z" } : Jvm.MethodName)) ∈ lw_tbl := wt_4 _ (znw tables_1_4 8 _ rfl)
theorem wd_730 : (Jvm.Cond.code ({ cls := "LotSales$Standing", name := "isAhead", desc := "(II)Z" } : Jvm.MethodName) prog_6_method_5_code (3 : Nat) (Option.some Jvm.ClassFile.FieldType.boolean)) ∈ lw_tbl := wt_4 _ (znw tables_1_4 10 _ rfl)
theorem wd_731 : (Jvm.Cond.methodLink "LotSales" (194 : Nat) ({ cls := "LotSales$Standing", name := "price", desc := "(LLotSales$Table;)I" } : Jvm.MethodName)) ∈ lw_tbl := wt_4 _ (znw tables_1_4 11 _ rfl)
theorem wd_732 : (Jvm.Cond.instanceMethod ({ cls := "LotSales$Standing", name := "price", desc := "(LLotSales$Table;)I" } : Jvm.MethodName)) ∈ lw_tbl := wt_4 _ (znw tables_1_4 12 _ rfl)
theorem wd_734 : (Jvm.Cond.code ({ cls := "LotSales$Standing", name := "price", desc := "(LLotSales$Table;)I" } : Jvm.MethodName) prog_6_method_6_code (2 : Nat) (Option.some Jvm.ClassFile.FieldType.int)) ∈ lw_tbl := wt_4 _ (znw tables_1_4 14 _ rfl)
theorem wd_735 : (Jvm.Cond.methodLink "LotSales$Standing" (70 : Nat) ({ cls := "LotSales$Table", name := "stepAfter", desc := "(I)I" } : Jvm.MethodName)) ∈ lw_tbl := wt_4 _ (znw tables_1_4 15 _ rfl)
theorem wd_736 : (Jvm.Cond.methodLink "LotSalesLaw" (191 : Nat) ({ cls := "LotSalesLaw", name := "bid", desc := "(LLotSales;III[J)I" } : Jvm.MethodName)) ∈ lw_tbl := wt_4 _ (znw tables_1_4 16 _ rfl)
theorem wd_737 : (Jvm.Cond.static ({ cls := "LotSalesLaw", name := "bid", desc := "(LLotSales;III[J)I" } : Jvm.MethodName)) ∈ lw_tbl := wt_4 _ (znw tables_1_4 17 _ rfl)
theorem wd_738 : (Jvm.Cond.codeWith ({ cls := "LotSalesLaw", name := "bid", desc := "(LLotSales;III[J)I" } : Jvm.MethodName) method_16_code (6 : Nat) (Option.some Jvm.ClassFile.FieldType.int) [((0 : Nat), (12 : Nat), (15 : Nat), (21 : Nat)), ((0 : Nat), (12 : Nat), (19 : Nat), (13 : Nat)), ((0 : Nat), (12 : Nat), (23 : Nat), (45 : Nat))]) ∈ lw_tbl := wt_4 _ (znw tables_1_4 18 _ rfl)
theorem wd_739 : (Jvm.Cond.methodLink "LotSalesLaw" (61 : Nat) ({ cls := "LotSales", name := "bid", desc := "(III)I" } : Jvm.MethodName)) ∈ lw_tbl := wt_4 _ (znw tables_1_4 19 _ rfl)
theorem wd_740 : (Jvm.Cond.instanceMethod ({ cls := "LotSales", name := "bid", desc := "(III)I" } : Jvm.MethodName)) ∈ lw_tbl := wt_4 _ (znw tables_1_4 20 _ rfl)
theorem wd_742 : (Jvm.Cond.code ({ cls := "LotSales", name := "bid", desc := "(III)I" } : Jvm.MethodName) prog_1_method_15_code (4 : Nat) (Option.some Jvm.ClassFile.FieldType.int)) ∈ lw_tbl := wt_4 _ (znw tables_1_4 22 _ rfl)
theorem wd_743 : (Jvm.Cond.methodLink "LotSales" (174 : Nat) ({ cls := "LotSales", name := "tryBid", desc := "(III)I" } : Jvm.MethodName)) ∈ lw_tbl := wt_4 _ (znw tables_1_4 23 _ rfl)
theorem wd_745 : (Jvm.Cond.instanceMethod ({ cls := "LotSales", name := "tryBid", desc := "(III)I" } : Jvm.MethodName)) ∈ lw_tbl := wt_4 _ (znw tables_1_4 25 _ rfl)
theorem wd_746 : (Jvm.Cond.code ({ cls := "LotSales", name := "tryBid", desc := "(III)I" } : Jvm.MethodName) prog_1_method_53_code (6 : Nat) (Option.some Jvm.ClassFile.FieldType.int)) ∈ lw_tbl := wt_4 _ (znw tables_1_4 26 _ rfl)
theorem wd_747 : (Jvm.Cond.methodLink "LotSales" (183 : Nat) ({ cls := "LotSales", name := "bidReason", desc := "(LLotSales$Lot;II)I" } : Jvm.MethodName)) ∈ lw_tbl := wt_4 _ (znw tables_1_4 27 _ rfl)
theorem wd_749 : (Jvm.Cond.instanceMethod ({ cls := "LotSales", name := "bidReason", desc := "(LLotSales$Lot;II)I" } : Jvm.MethodName)) ∈ lw_tbl := wt_4 _ (znw tables_1_4 29 _ rfl)
theorem wd_750 : (Jvm.Cond.code ({ cls := "LotSales", name := "bidReason", desc := "(LLotSales$Lot;II)I" } : Jvm.MethodName) prog_1_method_58_code (4 : Nat) (Option.some Jvm.ClassFile.FieldType.int)) ∈ lw_tbl := wt_4 _ (znw tables_1_4 30 _ rfl)
theorem wd_751 : (Jvm.Cond.methodLink "LotSales" (225 : Nat) ({ cls := "LotSales$Table", name := "isStep", desc := "(I)Z" } : Jvm.MethodName)) ∈ lw_tbl := wt_4 _ (znw tables_1_4 31 _ rfl)
theorem wd_752 : (Jvm.Cond.instanceMethod ({ cls := "LotSales$Table", name := "isStep", desc := "(I)Z" } : Jvm.MethodName)) ∈ lw_tbl := wt_4 _ (znw tables_1_4 32 _ rfl)
theorem wd_754 : (Jvm.Cond.code ({ cls := "LotSales$Table", name := "isStep", desc := "(I)Z" } : Jvm.MethodName) prog_7_method_7_code (2 : Nat) (Option.some Jvm.ClassFile.FieldType.boolean)) ∈ lw_tbl := wt_4 _ (znw tables_1_4 34 _ rfl)
theorem wd_755 : (Jvm.Cond.methodLink "LotSales" (297 : Nat) ({ cls := "LotSales", name := "exposureOf", desc := "(I)I" } : Jvm.MethodName)) ∈ lw_tbl := wt_4 _ (znw tables_1_4 35 _ rfl)
theorem wd_757 : (Jvm.Cond.instanceMethod ({ cls := "LotSales", name := "exposureOf", desc := "(I)I" } : Jvm.MethodName)) ∈ lw_tbl := wt_4 _ (znw tables_1_4 37 _ rfl)
theorem wd_758 : (Jvm.Cond.code ({ cls := "LotSales", name := "exposureOf", desc := "(I)I" } : Jvm.MethodName) prog_1_method_59_code (5 : Nat) (Option.some Jvm.ClassFile.FieldType.int)) ∈ lw_tbl := wt_4 _ (znw tables_1_4 38 _ rfl)
theorem wd_759 : (Jvm.Cond.methodLink "LotSales" (429 : Nat) ({ cls := "LotSales$Lot", name := "putBid", desc := "(III)V" } : Jvm.MethodName)) ∈ lw_tbl := wt_4 _ (znw tables_1_4 39 _ rfl)
theorem wd_760 : (Jvm.Cond.methodLink "LotSalesLaw" (194 : Nat) ({ cls := "LotSalesLaw", name := "refusal", desc := "(LLotSales;[J)I" } : Jvm.MethodName)) ∈ lw_tbl := wt_4 _ (znw tables_1_4 40 _ rfl)
theorem wd_761 : (Jvm.Cond.static ({ cls := "LotSalesLaw", name := "refusal", desc := "(LLotSales;[J)I" } : Jvm.MethodName)) ∈ lw_tbl := wt_4 _ (znw tables_1_4 41 _ rfl)
theorem wd_762 : (Jvm.Cond.codeWith ({ cls := "LotSalesLaw", name := "refusal", desc := "(LLotSales;[J)I" } : Jvm.MethodName) method_17_code (3 : Nat) (Option.some Jvm.ClassFile.FieldType.int) [((0 : Nat), (8 : Nat), (11 : Nat), (50 : Nat))]) ∈ lw_tbl := wt_4 _ (znw tables_1_4 42 _ rfl)
theorem wd_763 : (Jvm.Cond.methodLink "LotSalesLaw" (64 : Nat) ({ cls := "LotSales", name := "refusal", desc := "()I" } : Jvm.MethodName)) ∈ lw_tbl := wt_4 _ (znw tables_1_4 43 _ rfl)
theorem wd_764 : (Jvm.Cond.instanceMethod ({ cls := "LotSales", name := "refusal", desc := "()I" } : Jvm.MethodName)) ∈ lw_tbl := wt_4 _ (znw tables_1_4 44 _ rfl)
theorem wd_766 : (Jvm.Cond.code ({ cls := "LotSales", name := "refusal", desc := "()I" } : Jvm.MethodName) prog_1_method_16_code (1 : Nat) (Option.some Jvm.ClassFile.FieldType.int)) ∈ lw_tbl := wt_4 _ (znw tables_1_4 46 _ rfl)
theorem wd_767 : (Jvm.Cond.stringRef "LotSales" (177 : Nat) "nothing was refused") ∈ lw_tbl := wt_4 _ (znw tables_1_4 47 _ rfl)
theorem wd_768 : (Jvm.Cond.methodLink "LotSalesLaw" (198 : Nat) ({ cls := "LotSalesLaw", name := "wouldRefuse", desc := "(LLotSales;ZIII[J)I" } : Jvm.MethodName)) ∈ lw_tbl := wt_4 _ (znw tables_1_4 48 _ rfl)
theorem wd_769 : (Jvm.Cond.static ({ cls := "LotSalesLaw", name := "wouldRefuse", desc := "(LLotSales;ZIII[J)I" } : Jvm.MethodName)) ∈ lw_tbl := wt_4 _ (znw tables_1_4 49 _ rfl)
theorem wd_770 : (Jvm.Cond.codeWith ({ cls := "LotSalesLaw", name := "wouldRefuse", desc := "(LLotSales;ZIII[J)I" } : Jvm.MethodName) method_18_code (7 : Nat) (Option.some Jvm.ClassFile.FieldType.int) [((0 : Nat), (14 : Nat), (17 : Nat), (21 : Nat)), ((0 : Nat), (14 : Nat), (21 : Nat), (13 : Nat))]) ∈ lw_tbl := wt_4 _ (znw tables_1_4 50 _ rfl)
theorem wd_771 : (Jvm.Cond.methodLink "LotSalesLaw" (68 : Nat) ({ cls := "LotSales", name := "wouldRefuse", desc := "(ZIII)I" } : Jvm.MethodName)) ∈ lw_tbl := wt_4 _ (znw tables_1_4 51 _ rfl)
theorem wd_772 : (Jvm.Cond.instanceMethod ({ cls := "LotSales", name := "wouldRefuse", desc := "(ZIII)I" } : Jvm.MethodName)) ∈ lw_tbl := wt_4 _ (znw tables_1_4 52 _ rfl)
theorem wd_774 : (Jvm.Cond.code ({ cls := "LotSales", name := "wouldRefuse", desc := "(ZIII)I" } : Jvm.MethodName) prog_1_method_17_code (6 : Nat) (Option.some Jvm.ClassFile.FieldType.int)) ∈ lw_tbl := wt_4 _ (znw tables_1_4 54 _ rfl)
theorem wd_775 : (Jvm.Cond.methodLink "LotSalesLaw" (202 : Nat) ({ cls := "LotSalesLaw", name := "standing", desc := "(LLotSales;II[J)I" } : Jvm.MethodName)) ∈ lw_tbl := wt_4 _ (znw tables_1_4 55 _ rfl)
theorem wd_776 : (Jvm.Cond.static ({ cls := "LotSalesLaw", name := "standing", desc := "(LLotSales;II[J)I" } : Jvm.MethodName)) ∈ lw_tbl := wt_4 _ (znw tables_1_4 56 _ rfl)
theorem wd_777 : (Jvm.Cond.codeWith ({ cls := "LotSalesLaw", name := "standing", desc := "(LLotSales;II[J)I" } : Jvm.MethodName) method_19_code (5 : Nat) (Option.some Jvm.ClassFile.FieldType.int) [((0 : Nat), (10 : Nat), (13 : Nat), (21 : Nat)), ((0 : Nat), (10 : Nat), (17 : Nat), (13 : Nat)), ((0 : Nat), (10 : Nat), (21 : Nat), (15 : Nat))]) ∈ lw_tbl := wt_4 _ (znw tables_1_4 57 _ rfl)
theorem wd_778 : (Jvm.Cond.methodLink "LotSalesLaw" (72 : Nat) ({ cls := "LotSales", name := "standing", desc := "(II)I" } : Jvm.MethodName)) ∈ lw_tbl := wt_4 _ (znw tables_1_4 58 _ rfl)
theorem wd_779 : (Jvm.Cond.instanceMethod ({ cls := "LotSales", name := "standing", desc := "(II)I" } : Jvm.MethodName)) ∈ lw_tbl := wt_4 _ (znw tables_1_4 59 _ rfl)
theorem wd_781 : (Jvm.Cond.code ({ cls := "LotSales", name := "standing", desc := "(II)I" } : Jvm.MethodName) prog_1_method_18_code (4 : Nat) (Option.some Jvm.ClassFile.FieldType.int)) ∈ lw_tbl := wt_4 _ (znw tables_1_4 61 _ rfl)
theorem wd_782 : (Jvm.Cond.methodLink "LotSales" (186 : Nat) ({ cls := "LotSales", name := "needState", desc := "(LLotSales$Lot;I)V" } : Jvm.MethodName)) ∈ lw_tbl := wt_4 _ (znw tables_1_4 62 _ rfl)
theorem wd_783 : (Jvm.Cond.static ({ cls := "LotSales", name := "needState", desc := "(LLotSales$Lot;I)V" } : Jvm.MethodName)) ∈ lw_tbl := wt_4 _ (znw tables_1_4 63 _ rfl)
theorem wd_784 : (Jvm.Cond.code ({ cls := "LotSales", name := "needState", desc := "(LLotSales$Lot;I)V" } : Jvm.MethodName) prog_1_method_45_code (2 : Nat) (Option.none : Option Jvm.ClassFile.FieldType)) ∈ lw_tbl := wt_4 _ (znw tables_1_4 64 _ rfl)
theorem wd_785 : (Jvm.Cond.methodLink "LotSales" (201 : Nat) ({ cls := "LotSales$Standing", name := "meets", desc := "(ILLotSales$Table;)Z" } : Jvm.MethodName)) ∈ lw_tbl := wt_4 _ (znw tables_1_4 65 _ rfl)
theorem wd_786 : (Jvm.Cond.instanceMethod ({ cls := "LotSales$Standing", name := "meets", desc := "(ILLotSales$Table;)Z" } : Jvm.MethodName)) ∈ lw_tbl := wt_4 _ (znw tables_1_4 66 _ rfl)
theorem wd_788 : (Jvm.Cond.code ({ cls := "LotSales$Standing", name := "meets", desc := "(ILLotSales$Table;)Z" } : Jvm.MethodName) prog_6_method_7_code (3 : Nat) (Option.some Jvm.ClassFile.FieldType.boolean)) ∈ lw_tbl := wt_4 _ (znw tables_1_4 68 _ rfl)
theorem wd_789 : (Jvm.Cond.methodLink "LotSales$Standing" (73 : Nat) ({ cls := "LotSales$Standing", name := "price", desc := "(LLotSales$Table;)I" } : Jvm.MethodName)) ∈ lw_tbl := wt_4 _ (znw tables_1_4 69 _ rfl)
theorem wd_790 : (Jvm.Cond.methodLink "LotSales" (211 : Nat) ({ cls := "LotSales$Standing", name := "counting", desc := "()I" } : Jvm.MethodName)) ∈ lw_tbl := wt_4 _ (znw tables_1_4 70 _ rfl)
theorem wd_791 : (Jvm.Cond.instanceMethod ({ cls := "LotSales$Standing", name := "counting", desc := "()I" } : Jvm.MethodName)) ∈ lw_tbl := wt_4 _ (znw tables_1_4 71 _ rfl)
theorem wd_793 : (Jvm.Cond.code ({ cls := "LotSales$Standing", name := "counting", desc := "()I" } : Jvm.MethodName) prog_6_method_9_code (3 : Nat) (Option.some Jvm.ClassFile.FieldType.int)) ∈ lw_tbl := wt_4 _ (znw tables_1_4 73 _ rfl)
theorem wd_794 : (Jvm.Cond.methodLink "LotSalesLaw" (205 : Nat) ({ cls := "LotSalesLaw", name := "limit", desc := "(LLotSales;III[J)I" } : Jvm.MethodName)) ∈ lw_tbl := wt_4 _ (znw tables_1_4 74 _ rfl)
theorem wd_795 : (Jvm.Cond.static ({ cls := "LotSalesLaw", name := "limit", desc := "(LLotSales;III[J)I" } : Jvm.MethodName)) ∈ lw_tbl := wt_4 _ (znw tables_1_4 75 _ rfl)
theorem wd_796 : (Jvm.Cond.codeWith ({ cls := "LotSalesLaw", name := "limit", desc := "(LLotSales;III[J)I" } : Jvm.MethodName) method_20_code (6 : Nat) (Option.some Jvm.ClassFile.FieldType.int) [((0 : Nat), (12 : Nat), (15 : Nat), (21 : Nat)), ((0 : Nat), (12 : Nat), (19 : Nat), (13 : Nat)), ((0 : Nat), (12 : Nat), (23 : Nat), (15 : Nat)), ((0 : Nat), (12 : Nat), (27 : Nat), (50 : Nat))]) ∈ lw_tbl := wt_4 _ (znw tables_1_4 76 _ rfl)
theorem wd_797 : (Jvm.Cond.methodLink "LotSalesLaw" (75 : Nat) ({ cls := "LotSales", name := "limit", desc := "(III)I" } : Jvm.MethodName)) ∈ lw_tbl := wt_4 _ (znw tables_1_4 77 _ rfl)
theorem wd_798 : (Jvm.Cond.instanceMethod ({ cls := "LotSales", name := "limit", desc := "(III)I" } : Jvm.MethodName)) ∈ lw_tbl := wt_4 _ (znw tables_1_4 78 _ rfl)
theorem wd_800 : (Jvm.Cond.code ({ cls := "LotSales", name := "limit", desc := "(III)I" } : Jvm.MethodName) prog_1_method_19_code (6 : Nat) (Option.some Jvm.ClassFile.FieldType.int)) ∈ lw_tbl := wt_4 _ (znw tables_1_4 80 _ rfl)
theorem wd_801 : (Jvm.Cond.methodLink "LotSales" (214 : Nat) ({ cls := "LotSales$Standing", name := "bidderAt", desc := "(I)I" } : Jvm.MethodName)) ∈ lw_tbl := wt_4 _ (znw tables_1_4 81 _ rfl)
theorem wd_802 : (Jvm.Cond.instanceMethod ({ cls := "LotSales$Standing", name := "bidderAt", desc := "(I)I" } : Jvm.MethodName)) ∈ lw_tbl := wt_4 _ (znw tables_1_4 82 _ rfl)
theorem wd_804 : (Jvm.Cond.code ({ cls := "LotSales$Standing", name := "bidderAt", desc := "(I)I" } : Jvm.MethodName) prog_6_method_10_code (3 : Nat) (Option.some Jvm.ClassFile.FieldType.int)) ∈ lw_tbl := wt_4 _ (znw tables_1_4 84 _ rfl)
theorem wd_805 : (Jvm.Cond.methodLink "LotSales$Standing" (77 : Nat) ({ cls := "LotSales$Standing", name := "aheadOf", desc := "(I)I" } : Jvm.MethodName)) ∈ lw_tbl := wt_4 _ (znw tables_1_4 85 _ rfl)
theorem wd_806 : (Jvm.Cond.instanceMethod ({ cls := "LotSales$Standing", name := "aheadOf", desc := "(I)I" } : Jvm.MethodName)) ∈ lw_tbl := wt_4 _ (znw tables_1_4 86 _ rfl)
theorem wd_808 : (Jvm.Cond.code ({ cls := "LotSales$Standing", name := "aheadOf", desc := "(I)I" } : Jvm.MethodName) prog_6_method_11_code (4 : Nat) (Option.some Jvm.ClassFile.FieldType.int)) ∈ lw_tbl := wt_4 _ (znw tables_1_4 88 _ rfl)
theorem wd_809 : (Jvm.Cond.stringRef "LotSales" (217 : Nat) "no such rank") ∈ lw_tbl := wt_4 _ (znw tables_1_4 89 _ rfl)
theorem wd_810 : (Jvm.Cond.methodLink "LotSalesLaw" (208 : Nat) ({ cls := "LotSalesLaw", name := "priceIf", desc := "(LLotSales;III[J)I" } : Jvm.MethodName)) ∈ lw_tbl := wt_4 _ (znw tables_1_4 90 _ rfl)
theorem wd_811 : (Jvm.Cond.static ({ cls := "LotSalesLaw", name := "priceIf", desc := "(LLotSales;III[J)I" } : Jvm.MethodName)) ∈ lw_tbl := wt_4 _ (znw tables_1_4 91 _ rfl)
theorem wd_812 : (Jvm.Cond.codeWith ({ cls := "LotSalesLaw", name := "priceIf", desc := "(LLotSales;III[J)I" } : Jvm.MethodName) method_21_code (6 : Nat) (Option.some Jvm.ClassFile.FieldType.int) [((0 : Nat), (12 : Nat), (15 : Nat), (21 : Nat)), ((0 : Nat), (12 : Nat), (19 : Nat), (13 : Nat)), ((0 : Nat), (12 : Nat), (23 : Nat), (15 : Nat))]) ∈ lw_tbl := wt_4 _ (znw tables_1_4 92 _ rfl)
theorem wd_813 : (Jvm.Cond.methodLink "LotSalesLaw" (78 : Nat) ({ cls := "LotSales", name := "priceIf", desc := "(III)I" } : Jvm.MethodName)) ∈ lw_tbl := wt_4 _ (znw tables_1_4 93 _ rfl)
theorem wd_814 : (Jvm.Cond.instanceMethod ({ cls := "LotSales", name := "priceIf", desc := "(III)I" } : Jvm.MethodName)) ∈ lw_tbl := wt_4 _ (znw tables_1_4 94 _ rfl)
theorem wd_816 : (Jvm.Cond.code ({ cls := "LotSales", name := "priceIf", desc := "(III)I" } : Jvm.MethodName) prog_1_method_20_code (5 : Nat) (Option.some Jvm.ClassFile.FieldType.int)) ∈ lw_tbl := wt_4 _ (znw tables_1_4 96 _ rfl)
theorem wd_817 : (Jvm.Cond.stringRef "LotSales" (229 : Nat) "the amount is not a step") ∈ lw_tbl := wt_4 _ (znw tables_1_4 97 _ rfl)
theorem wd_818 : (Jvm.Cond.methodLink "LotSales" (234 : Nat) ({ cls := "LotSales$Standing", name := "raise", desc := "(III)V" } : Jvm.MethodName)) ∈ lw_tbl := wt_4 _ (znw tables_1_4 98 _ rfl)
theorem wd_819 : (Jvm.Cond.instanceMethod ({ cls := "LotSales$Standing", name := "raise", desc := "(III)V" } : Jvm.MethodName)) ∈ lw_tbl := wt_4 _ (znw tables_1_4 99 _ rfl)
theorem wd_821 : (Jvm.Cond.code ({ cls := "LotSales$Standing", name := "raise", desc := "(III)V" } : Jvm.MethodName) prog_6_method_3_code (4 : Nat) (Option.none : Option Jvm.ClassFile.FieldType)) ∈ lw_tbl := wt_4 _ (znw tables_1_4 101 _ rfl)
theorem wd_822 : (Jvm.Cond.methodLink "LotSalesLaw" (211 : Nat) ({ cls := "LotSalesLaw", name := "close", desc := "(LLotSales;I[J)I" } : Jvm.MethodName)) ∈ lw_tbl := wt_4 _ (znw tables_1_4 102 _ rfl)
theorem wd_823 : (Jvm.Cond.static ({ cls := "LotSalesLaw", name := "close", desc := "(LLotSales;I[J)I" } : Jvm.MethodName)) ∈ lw_tbl := wt_4 _ (znw tables_1_4 103 _ rfl)
theorem wd_824 : (Jvm.Cond.codeWith ({ cls := "LotSalesLaw", name := "close", desc := "(LLotSales;I[J)I" } : Jvm.MethodName) method_22_code (4 : Nat) (Option.some Jvm.ClassFile.FieldType.int) [((0 : Nat), (9 : Nat), (12 : Nat), (21 : Nat)), ((0 : Nat), (9 : Nat), (15 : Nat), (15 : Nat))]) ∈ lw_tbl := wt_4 _ (znw tables_1_4 104 _ rfl)
theorem wd_825 : (Jvm.Cond.methodLink "LotSalesLaw" (81 : Nat) ({ cls := "LotSales", name := "close", desc := "(I)I" } : Jvm.MethodName)) ∈ lw_tbl := wt_4 _ (znw tables_1_4 105 _ rfl)
theorem wd_826 : (Jvm.Cond.instanceMethod ({ cls := "LotSales", name := "close", desc := "(I)I" } : Jvm.MethodName)) ∈ lw_tbl := wt_4 _ (znw tables_1_4 106 _ rfl)
theorem wd_828 : (Jvm.Cond.code ({ cls := "LotSales", name := "close", desc := "(I)I" } : Jvm.MethodName) prog_1_method_21_code (2 : Nat) (Option.some Jvm.ClassFile.FieldType.int)) ∈ lw_tbl := wt_4 _ (znw tables_1_4 108 _ rfl)
theorem wd_829 : (Jvm.Cond.methodLink "LotSales" (237 : Nat) ({ cls := "LotSales", name := "tryClose", desc := "(I)I" } : Jvm.MethodName)) ∈ lw_tbl := wt_4 _ (znw tables_1_4 109 _ rfl)
theorem wd_831 : (Jvm.Cond.instanceMethod ({ cls := "LotSales", name := "tryClose", desc := "(I)I" } : Jvm.MethodName)) ∈ lw_tbl := wt_4 _ (znw tables_1_4 111 _ rfl)
theorem wd_832 : (Jvm.Cond.code ({ cls := "LotSales", name := "tryClose", desc := "(I)I" } : Jvm.MethodName) prog_1_method_54_code (4 : Nat) (Option.some Jvm.ClassFile.FieldType.int)) ∈ lw_tbl := wt_4 _ (znw tables_1_4 112 _ rfl)
theorem wd_833 : (Jvm.Cond.methodLink "LotSales" (264 : Nat) ({ cls := "LotSales$Lot", name := "removeOrders", desc := "()V" } : Jvm.MethodName)) ∈ lw_tbl := wt_4 _ (znw tables_1_4 113 _ rfl)
theorem wd_834 : (Jvm.Cond.methodLink "LotSales" (432 : Nat) ({ cls := "LotSales", name := "buyIn", desc := "(ILLotSales$Lot;)V" } : Jvm.MethodName)) ∈ lw_tbl := wt_4 _ (znw tables_1_4 114 _ rfl)
theorem wd_836 : (Jvm.Cond.instanceMethod ({ cls := "LotSales", name := "buyIn", desc := "(ILLotSales$Lot;)V" } : Jvm.MethodName)) ∈ lw_tbl := wt_4 _ (znw tables_1_4 116 _ rfl)
theorem wd_837 : (Jvm.Cond.code ({ cls := "LotSales", name := "buyIn", desc := "(ILLotSales$Lot;)V" } : Jvm.MethodName) prog_1_method_56_code (4 : Nat) (Option.none : Option Jvm.ClassFile.FieldType)) ∈ lw_tbl := wt_4 _ (znw tables_1_4 117 _ rfl)
theorem wd_838 : (Jvm.Cond.methodLink "LotSales" (440 : Nat) ({ cls := "LotSales", name := "feeOf", desc := "(I)I" } : Jvm.MethodName)) ∈ lw_tbl := wt_4 _ (znw tables_1_4 118 _ rfl)
theorem wd_839 : (Jvm.Cond.static ({ cls := "LotSales", name := "feeOf", desc := "(I)I" } : Jvm.MethodName)) ∈ lw_tbl := wt_4 _ (znw tables_1_4 119 _ rfl)
theorem wd_840 : (Jvm.Cond.code ({ cls := "LotSales", name := "feeOf", desc := "(I)I" } : Jvm.MethodName) prog_1_method_63_code (1 : Nat) (Option.some Jvm.ClassFile.FieldType.int)) ∈ lw_tbl := wt_4 _ (znw tables_1_4 120 _ rfl)
theorem wd_841 : (Jvm.Cond.methodLink "LotSales" (443 : Nat) ({ cls := "LotSales$Standing", name := "reasonBelowReserve", desc := "()I" } : Jvm.MethodName)) ∈ lw_tbl := wt_4 _ (znw tables_1_4 121 _ rfl)
theorem wd_842 : (Jvm.Cond.instanceMethod ({ cls := "LotSales$Standing", name := "reasonBelowReserve", desc := "()I" } : Jvm.MethodName)) ∈ lw_tbl := wt_4 _ (znw tables_1_4 122 _ rfl)
theorem wd_844 : (Jvm.Cond.code ({ cls := "LotSales$Standing", name := "reasonBelowReserve", desc := "()I" } : Jvm.MethodName) prog_6_method_8_code (1 : Nat) (Option.some Jvm.ClassFile.FieldType.int)) ∈ lw_tbl := wt_4 _ (znw tables_1_4 124 _ rfl)
theorem wd_845 : (Jvm.Cond.methodLink "LotSales" (436 : Nat) ({ cls := "LotSales$Lot", name := "sell", desc := "(II)V" } : Jvm.MethodName)) ∈ lw_tbl := wt_4 _ (znw tables_1_4 125 _ rfl)
theorem wd_846 : (Jvm.Cond.instanceMethod ({ cls := "LotSales$Lot", name := "sell", desc := "(II)V" } : Jvm.MethodName)) ∈ lw_tbl := wt_4 _ (znw tables_1_4 126 _ rfl)
theorem wd_848 : (Jvm.Cond.code ({ cls := "LotSales$Lot", name := "sell", desc := "(II)V" } : Jvm.MethodName) prog_4_method_9_code (3 : Nat) (Option.none : Option Jvm.ClassFile.FieldType)) ∈ lw_tbl := wt_4 _ (znw tables_1_4 128 _ rfl)
theorem wd_849 : (Jvm.Cond.methodLink "LotSalesLaw" (214 : Nat) ({ cls := "LotSalesLaw", name := "withdraw", desc := "(LLotSales;I[J)I" } : Jvm.MethodName)) ∈ lw_tbl := wt_4 _ (znw tables_1_4 129 _ rfl)
theorem wd_850 : (Jvm.Cond.static ({ cls := "LotSalesLaw", name := "withdraw", desc := "(LLotSales;I[J)I" } : Jvm.MethodName)) ∈ lw_tbl := wt_4 _ (znw tables_1_4 130 _ rfl)
theorem wd_851 : (Jvm.Cond.codeWith ({ cls := "LotSalesLaw", name := "withdraw", desc := "(LLotSales;I[J)I" } : Jvm.MethodName) method_23_code (4 : Nat) (Option.some Jvm.ClassFile.FieldType.int) [((0 : Nat), (9 : Nat), (12 : Nat), (21 : Nat)), ((0 : Nat), (9 : Nat), (15 : Nat), (15 : Nat))]) ∈ lw_tbl := wt_4 _ (znw tables_1_4 131 _ rfl)
theorem wd_852 : (Jvm.Cond.methodLink "LotSalesLaw" (84 : Nat) ({ cls := "LotSales", name := "withdraw", desc := "(I)I" } : Jvm.MethodName)) ∈ lw_tbl := wt_4 _ (znw tables_1_4 132 _ rfl)
theorem wd_853 : (Jvm.Cond.instanceMethod ({ cls := "LotSales", name := "withdraw", desc := "(I)I" } : Jvm.MethodName)) ∈ lw_tbl := wt_4 _ (znw tables_1_4 133 _ rfl)
theorem wd_855 : (Jvm.Cond.code ({ cls := "LotSales", name := "withdraw", desc := "(I)I" } : Jvm.MethodName) prog_1_method_22_code (2 : Nat) (Option.some Jvm.ClassFile.FieldType.int)) ∈ lw_tbl := wt_4 _ (znw tables_1_4 135 _ rfl)
theorem wd_856 : (Jvm.Cond.methodLink "LotSales" (240 : Nat) ({ cls := "LotSales", name := "tryWithdraw", desc := "(I)I" } : Jvm.MethodName)) ∈ lw_tbl := wt_4 _ (znw tables_1_4 136 _ rfl)
theorem wd_858 : (Jvm.Cond.instanceMethod ({ cls := "LotSales", name := "tryWithdraw", desc := "(I)I" } : Jvm.MethodName)) ∈ lw_tbl := wt_4 _ (znw tables_1_4 138 _ rfl)
theorem wd_859 : (Jvm.Cond.code ({ cls := "LotSales", name := "tryWithdraw", desc := "(I)I" } : Jvm.MethodName) prog_1_method_55_code (4 : Nat) (Option.some Jvm.ClassFile.FieldType.int)) ∈ lw_tbl := wt_4 _ (znw tables_1_4 139 _ rfl)
theorem wd_860 : (Jvm.Cond.methodLink "LotSalesLaw" (217 : Nat) ({ cls := "LotSalesLaw", name := "offer", desc := "(LLotSales;II[J)I" } : Jvm.MethodName)) ∈ lw_tbl := wt_4 _ (znw tables_1_4 140 _ rfl)
theorem wd_861 : (Jvm.Cond.static ({ cls := "LotSalesLaw", name := "offer", desc := "(LLotSales;II[J)I" } : Jvm.MethodName)) ∈ lw_tbl := wt_4 _ (znw tables_1_4 141 _ rfl)
theorem wd_862 : (Jvm.Cond.codeWith ({ cls := "LotSalesLaw", name := "offer", desc := "(LLotSales;II[J)I" } : Jvm.MethodName) method_24_code (5 : Nat) (Option.some Jvm.ClassFile.FieldType.int) [((0 : Nat), (10 : Nat), (13 : Nat), (21 : Nat)), ((0 : Nat), (10 : Nat), (17 : Nat), (13 : Nat)), ((0 : Nat), (10 : Nat), (21 : Nat), (15 : Nat))]) ∈ lw_tbl := wt_4 _ (znw tables_1_4 142 _ rfl)
theorem wd_863 : (Jvm.Cond.methodLink "LotSalesLaw" (87 : Nat) ({ cls := "LotSales", name := "offer", desc := "(II)I" } : Jvm.MethodName)) ∈ lw_tbl := wt_4 _ (znw tables_1_4 143 _ rfl)
theorem wd_864 : (Jvm.Cond.instanceMethod ({ cls := "LotSales", name := "offer", desc := "(II)I" } : Jvm.MethodName)) ∈ lw_tbl := wt_4 _ (znw tables_1_4 144 _ rfl)
theorem wd_866 : (Jvm.Cond.code ({ cls := "LotSales", name := "offer", desc := "(II)I" } : Jvm.MethodName) prog_1_method_23_code (5 : Nat) (Option.some Jvm.ClassFile.FieldType.int)) ∈ lw_tbl := wt_4 _ (znw tables_1_4 146 _ rfl)
theorem wd_867 : (Jvm.Cond.methodLink "LotSalesLaw" (220 : Nat) ({ cls := "LotSalesLaw", name := "split", desc := "(LLotSales;II[J)I" } : Jvm.MethodName)) ∈ lw_tbl := wt_4 _ (znw tables_1_4 147 _ rfl)
theorem wd_868 : (Jvm.Cond.static ({ cls := "LotSalesLaw", name := "split", desc := "(LLotSales;II[J)I" } : Jvm.MethodName)) ∈ lw_tbl := wt_4 _ (znw tables_1_4 148 _ rfl)
theorem wd_869 : (Jvm.Cond.codeWith ({ cls := "LotSalesLaw", name := "split", desc := "(LLotSales;II[J)I" } : Jvm.MethodName) method_25_code (5 : Nat) (Option.some Jvm.ClassFile.FieldType.int) [((0 : Nat), (10 : Nat), (13 : Nat), (21 : Nat)), ((0 : Nat), (10 : Nat), (17 : Nat), (13 : Nat)), ((0 : Nat), (10 : Nat), (21 : Nat), (15 : Nat))]) ∈ lw_tbl := wt_4 _ (znw tables_1_4 149 _ rfl)
theorem wd_870 : (Jvm.Cond.methodLink "LotSalesLaw" (90 : Nat) ({ cls := "LotSales", name := "split", desc := "(II)I" } : Jvm.MethodName)) ∈ lw_tbl := wt_4 _ (znw tables_1_4 150 _ rfl)
theorem wd_871 : (Jvm.Cond.instanceMethod ({ cls := "LotSales", name := "split", desc := "(II)I" } : Jvm.MethodName)) ∈ lw_tbl := wt_4 _ (znw tables_1_4 151 _ rfl)
theorem wd_873 : (Jvm.Cond.code ({ cls := "LotSales", name := "split", desc := "(II)I" } : Jvm.MethodName) prog_1_method_24_code (6 : Nat) (Option.some Jvm.ClassFile.FieldType.int)) ∈ lw_tbl := wt_4 _ (znw tables_1_4 153 _ rfl)
theorem wd_874 : (Jvm.Cond.methodLink "LotSales" (253 : Nat) ({ cls := "LotSales$Lot", name := "ordersOfParts", desc := "(I)I" } : Jvm.MethodName)) ∈ lw_tbl := wt_4 _ (znw tables_1_4 154 _ rfl)
theorem wd_875 : (Jvm.Cond.instanceMethod ({ cls := "LotSales$Lot", name := "ordersOfParts", desc := "(I)I" } : Jvm.MethodName)) ∈ lw_tbl := wt_4 _ (znw tables_1_4 155 _ rfl)
theorem wd_877 : (Jvm.Cond.code ({ cls := "LotSales$Lot", name := "ordersOfParts", desc := "(I)I" } : Jvm.MethodName) prog_4_method_12_code (6 : Nat) (Option.some Jvm.ClassFile.FieldType.int)) ∈ lw_tbl := wt_4 _ (znw tables_1_4 157 _ rfl)
theorem wd_878 : (Jvm.Cond.methodLink "LotSales$Lot" (68 : Nat) ({ cls := "LotSales$Lot", name := "quantityOfPart", desc := "(II)I" } : Jvm.MethodName)) ∈ lw_tbl := wt_4 _ (znw tables_1_4 158 _ rfl)
theorem wd_879 : (Jvm.Cond.instanceMethod ({ cls := "LotSales$Lot", name := "quantityOfPart", desc := "(II)I" } : Jvm.MethodName)) ∈ lw_tbl := wt_4 _ (znw tables_1_4 159 _ rfl)
theorem wd_881 : (Jvm.Cond.code ({ cls := "LotSales$Lot", name := "quantityOfPart", desc := "(II)I" } : Jvm.MethodName) prog_4_method_10_code (3 : Nat) (Option.some Jvm.ClassFile.FieldType.int)) ∈ lw_tbl := wt_4 _ (znw tables_1_4 161 _ rfl)
theorem wd_882 : (Jvm.Cond.methodLink "LotSales$Lot" (72 : Nat) ({ cls := "LotSales$Lot", name := "share", desc := "(II)I" } : Jvm.MethodName)) ∈ lw_tbl := wt_4 _ (znw tables_1_4 162 _ rfl)
theorem wd_883 : (Jvm.Cond.instanceMethod ({ cls := "LotSales$Lot", name := "share", desc := "(II)I" } : Jvm.MethodName)) ∈ lw_tbl := wt_4 _ (znw tables_1_4 163 _ rfl)
theorem wd_885 : (Jvm.Cond.code ({ cls := "LotSales$Lot", name := "share", desc := "(II)I" } : Jvm.MethodName) prog_4_method_11_code (3 : Nat) (Option.some Jvm.ClassFile.FieldType.int)) ∈ lw_tbl := wt_4 _ (znw tables_1_4 165 _ rfl)
theorem wd_886 : (Jvm.Cond.stringRef "LotSales" (256 : Nat) "too many orders") ∈ lw_tbl := wt_4 _ (znw tables_1_4 166 _ rfl)
theorem wd_887 : (Jvm.Cond.methodLink "LotSales" (258 : Nat) ({ cls := "LotSales$Lot", name := "quantityOfPart", desc := "(II)I" } : Jvm.MethodName)) ∈ lw_tbl := wt_4 _ (znw tables_1_4 167 _ rfl)
theorem wd_888 : (Jvm.Cond.methodLink "LotSales" (261 : Nat) ({ cls := "LotSales$Sale", name := "makePart", desc := "(LLotSales$Lot;I)V" } : Jvm.MethodName)) ∈ lw_tbl := wt_4 _ (znw tables_1_4 168 _ rfl)
theorem wd_889 : (Jvm.Cond.instanceMethod ({ cls := "LotSales$Sale", name := "makePart", desc := "(LLotSales$Lot;I)V" } : Jvm.MethodName)) ∈ lw_tbl := wt_4 _ (znw tables_1_4 169 _ rfl)
theorem wd_891 : (Jvm.Cond.code ({ cls := "LotSales$Sale", name := "makePart", desc := "(LLotSales$Lot;I)V" } : Jvm.MethodName) prog_5_method_6_code (6 : Nat) (Option.none : Option Jvm.ClassFile.FieldType)) ∈ lw_tbl := wt_4 _ (znw tables_1_4 171 _ rfl)
theorem wd_892 : (Jvm.Cond.methodLink "LotSales$Sale" (72 : Nat) ({ cls := "LotSales$Lot", name := "share", desc := "(II)I" } : Jvm.MethodName)) ∈ lw_tbl := wt_4 _ (znw tables_1_4 172 _ rfl)
theorem wd_893 : (Jvm.Cond.methodLink "LotSales$Sale" (76 : Nat) ({ cls := "LotSales$Sale", name := "makeLot", desc := "(III)I" } : Jvm.MethodName)) ∈ lw_tbl := wt_4 _ (znw tables_1_4 173 _ rfl)
theorem wd_894 : (Jvm.Cond.methodLink "LotSales$Sale" (83 : Nat) ({ cls := "LotSales$Sale", name := "nextNumber", desc := "()I" } : Jvm.MethodName)) ∈ lw_tbl := wt_4 _ (znw tables_1_4 174 _ rfl)
theorem wd_895 : (Jvm.Cond.methodLink "LotSales$Sale" (87 : Nat) ({ cls := "LotSales$Lot", name := "putOrder", desc := "(III)V" } : Jvm.MethodName)) ∈ lw_tbl := wt_4 _ (znw tables_1_4 175 _ rfl)
theorem wd_896 : (Jvm.Cond.methodLink "LotSalesLaw" (223 : Nat) ({ cls := "LotSalesLaw", name := "group", desc := "(LLotSales;II[J)I" } : Jvm.MethodName)) ∈ lw_tbl := wt_4 _ (znw tables_1_4 176 _ rfl)
theorem wd_897 : (Jvm.Cond.static ({ cls := "LotSalesLaw", name := "group", desc := "(LLotSales;II[J)I" } : Jvm.MethodName)) ∈ lw_tbl := wt_4 _ (znw tables_1_4 177 _ rfl)
theorem wd_898 : (Jvm.Cond.codeWith ({ cls := "LotSalesLaw", name := "group", desc := "(LLotSales;II[J)I" } : Jvm.MethodName) method_26_code (5 : Nat) (Option.some Jvm.ClassFile.FieldType.int) [((0 : Nat), (10 : Nat), (13 : Nat), (21 : Nat)), ((0 : Nat), (10 : Nat), (17 : Nat), (13 : Nat)), ((0 : Nat), (10 : Nat), (21 : Nat), (15 : Nat))]) ∈ lw_tbl := wt_4 _ (znw tables_1_4 178 _ rfl)
theorem wd_899 : (Jvm.Cond.methodLink "LotSalesLaw" (93 : Nat) ({ cls := "LotSales", name := "group", desc := "(II)I" } : Jvm.MethodName)) ∈ lw_tbl := wt_4 _ (znw tables_1_4 179 _ rfl)
theorem wd_900 : (Jvm.Cond.instanceMethod ({ cls := "LotSales", name := "group", desc := "(II)I" } : Jvm.MethodName)) ∈ lw_tbl := wt_4 _ (znw tables_1_4 180 _ rfl)
theorem wd_902 : (Jvm.Cond.code ({ cls := "LotSales", name := "group", desc := "(II)I" } : Jvm.MethodName) prog_1_method_25_code (6 : Nat) (Option.some Jvm.ClassFile.FieldType.int)) ∈ lw_tbl := wt_4 _ (znw tables_1_4 182 _ rfl)
theorem wd_903 : (Jvm.Cond.stringRef "LotSales" (267 : Nat) "not two lots of one seller") ∈ lw_tbl := wt_4 _ (znw tables_1_4 183 _ rfl)
theorem wd_904 : (Jvm.Cond.methodLink "LotSales" (269 : Nat) ({ cls := "LotSales$Sale", name := "makeGroup", desc := "(LLotSales$Lot;LLotSales$Lot;)I" } : Jvm.MethodName)) ∈ lw_tbl := wt_4 _ (znw tables_1_4 184 _ rfl)
theorem wd_905 : (Jvm.Cond.instanceMethod ({ cls := "LotSales$Sale", name := "makeGroup", desc := "(LLotSales$Lot;LLotSales$Lot;)I" } : Jvm.MethodName)) ∈ lw_tbl := wt_4 _ (znw tables_1_4 185 _ rfl)
theorem wd_907 : (Jvm.Cond.code ({ cls := "LotSales$Sale", name := "makeGroup", desc := "(LLotSales$Lot;LLotSales$Lot;)I" } : Jvm.MethodName) prog_5_method_7_code (6 : Nat) (Option.some Jvm.ClassFile.FieldType.int)) ∈ lw_tbl := wt_4 _ (znw tables_1_4 187 _ rfl)
theorem wd_908 : (Jvm.Cond.constant "LotSales$Sale" (93 : Nat) (90000 : Int32)) ∈ lw_tbl := wt_4 _ (znw tables_1_4 188 _ rfl)
theorem wd_909 : (Jvm.Cond.methodLink "LotSales$Sale" (94 : Nat) ({ cls := "java/lang/Math", name := "min", desc := "(II)I" } : Jvm.MethodName)) ∈ lw_tbl := wt_4 _ (znw tables_1_4 189 _ rfl)
theorem wd_910 : (Jvm.Cond.methodLink "LotSalesLaw" (226 : Nat) ({ cls := "LotSalesLaw", name := "why", desc := "(LLotSales;I[J)I" } : Jvm.MethodName)) ∈ lw_tbl := wt_4 _ (znw tables_1_4 190 _ rfl)
theorem wd_911 : (Jvm.Cond.static ({ cls := "LotSalesLaw", name := "why", desc := "(LLotSales;I[J)I" } : Jvm.MethodName)) ∈ lw_tbl := wt_4 _ (znw tables_1_4 191 _ rfl)
theorem wd_912 : (Jvm.Cond.codeWith ({ cls := "LotSalesLaw", name := "why", desc := "(LLotSales;I[J)I" } : Jvm.MethodName) method_27_code (4 : Nat) (Option.some Jvm.ClassFile.FieldType.int) [((0 : Nat), (9 : Nat), (12 : Nat), (21 : Nat)), ((0 : Nat), (9 : Nat), (15 : Nat), (50 : Nat))]) ∈ lw_tbl := wt_4 _ (znw tables_1_4 192 _ rfl)
theorem wd_913 : (Jvm.Cond.methodLink "LotSalesLaw" (96 : Nat) ({ cls := "LotSales", name := "why", desc := "(I)I" } : Jvm.MethodName)) ∈ lw_tbl := wt_4 _ (znw tables_1_4 193 _ rfl)
theorem wd_914 : (Jvm.Cond.instanceMethod ({ cls := "LotSales", name := "why", desc := "(I)I" } : Jvm.MethodName)) ∈ lw_tbl := wt_4 _ (znw tables_1_4 194 _ rfl)
theorem wd_916 : (Jvm.Cond.code ({ cls := "LotSales", name := "why", desc := "(I)I" } : Jvm.MethodName) prog_1_method_26_code (3 : Nat) (Option.some Jvm.ClassFile.FieldType.int)) ∈ lw_tbl := wt_4 _ (znw tables_1_4 196 _ rfl)
theorem wd_917 : (Jvm.Cond.stringRef "LotSales" (276 : Nat) "the lot was not closed") ∈ lw_tbl := wt_4 _ (znw tables_1_4 197 _ rfl)
theorem wd_918 : (Jvm.Cond.methodLink "LotSalesLaw" (229 : Nat) ({ cls := "LotSalesLaw", name := "sold", desc := "(LLotSales;IZ[J)I" } : Jvm.MethodName)) ∈ lw_tbl := wt_4 _ (znw tables_1_4 198 _ rfl)
theorem wd_919 : (Jvm.Cond.static ({ cls := "LotSalesLaw", name := "sold", desc := "(LLotSales;IZ[J)I" } : Jvm.MethodName)) ∈ lw_tbl := wt_4 _ (znw tables_1_4 199 _ rfl)
theorem wd_920 : (Jvm.Cond.codeWith ({ cls := "LotSalesLaw", name := "sold", desc := "(LLotSales;IZ[J)I" } : Jvm.MethodName) method_28_code (5 : Nat) (Option.some Jvm.ClassFile.FieldType.int) [((0 : Nat), (10 : Nat), (13 : Nat), (21 : Nat)), ((0 : Nat), (10 : Nat), (17 : Nat), (50 : Nat))]) ∈ lw_tbl := wt_4 _ (znw tables_1_4 200 _ rfl)
theorem wd_921 : (Jvm.Cond.methodLink "LotSalesLaw" (99 : Nat) ({ cls := "LotSales", name := "sold", desc := "(IZ)I" } : Jvm.MethodName)) ∈ lw_tbl := wt_4 _ (znw tables_1_4 201 _ rfl)
theorem wd_922 : (Jvm.Cond.instanceMethod ({ cls := "LotSales", name := "sold", desc := "(IZ)I" } : Jvm.MethodName)) ∈ lw_tbl := wt_4 _ (znw tables_1_4 202 _ rfl)
theorem wd_924 : (Jvm.Cond.code ({ cls := "LotSales", name := "sold", desc := "(IZ)I" } : Jvm.MethodName) prog_1_method_27_code (4 : Nat) (Option.some Jvm.ClassFile.FieldType.int)) ∈ lw_tbl := wt_4 _ (znw tables_1_4 204 _ rfl)
theorem wd_925 : (Jvm.Cond.stringRef "LotSales" (278 : Nat) "the lot is not sold") ∈ lw_tbl := wt_4 _ (znw tables_1_4 205 _ rfl)
theorem wd_926 : (Jvm.Cond.methodLink "LotSalesLaw" (233 : Nat) ({ cls := "LotSalesLaw", name := "premium", desc := "(LLotSales;I[J)I" } : Jvm.MethodName)) ∈ lw_tbl := wt_4 _ (znw tables_1_4 206 _ rfl)
theorem wd_927 : (Jvm.Cond.static ({ cls := "LotSalesLaw", name := "premium", desc := "(LLotSales;I[J)I" } : Jvm.MethodName)) ∈ lw_tbl := wt_4 _ (znw tables_1_4 207 _ rfl)
theorem wd_928 : (Jvm.Cond.codeWith ({ cls := "LotSalesLaw", name := "premium", desc := "(LLotSales;I[J)I" } : Jvm.MethodName) method_29_code (4 : Nat) (Option.some Jvm.ClassFile.FieldType.int) [((0 : Nat), (9 : Nat), (12 : Nat), (13 : Nat))]) ∈ lw_tbl := wt_4 _ (znw tables_1_4 208 _ rfl)
theorem wd_929 : (Jvm.Cond.methodLink "LotSalesLaw" (103 : Nat) ({ cls := "LotSales", name := "premium", desc := "(I)I" } : Jvm.MethodName)) ∈ lw_tbl := wt_4 _ (znw tables_1_4 209 _ rfl)
theorem wd_930 : (Jvm.Cond.instanceMethod ({ cls := "LotSales", name := "premium", desc := "(I)I" } : Jvm.MethodName)) ∈ lw_tbl := wt_4 _ (znw tables_1_4 210 _ rfl)
theorem wd_932 : (Jvm.Cond.code ({ cls := "LotSales", name := "premium", desc := "(I)I" } : Jvm.MethodName) prog_1_method_28_code (2 : Nat) (Option.some Jvm.ClassFile.FieldType.int)) ∈ lw_tbl := wt_4 _ (znw tables_1_4 212 _ rfl)
theorem wd_933 : (Jvm.Cond.methodLink "LotSales" (285 : Nat) ({ cls := "LotSales", name := "premiumOf", desc := "(I)I" } : Jvm.MethodName)) ∈ lw_tbl := wt_4 _ (znw tables_1_4 213 _ rfl)
theorem wd_934 : (Jvm.Cond.static ({ cls := "LotSales", name := "premiumOf", desc := "(I)I" } : Jvm.MethodName)) ∈ lw_tbl := wt_4 _ (znw tables_1_4 214 _ rfl)
theorem wd_935 : (Jvm.Cond.code ({ cls := "LotSales", name := "premiumOf", desc := "(I)I" } : Jvm.MethodName) prog_1_method_61_code (4 : Nat) (Option.some Jvm.ClassFile.FieldType.int)) ∈ lw_tbl := wt_4 _ (znw tables_1_4 215 _ rfl)
theorem wd_936 : (Jvm.Cond.methodLink "LotSales" (446 : Nat) ({ cls := "java/lang/Math", name := "min", desc := "(II)I" } : Jvm.MethodName)) ∈ lw_tbl := wt_4 _ (znw tables_1_4 216 _ rfl)
theorem wd_937 : (Jvm.Cond.methodLink "LotSalesLaw" (236 : Nat) ({ cls := "LotSalesLaw", name := "bidder", desc := "(LLotSales;II[J)I" } : Jvm.MethodName)) ∈ lw_tbl := wt_4 _ (znw tables_1_4 217 _ rfl)
theorem wd_938 : (Jvm.Cond.static ({ cls := "LotSalesLaw", name := "bidder", desc := "(LLotSales;II[J)I" } : Jvm.MethodName)) ∈ lw_tbl := wt_4 _ (znw tables_1_4 218 _ rfl)
theorem wd_939 : (Jvm.Cond.codeWith ({ cls := "LotSalesLaw", name := "bidder", desc := "(LLotSales;II[J)I" } : Jvm.MethodName) method_30_code (5 : Nat) (Option.some Jvm.ClassFile.FieldType.int) [((0 : Nat), (10 : Nat), (13 : Nat), (21 : Nat)), ((0 : Nat), (10 : Nat), (17 : Nat), (13 : Nat))]) ∈ lw_tbl := wt_4 _ (znw tables_1_4 219 _ rfl)
theorem wd_940 : (Jvm.Cond.methodLink "LotSalesLaw" (106 : Nat) ({ cls := "LotSales", name := "bidder", desc := "(II)I" } : Jvm.MethodName)) ∈ lw_tbl := wt_4 _ (znw tables_1_4 220 _ rfl)
theorem wd_941 : (Jvm.Cond.instanceMethod ({ cls := "LotSales", name := "bidder", desc := "(II)I" } : Jvm.MethodName)) ∈ lw_tbl := wt_4 _ (znw tables_1_4 221 _ rfl)
theorem wd_943 : (Jvm.Cond.code ({ cls := "LotSales", name := "bidder", desc := "(II)I" } : Jvm.MethodName) prog_1_method_29_code (3 : Nat) (Option.some Jvm.ClassFile.FieldType.int)) ∈ lw_tbl := wt_4 _ (znw tables_1_4 223 _ rfl)
theorem wd_944 : (Jvm.Cond.methodLink "LotSales" (291 : Nat) ({ cls := "LotSales$Sale", name := "premiumsOf", desc := "(I)I" } : Jvm.MethodName)) ∈ lw_tbl := wt_4 _ (znw tables_1_4 224 _ rfl)
theorem wd_945 : (Jvm.Cond.instanceMethod ({ cls := "LotSales$Sale", name := "premiumsOf", desc := "(I)I" } : Jvm.MethodName)) ∈ lw_tbl := wt_4 _ (znw tables_1_4 225 _ rfl)
theorem wd_947 : (Jvm.Cond.code ({ cls := "LotSales$Sale", name := "premiumsOf", desc := "(I)I" } : Jvm.MethodName) prog_5_method_12_code (4 : Nat) (Option.some Jvm.ClassFile.FieldType.int)) ∈ lw_tbl := wt_4 _ (znw tables_1_4 227 _ rfl)
theorem wd_948 : (Jvm.Cond.methodLinkNest "LotSales$Sale" (112 : Nat) ({ cls := "LotSales", name := "premiumOf", desc := "(I)I" } : Jvm.MethodName) "LotSales") ∈ lw_tbl := wt_4 _ (znw tables_1_4 228 _ rfl)
theorem wd_949 : (Jvm.Cond.methodLink "LotSales" (294 : Nat) ({ cls := "LotSales$Sale", name := "lotsTo", desc := "(I)I" } : Jvm.MethodName)) ∈ lw_tbl := wt_4 _ (znw tables_1_4 229 _ rfl)
theorem wd_950 : (Jvm.Cond.instanceMethod ({ cls := "LotSales$Sale", name := "lotsTo", desc := "(I)I" } : Jvm.MethodName)) ∈ lw_tbl := wt_4 _ (znw tables_1_4 230 _ rfl)
theorem wd_952 : (Jvm.Cond.code ({ cls := "LotSales$Sale", name := "lotsTo", desc := "(I)I" } : Jvm.MethodName) prog_5_method_10_code (4 : Nat) (Option.some Jvm.ClassFile.FieldType.int)) ∈ lw_tbl := wt_4 _ (znw tables_1_4 232 _ rfl)
theorem wd_953 : (Jvm.Cond.methodLink "LotSales" (300 : Nat) ({ cls := "LotSales", name := "leadsOf", desc := "(I)I" } : Jvm.MethodName)) ∈ lw_tbl := wt_4 _ (znw tables_1_4 233 _ rfl)
theorem wd_955 : (Jvm.Cond.instanceMethod ({ cls := "LotSales", name := "leadsOf", desc := "(I)I" } : Jvm.MethodName)) ∈ lw_tbl := wt_4 _ (znw tables_1_4 235 _ rfl)
theorem wd_956 : (Jvm.Cond.code ({ cls := "LotSales", name := "leadsOf", desc := "(I)I" } : Jvm.MethodName) prog_1_method_60_code (5 : Nat) (Option.some Jvm.ClassFile.FieldType.int)) ∈ lw_tbl := wt_4 _ (znw tables_1_4 236 _ rfl)
theorem wd_957 : (Jvm.Cond.methodLink "LotSalesLaw" (239 : Nat) ({ cls := "LotSalesLaw", name := "seller", desc := "(LLotSales;II[J)I" } : Jvm.MethodName)) ∈ lw_tbl := wt_4 _ (znw tables_1_4 237 _ rfl)
theorem wd_958 : (Jvm.Cond.static ({ cls := "LotSalesLaw", name := "seller", desc := "(LLotSales;II[J)I" } : Jvm.MethodName)) ∈ lw_tbl := wt_4 _ (znw tables_1_4 238 _ rfl)
theorem wd_959 : (Jvm.Cond.codeWith ({ cls := "LotSalesLaw", name := "seller", desc := "(LLotSales;II[J)I" } : Jvm.MethodName) method_31_code (5 : Nat) (Option.some Jvm.ClassFile.FieldType.int) [((0 : Nat), (10 : Nat), (13 : Nat), (21 : Nat)), ((0 : Nat), (10 : Nat), (17 : Nat), (13 : Nat))]) ∈ lw_tbl := wt_4 _ (znw tables_1_4 239 _ rfl)
theorem wd_960 : (Jvm.Cond.methodLink "LotSalesLaw" (109 : Nat) ({ cls := "LotSales", name := "seller", desc := "(II)I" } : Jvm.MethodName)) ∈ lw_tbl := wt_5 _ (znw tables_1_5 0 _ rfl)
theorem wd_961 : (Jvm.Cond.instanceMethod ({ cls := "LotSales", name := "seller", desc := "(II)I" } : Jvm.MethodName)) ∈ lw_tbl := wt_5 _ (znw tables_1_5 1 _ rfl)
theorem wd_963 : (Jvm.Cond.code ({ cls := "LotSales", name := "seller", desc := "(II)I" } : Jvm.MethodName) prog_1_method_30_code (3 : Nat) (Option.some Jvm.ClassFile.FieldType.int)) ∈ lw_tbl := wt_5 _ (znw tables_1_5 3 _ rfl)
theorem wd_964 : (Jvm.Cond.stringRef "LotSales" (303 : Nat) "no such seller") ∈ lw_tbl := wt_5 _ (znw tables_1_5 4 _ rfl)
theorem wd_965 : (Jvm.Cond.methodLink "LotSales" (305 : Nat) ({ cls := "LotSales$Sale", name := "pricesFor", desc := "(I)I" } : Jvm.MethodName)) ∈ lw_tbl := wt_5 _ (znw tables_1_5 5 _ rfl)
theorem wd_966 : (Jvm.Cond.instanceMethod ({ cls := "LotSales$Sale", name := "pricesFor", desc := "(I)I" } : Jvm.MethodName)) ∈ lw_tbl := wt_5 _ (znw tables_1_5 6 _ rfl)
theorem wd_968 : (Jvm.Cond.code ({ cls := "LotSales$Sale", name := "pricesFor", desc := "(I)I" } : Jvm.MethodName) prog_5_method_15_code (4 : Nat) (Option.some Jvm.ClassFile.FieldType.int)) ∈ lw_tbl := wt_5 _ (znw tables_1_5 8 _ rfl)
theorem wd_969 : (Jvm.Cond.methodLink "LotSales" (308 : Nat) ({ cls := "LotSales$Sale", name := "commissionsOf", desc := "(I)I" } : Jvm.MethodName)) ∈ lw_tbl := wt_5 _ (znw tables_1_5 9 _ rfl)
theorem wd_970 : (Jvm.Cond.instanceMethod ({ cls := "LotSales$Sale", name := "commissionsOf", desc := "(I)I" } : Jvm.MethodName)) ∈ lw_tbl := wt_5 _ (znw tables_1_5 10 _ rfl)
theorem wd_972 : (Jvm.Cond.code ({ cls := "LotSales$Sale", name := "commissionsOf", desc := "(I)I" } : Jvm.MethodName) prog_5_method_16_code (4 : Nat) (Option.some Jvm.ClassFile.FieldType.int)) ∈ lw_tbl := wt_5 _ (znw tables_1_5 12 _ rfl)
theorem wd_973 : (Jvm.Cond.methodLinkNest "LotSales$Sale" (119 : Nat) ({ cls := "LotSales", name := "commissionOf", desc := "(I)I" } : Jvm.MethodName) "LotSales") ∈ lw_tbl := wt_5 _ (znw tables_1_5 13 _ rfl)
theorem wd_974 : (Jvm.Cond.static ({ cls := "LotSales", name := "commissionOf", desc := "(I)I" } : Jvm.MethodName)) ∈ lw_tbl := wt_5 _ (znw tables_1_5 14 _ rfl)
theorem wd_975 : (Jvm.Cond.code ({ cls := "LotSales", name := "commissionOf", desc := "(I)I" } : Jvm.MethodName) prog_1_method_62_code (1 : Nat) (Option.some Jvm.ClassFile.FieldType.int)) ∈ lw_tbl := wt_5 _ (znw tables_1_5 15 _ rfl)
theorem wd_976 : (Jvm.Cond.methodLink "LotSales" (451 : Nat) ({ cls := "java/lang/Math", name := "max", desc := "(II)I" } : Jvm.MethodName)) ∈ lw_tbl := wt_5 _ (znw tables_1_5 16 _ rfl)
theorem wd_977 : (Jvm.Cond.methodLink "LotSales" (314 : Nat) ({ cls := "LotSales$Sale", name := "proceedsOf", desc := "(I)I" } : Jvm.MethodName)) ∈ lw_tbl := wt_5 _ (znw tables_1_5 17 _ rfl)
theorem wd_978 : (Jvm.Cond.instanceMethod ({ cls := "LotSales$Sale", name := "proceedsOf", desc := "(I)I" } : Jvm.MethodName)) ∈ lw_tbl := wt_5 _ (znw tables_1_5 18 _ rfl)
theorem wd_980 : (Jvm.Cond.code ({ cls := "LotSales$Sale", name := "proceedsOf", desc := "(I)I" } : Jvm.MethodName) prog_5_method_17_code (2 : Nat) (Option.some Jvm.ClassFile.FieldType.int)) ∈ lw_tbl := wt_5 _ (znw tables_1_5 20 _ rfl)
theorem wd_981 : (Jvm.Cond.methodLink "LotSales$Sale" (122 : Nat) ({ cls := "LotSales$Sale", name := "pricesFor", desc := "(I)I" } : Jvm.MethodName)) ∈ lw_tbl := wt_5 _ (znw tables_1_5 21 _ rfl)
theorem wd_982 : (Jvm.Cond.methodLink "LotSales$Sale" (125 : Nat) ({ cls := "LotSales$Sale", name := "commissionsOf", desc := "(I)I" } : Jvm.MethodName)) ∈ lw_tbl := wt_5 _ (znw tables_1_5 22 _ rfl)
theorem wd_983 : (Jvm.Cond.methodLink "LotSales" (317 : Nat) ({ cls := "LotSales$Sale", name := "lotsOf", desc := "(II)I" } : Jvm.MethodName)) ∈ lw_tbl := wt_5 _ (znw tables_1_5 23 _ rfl)
theorem wd_984 : (Jvm.Cond.instanceMethod ({ cls := "LotSales$Sale", name := "lotsOf", desc := "(II)I" } : Jvm.MethodName)) ∈ lw_tbl := wt_5 _ (znw tables_1_5 24 _ rfl)
theorem wd_986 : (Jvm.Cond.code ({ cls := "LotSales$Sale", name := "lotsOf", desc := "(II)I" } : Jvm.MethodName) prog_5_method_14_code (5 : Nat) (Option.some Jvm.ClassFile.FieldType.int)) ∈ lw_tbl := wt_5 _ (znw tables_1_5 26 _ rfl)
theorem wd_987 : (Jvm.Cond.methodLink "LotSalesLaw" (242 : Nat) ({ cls := "LotSalesLaw", name := "house", desc := "(LLotSales;I[J)I" } : Jvm.MethodName)) ∈ lw_tbl := wt_5 _ (znw tables_1_5 27 _ rfl)
theorem wd_988 : (Jvm.Cond.static ({ cls := "LotSalesLaw", name := "house", desc := "(LLotSales;I[J)I" } : Jvm.MethodName)) ∈ lw_tbl := wt_5 _ (znw tables_1_5 28 _ rfl)
theorem wd_989 : (Jvm.Cond.codeWith ({ cls := "LotSalesLaw", name := "house", desc := "(LLotSales;I[J)I" } : Jvm.MethodName) method_32_code (4 : Nat) (Option.some Jvm.ClassFile.FieldType.int) [((0 : Nat), (9 : Nat), (12 : Nat), (13 : Nat))]) ∈ lw_tbl := wt_5 _ (znw tables_1_5 29 _ rfl)
theorem wd_990 : (Jvm.Cond.methodLink "LotSalesLaw" (112 : Nat) ({ cls := "LotSales", name := "house", desc := "(I)I" } : Jvm.MethodName)) ∈ lw_tbl := wt_5 _ (znw tables_1_5 30 _ rfl)
theorem wd_991 : (Jvm.Cond.instanceMethod ({ cls := "LotSales", name := "house", desc := "(I)I" } : Jvm.MethodName)) ∈ lw_tbl := wt_5 _ (znw tables_1_5 31 _ rfl)
theorem wd_993 : (Jvm.Cond.code ({ cls := "LotSales", name := "house", desc := "(I)I" } : Jvm.MethodName) prog_1_method_31_code (6 : Nat) (Option.some Jvm.ClassFile.FieldType.int)) ∈ lw_tbl := wt_5 _ (znw tables_1_5 33 _ rfl)
theorem wd_994 : (Jvm.Cond.methodLink "LotSalesLaw" (245 : Nat) ({ cls := "LotSalesLaw", name := "soldShare", desc := "(LLotSales;[D)I" } : Jvm.MethodName)) ∈ lw_tbl := wt_5 _ (znw tables_1_5 34 _ rfl)
theorem wd_995 : (Jvm.Cond.static ({ cls := "LotSalesLaw", name := "soldShare", desc := "(LLotSales;[D)I" } : Jvm.MethodName)) ∈ lw_tbl := wt_5 _ (znw tables_1_5 35 _ rfl)
theorem wd_996 : (Jvm.Cond.codeWith ({ cls := "LotSalesLaw", name := "soldShare", desc := "(LLotSales;[D)I" } : Jvm.MethodName) method_33_code (3 : Nat) (Option.some Jvm.ClassFile.FieldType.int) [((0 : Nat), (7 : Nat), (10 : Nat), (119 : Nat))]) ∈ lw_tbl := wt_5 _ (znw tables_1_5 36 _ rfl)
theorem wd_997 : (Jvm.Cond.classLink "LotSalesLaw" (119 : Nat) "java/lang/ArithmeticException") ∈ lw_tbl := wt_5 _ (znw tables_1_5 37 _ rfl)
theorem wd_998 : (Jvm.Cond.instantiable "java/lang/ArithmeticException" (6 : Nat)) ∈ lw_tbl := wt_5 _ (znw tables_1_5 38 _ rfl)
theorem wd_999 : (Jvm.Cond.instanceMethod ({ cls := "java/lang/ArithmeticException", name := "<init>", desc := "(Ljava/lang/String;)V" } : Jvm.MethodName)) ∈ lw_tbl := wt_5 _ (znw tables_1_5 39 _ rfl)
theorem wd_1000 : (Jvm.Cond.code ({ cls := "java/lang/ArithmeticException", name := "<init>", desc := "(Ljava/lang/String;)V" } : Jvm.MethodName) prog_12_method_2_code (2 : Nat) (Option.none : Option Jvm.ClassFile.FieldType)) ∈ lw_tbl := wt_5 _ (znw tables_1_5 40 _ rfl)
theorem wd_1001 : (Jvm.Cond.methodLink "java/lang/ArithmeticException" (7 : Nat) ({ cls := "java/lang/RuntimeException", name := "<init>", desc := "(Ljava/lang/String;)V" } : Jvm.MethodName)) ∈ lw_tbl := wt_5 _ (znw tables_1_5 41 _ rfl)
theorem wd_1011 : (Jvm.Cond.methodLink "LotSalesLaw" (115 : Nat) ({ cls := "LotSales", name := "soldShare", desc := "()D" } : Jvm.MethodName)) ∈ lw_tbl := wt_5 _ (znw tables_1_5 51 _ rfl)
theorem wd_1012 : (Jvm.Cond.instanceMethod ({ cls := "LotSales", name := "soldShare", desc := "()D" } : Jvm.MethodName)) ∈ lw_tbl := wt_5 _ (znw tables_1_5 52 _ rfl)
theorem wd_1014 : (Jvm.Cond.code ({ cls := "LotSales", name := "soldShare", desc := "()D" } : Jvm.MethodName) prog_1_method_32_code (3 : Nat) (Option.some Jvm.ClassFile.FieldType.double)) ∈ lw_tbl := wt_5 _ (znw tables_1_5 54 _ rfl)
theorem wd_1015 : (Jvm.Cond.methodLink "LotSales" (320 : Nat) ({ cls := "LotSales$Ledger", name := "countOf", desc := "(I)I" } : Jvm.MethodName)) ∈ lw_tbl := wt_5 _ (znw tables_1_5 55 _ rfl)
theorem wd_1016 : (Jvm.Cond.instanceMethod ({ cls := "LotSales$Ledger", name := "countOf", desc := "(I)I" } : Jvm.MethodName)) ∈ lw_tbl := wt_5 _ (znw tables_1_5 56 _ rfl)
theorem wd_1018 : (Jvm.Cond.code ({ cls := "LotSales$Ledger", name := "countOf", desc := "(I)I" } : Jvm.MethodName) prog_3_method_4_code (4 : Nat) (Option.some Jvm.ClassFile.FieldType.int)) ∈ lw_tbl := wt_5 _ (znw tables_1_5 58 _ rfl)
theorem wd_1019 : (Jvm.Cond.classLink "LotSales" (323 : Nat) "java/lang/ArithmeticException") ∈ lw_tbl := wt_5 _ (znw tables_1_5 59 _ rfl)
theorem wd_1020 : (Jvm.Cond.stringRef "LotSales" (325 : Nat) "no lot was closed") ∈ lw_tbl := wt_5 _ (znw tables_1_5 60 _ rfl)
theorem wd_1021 : (Jvm.Cond.methodLink "LotSales" (327 : Nat) ({ cls := "java/lang/ArithmeticException", name := "<init>", desc := "(Ljava/lang/String;)V" } : Jvm.MethodName)) ∈ lw_tbl := wt_5 _ (znw tables_1_5 61 _ rfl)
theorem wd_1022 : (Jvm.Cond.methodLink "LotSalesLaw" (249 : Nat) ({ cls := "LotSalesLaw", name := "events", desc := "(LLotSales;I[J)I" } : Jvm.MethodName)) ∈ lw_tbl := wt_5 _ (znw tables_1_5 62 _ rfl)
theorem wd_1023 : (Jvm.Cond.static ({ cls := "LotSalesLaw", name := "events", desc := "(LLotSales;I[J)I" } : Jvm.MethodName)) ∈ lw_tbl := wt_5 _ (znw tables_1_5 63 _ rfl)
theorem wd_1024 : (Jvm.Cond.codeWith ({ cls := "LotSalesLaw", name := "events", desc := "(LLotSales;I[J)I" } : Jvm.MethodName) method_34_code (4 : Nat) (Option.some Jvm.ClassFile.FieldType.int) [((0 : Nat), (9 : Nat), (12 : Nat), (13 : Nat))]) ∈ lw_tbl := wt_5 _ (znw tables_1_5 64 _ rfl)
theorem wd_1025 : (Jvm.Cond.methodLink "LotSalesLaw" (121 : Nat) ({ cls := "LotSales", name := "events", desc := "(I)I" } : Jvm.MethodName)) ∈ lw_tbl := wt_5 _ (znw tables_1_5 65 _ rfl)
theorem wd_1026 : (Jvm.Cond.instanceMethod ({ cls := "LotSales", name := "events", desc := "(I)I" } : Jvm.MethodName)) ∈ lw_tbl := wt_5 _ (znw tables_1_5 66 _ rfl)
theorem wd_1028 : (Jvm.Cond.code ({ cls := "LotSales", name := "events", desc := "(I)I" } : Jvm.MethodName) prog_1_method_33_code (2 : Nat) (Option.some Jvm.ClassFile.FieldType.int)) ∈ lw_tbl := wt_5 _ (znw tables_1_5 68 _ rfl)
theorem wd_1029 : (Jvm.Cond.methodLink "LotSalesLaw" (252 : Nat) ({ cls := "LotSalesLaw", name := "event", desc := "(LLotSales;II[J)I" } : Jvm.MethodName)) ∈ lw_tbl := wt_5 _ (znw tables_1_5 69 _ rfl)
theorem wd_1030 : (Jvm.Cond.static ({ cls := "LotSalesLaw", name := "event", desc := "(LLotSales;II[J)I" } : Jvm.MethodName)) ∈ lw_tbl := wt_5 _ (znw tables_1_5 70 _ rfl)
theorem wd_1031 : (Jvm.Cond.codeWith ({ cls := "LotSalesLaw", name := "event", desc := "(LLotSales;II[J)I" } : Jvm.MethodName) method_35_code (5 : Nat) (Option.some Jvm.ClassFile.FieldType.int) [((0 : Nat), (10 : Nat), (13 : Nat), (21 : Nat)), ((0 : Nat), (10 : Nat), (17 : Nat), (13 : Nat))]) ∈ lw_tbl := wt_5 _ (znw tables_1_5 71 _ rfl)
theorem wd_1032 : (Jvm.Cond.methodLink "LotSalesLaw" (124 : Nat) ({ cls := "LotSales", name := "event", desc := "(II)I" } : Jvm.MethodName)) ∈ lw_tbl := wt_5 _ (znw tables_1_5 72 _ rfl)
theorem wd_1033 : (Jvm.Cond.instanceMethod ({ cls := "LotSales", name := "event", desc := "(II)I" } : Jvm.MethodName)) ∈ lw_tbl := wt_5 _ (znw tables_1_5 73 _ rfl)
theorem wd_1035 : (Jvm.Cond.code ({ cls := "LotSales", name := "event", desc := "(II)I" } : Jvm.MethodName) prog_1_method_34_code (4 : Nat) (Option.some Jvm.ClassFile.FieldType.int)) ∈ lw_tbl := wt_5 _ (znw tables_1_5 75 _ rfl)
theorem wd_1036 : (Jvm.Cond.stringRef "LotSales" (331 : Nat) "no such event") ∈ lw_tbl := wt_5 _ (znw tables_1_5 76 _ rfl)
theorem wd_1037 : (Jvm.Cond.methodLink "LotSalesLaw" (259 : Nat) ({ cls := "LotSalesLaw", name := "append", desc := "(LLotSales;C)I" } : Jvm.MethodName)) ∈ lw_tbl := wt_5 _ (znw tables_1_5 77 _ rfl)
theorem wd_1038 : (Jvm.Cond.static ({ cls := "LotSalesLaw", name := "append", desc := "(LLotSales;C)I" } : Jvm.MethodName)) ∈ lw_tbl := wt_5 _ (znw tables_1_5 78 _ rfl)
theorem wd_1039 : (Jvm.Cond.codeWith ({ cls := "LotSalesLaw", name := "append", desc := "(LLotSales;C)I" } : Jvm.MethodName) method_36_code (3 : Nat) (Option.some Jvm.ClassFile.FieldType.int) [((0 : Nat), (5 : Nat), (8 : Nat), (15 : Nat))]) ∈ lw_tbl := wt_5 _ (znw tables_1_5 79 _ rfl)
theorem wd_1040 : (Jvm.Cond.methodLink "LotSalesLaw" (127 : Nat) ({ cls := "LotSales", name := "append", desc := "(C)V" } : Jvm.MethodName)) ∈ lw_tbl := wt_5 _ (znw tables_1_5 80 _ rfl)
theorem wd_1041 : (Jvm.Cond.instanceMethod ({ cls := "LotSales", name := "append", desc := "(C)V" } : Jvm.MethodName)) ∈ lw_tbl := wt_5 _ (znw tables_1_5 81 _ rfl)
theorem wd_1043 : (Jvm.Cond.code ({ cls := "LotSales", name := "append", desc := "(C)V" } : Jvm.MethodName) prog_1_method_36_code (2 : Nat) (Option.none : Option Jvm.ClassFile.FieldType)) ∈ lw_tbl := wt_5 _ (znw tables_1_5 83 _ rfl)
theorem wd_1044 : (Jvm.Cond.stringRef "LotSales" (351 : Nat) "the buffer is full") ∈ lw_tbl := wt_5 _ (znw tables_1_5 84 _ rfl)
theorem wd_1045 : (Jvm.Cond.methodLink "LotSales" (353 : Nat) ({ cls := "LotSales$Text", name := "add", desc := "(C)V" } : Jvm.MethodName)) ∈ lw_tbl := wt_5 _ (znw tables_1_5 85 _ rfl)
theorem wd_1046 : (Jvm.Cond.instanceMethod ({ cls := "LotSales$Text", name := "add", desc := "(C)V" } : Jvm.MethodName)) ∈ lw_tbl := wt_5 _ (znw tables_1_5 86 _ rfl)
theorem wd_1048 : (Jvm.Cond.code ({ cls := "LotSales$Text", name := "add", desc := "(C)V" } : Jvm.MethodName) prog_8_method_2_code (2 : Nat) (Option.none : Option Jvm.ClassFile.FieldType)) ∈ lw_tbl := wt_5 _ (znw tables_1_5 88 _ rfl)
theorem wd_1049 : (Jvm.Cond.methodLink "LotSalesLaw" (263 : Nat) ({ cls := "LotSalesLaw", name := "read", desc := "(LLotSales;[J)I" } : Jvm.MethodName)) ∈ lw_tbl := wt_5 _ (znw tables_1_5 89 _ rfl)
theorem wd_1050 : (Jvm.Cond.static ({ cls := "LotSalesLaw", name := "read", desc := "(LLotSales;[J)I" } : Jvm.MethodName)) ∈ lw_tbl := wt_5 _ (znw tables_1_5 90 _ rfl)
theorem wd_1051 : (Jvm.Cond.codeWith ({ cls := "LotSalesLaw", name := "read", desc := "(LLotSales;[J)I" } : Jvm.MethodName) method_37_code (3 : Nat) (Option.some Jvm.ClassFile.FieldType.int) [((0 : Nat), (8 : Nat), (11 : Nat), (13 : Nat))]) ∈ lw_tbl := wt_5 _ (znw tables_1_5 91 _ rfl)
theorem wd_1052 : (Jvm.Cond.methodLink "LotSalesLaw" (131 : Nat) ({ cls := "LotSales", name := "read", desc := "()I" } : Jvm.MethodName)) ∈ lw_tbl := wt_5 _ (znw tables_1_5 92 _ rfl)
theorem wd_1053 : (Jvm.Cond.instanceMethod ({ cls := "LotSales", name := "read", desc := "()I" } : Jvm.MethodName)) ∈ lw_tbl := wt_5 _ (znw tables_1_5 93 _ rfl)
theorem wd_1055 : (Jvm.Cond.code ({ cls := "LotSales", name := "read", desc := "()I" } : Jvm.MethodName) prog_1_method_37_code (2 : Nat) (Option.some Jvm.ClassFile.FieldType.int)) ∈ lw_tbl := wt_5 _ (znw tables_1_5 95 _ rfl)
theorem wd_1056 : (Jvm.Cond.methodLink "LotSales" (357 : Nat) ({ cls := "LotSales$Text", name := "findFault", desc := "()I" } : Jvm.MethodName)) ∈ lw_tbl := wt_5 _ (znw tables_1_5 96 _ rfl)
theorem wd_1057 : (Jvm.Cond.instanceMethod ({ cls := "LotSales$Text", name := "findFault", desc := "()I" } : Jvm.MethodName)) ∈ lw_tbl := wt_5 _ (znw tables_1_5 97 _ rfl)
theorem wd_1059 : (Jvm.Cond.code ({ cls := "LotSales$Text", name := "findFault", desc := "()I" } : Jvm.MethodName) prog_8_method_4_code (2 : Nat) (Option.some Jvm.ClassFile.FieldType.int)) ∈ lw_tbl := wt_5 _ (znw tables_1_5 99 _ rfl)
theorem wd_1060 : (Jvm.Cond.methodLink "LotSales$Text" (26 : Nat) ({ cls := "LotSales$Text", name := "readCommand", desc := "()Z" } : Jvm.MethodName)) ∈ lw_tbl := wt_5 _ (znw tables_1_5 100 _ rfl)
theorem wd_1061 : (Jvm.Cond.instanceMethod ({ cls := "LotSales$Text", name := "readCommand", desc := "()Z" } : Jvm.MethodName)) ∈ lw_tbl := wt_5 _ (znw tables_1_5 101 _ rfl)
theorem wd_1063 : (Jvm.Cond.code ({ cls := "LotSales$Text", name := "readCommand", desc := "()Z" } : Jvm.MethodName) prog_8_method_6_code (3 : Nat) (Option.some Jvm.ClassFile.FieldType.boolean)) ∈ lw_tbl := wt_5 _ (znw tables_1_5 103 _ rfl)
theorem wd_1064 : (Jvm.Cond.methodLink "LotSales$Text" (37 : Nat) ({ cls := "LotSales$Text", name := "numbersBehind", desc := "(C)I" } : Jvm.MethodName)) ∈ lw_tbl := wt_5 _ (znw tables_1_5 104 _ rfl)
theorem wd_1065 : (Jvm.Cond.static ({ cls := "LotSales$Text", name := "numbersBehind", desc := "(C)I" } : Jvm.MethodName)) ∈ lw_tbl := wt_5 _ (znw tables_1_5 105 _ rfl)
theorem wd_1066 : (Jvm.Cond.code ({ cls := "LotSales$Text", name := "numbersBehind", desc := "(C)I" } : Jvm.MethodName) prog_8_method_9_code (1 : Nat) (Option.some Jvm.ClassFile.FieldType.int)) ∈ lw_tbl := wt_5 _ (znw tables_1_5 106 _ rfl)
theorem wd_1067 : (Jvm.Cond.methodLink "LotSales$Text" (33 : Nat) ({ cls := "LotSales$Text", name := "passes", desc := "(C)Z" } : Jvm.MethodName)) ∈ lw_tbl := wt_5 _ (znw tables_1_5 107 _ rfl)
theorem wd_1068 : (Jvm.Cond.instanceMethod ({ cls := "LotSales$Text", name := "passes", desc := "(C)Z" } : Jvm.MethodName)) ∈ lw_tbl := wt_5 _ (znw tables_1_5 108 _ rfl)
theorem wd_1070 : (Jvm.Cond.code ({ cls := "LotSales$Text", name := "passes", desc := "(C)Z" } : Jvm.MethodName) prog_8_method_8_code (2 : Nat) (Option.some Jvm.ClassFile.FieldType.boolean)) ∈ lw_tbl := wt_5 _ (znw tables_1_5 110 _ rfl)
theorem wd_1071 : (Jvm.Cond.methodLink "LotSales$Text" (45 : Nat) ({ cls := "LotSales$Text", name := "readNumber", desc := "(I)Z" } : Jvm.MethodName)) ∈ lw_tbl := wt_5 _ (znw tables_1_5 111 _ rfl)
theorem wd_1072 : (Jvm.Cond.instanceMethod ({ cls := "LotSales$Text", name := "readNumber", desc := "(I)Z" } : Jvm.MethodName)) ∈ lw_tbl := wt_5 _ (znw tables_1_5 112 _ rfl)
theorem wd_1074 : (Jvm.Cond.code ({ cls := "LotSales$Text", name := "readNumber", desc := "(I)Z" } : Jvm.MethodName) prog_8_method_7_code (4 : Nat) (Option.some Jvm.ClassFile.FieldType.boolean)) ∈ lw_tbl := wt_5 _ (znw tables_1_5 114 _ rfl)
theorem wd_1075 : (Jvm.Cond.methodLink "LotSales" (360 : Nat) ({ cls := "LotSales$Text", name := "empty", desc := "()V" } : Jvm.MethodName)) ∈ lw_tbl := wt_5 _ (znw tables_1_5 115 _ rfl)
theorem wd_1076 : (Jvm.Cond.instanceMethod ({ cls := "LotSales$Text", name := "empty", desc := "()V" } : Jvm.MethodName)) ∈ lw_tbl := wt_5 _ (znw tables_1_5 116 _ rfl)
theorem wd_1078 : (Jvm.Cond.code ({ cls := "LotSales$Text", name := "empty", desc := "()V" } : Jvm.MethodName) prog_8_method_3_code (1 : Nat) (Option.none : Option Jvm.ClassFile.FieldType)) ∈ lw_tbl := wt_5 _ (znw tables_1_5 118 _ rfl)
theorem wd_1079 : (Jvm.Cond.stringRef "LotSales" (363 : Nat) "the text has a fault") ∈ lw_tbl := wt_5 _ (znw tables_1_5 119 _ rfl)
theorem wd_1080 : (Jvm.Cond.methodLink "LotSales" (368 : Nat) ({ cls := "LotSales$Text", name := "readNext", desc := "(I)Z" } : Jvm.MethodName)) ∈ lw_tbl := wt_5 _ (znw tables_1_5 120 _ rfl)
theorem wd_1081 : (Jvm.Cond.instanceMethod ({ cls := "LotSales$Text", name := "readNext", desc := "(I)Z" } : Jvm.MethodName)) ∈ lw_tbl := wt_5 _ (znw tables_1_5 121 _ rfl)
theorem wd_1083 : (Jvm.Cond.code ({ cls := "LotSales$Text", name := "readNext", desc := "(I)Z" } : Jvm.MethodName) prog_8_method_5_code (2 : Nat) (Option.some Jvm.ClassFile.FieldType.boolean)) ∈ lw_tbl := wt_5 _ (znw tables_1_5 123 _ rfl)
theorem wd_1084 : (Jvm.Cond.methodLink "LotSales" (371 : Nat) ({ cls := "LotSales", name := "carryOut", desc := "()I" } : Jvm.MethodName)) ∈ lw_tbl := wt_5 _ (znw tables_1_5 124 _ rfl)
theorem wd_1086 : (Jvm.Cond.instanceMethod ({ cls := "LotSales", name := "carryOut", desc := "()I" } : Jvm.MethodName)) ∈ lw_tbl := wt_5 _ (znw tables_1_5 126 _ rfl)
theorem wd_1087 : (Jvm.Cond.code ({ cls := "LotSales", name := "carryOut", desc := "()I" } : Jvm.MethodName) prog_1_method_49_code (4 : Nat) (Option.some Jvm.ClassFile.FieldType.int)) ∈ lw_tbl := wt_5 _ (znw tables_1_5 127 _ rfl)
theorem wd_1088 : (Jvm.Cond.methodLink "LotSalesLaw" (270 : Nat) ({ cls := "LotSalesLaw", name := "undo", desc := "(LLotSales;[J)I" } : Jvm.MethodName)) ∈ lw_tbl := wt_5 _ (znw tables_1_5 128 _ rfl)
theorem wd_1089 : (Jvm.Cond.static ({ cls := "LotSalesLaw", name := "undo", desc := "(LLotSales;[J)I" } : Jvm.MethodName)) ∈ lw_tbl := wt_5 _ (znw tables_1_5 129 _ rfl)
theorem wd_1090 : (Jvm.Cond.codeWith ({ cls := "LotSalesLaw", name := "undo", desc := "(LLotSales;[J)I" } : Jvm.MethodName) method_38_code (3 : Nat) (Option.some Jvm.ClassFile.FieldType.int) [((0 : Nat), (8 : Nat), (11 : Nat), (15 : Nat))]) ∈ lw_tbl := wt_5 _ (znw tables_1_5 130 _ rfl)
theorem wd_1091 : (Jvm.Cond.methodLink "LotSalesLaw" (134 : Nat) ({ cls := "LotSales", name := "undo", desc := "()I" } : Jvm.MethodName)) ∈ lw_tbl := wt_5 _ (znw tables_1_5 131 _ rfl)
theorem wd_1092 : (Jvm.Cond.instanceMethod ({ cls := "LotSales", name := "undo", desc := "()I" } : Jvm.MethodName)) ∈ lw_tbl := wt_5 _ (znw tables_1_5 132 _ rfl)
theorem wd_1094 : (Jvm.Cond.code ({ cls := "LotSales", name := "undo", desc := "()I" } : Jvm.MethodName) prog_1_method_39_code (1 : Nat) (Option.some Jvm.ClassFile.FieldType.int)) ∈ lw_tbl := wt_5 _ (znw tables_1_5 134 _ rfl)
theorem wd_1095 : (Jvm.Cond.stringRef "LotSales" (375 : Nat) "no change is kept") ∈ lw_tbl := wt_5 _ (znw tables_1_5 135 _ rfl)
theorem wd_1096 : (Jvm.Cond.methodLink "LotSales" (377 : Nat) ({ cls := "LotSales$History", name := "giveBack", desc := "(LLotSales$Sale;)V" } : Jvm.MethodName)) ∈ lw_tbl := wt_5 _ (znw tables_1_5 136 _ rfl)
theorem wd_1097 : (Jvm.Cond.instanceMethod ({ cls := "LotSales$History", name := "giveBack", desc := "(LLotSales$Sale;)V" } : Jvm.MethodName)) ∈ lw_tbl := wt_5 _ (znw tables_1_5 137 _ rfl)
theorem wd_1099 : (Jvm.Cond.code ({ cls := "LotSales$History", name := "giveBack", desc := "(LLotSales$Sale;)V" } : Jvm.MethodName) prog_2_method_3_code (3 : Nat) (Option.none : Option Jvm.ClassFile.FieldType)) ∈ lw_tbl := wt_5 _ (znw tables_1_5 139 _ rfl)
theorem wd_1100 : (Jvm.Cond.methodLink "LotSalesLaw" (277 : Nat) ({ cls := "LotSalesLaw", name := "restore", desc := "(LLotSales;)I" } : Jvm.MethodName)) ∈ lw_tbl := wt_5 _ (znw tables_1_5 140 _ rfl)
theorem wd_1101 : (Jvm.Cond.static ({ cls := "LotSalesLaw", name := "restore", desc := "(LLotSales;)I" } : Jvm.MethodName)) ∈ lw_tbl := wt_5 _ (znw tables_1_5 141 _ rfl)
theorem wd_1102 : (Jvm.Cond.codeWith ({ cls := "LotSalesLaw", name := "restore", desc := "(LLotSales;)I" } : Jvm.MethodName) method_39_code (2 : Nat) (Option.some Jvm.ClassFile.FieldType.int) [((0 : Nat), (4 : Nat), (7 : Nat), (15 : Nat))]) ∈ lw_tbl := wt_5 _ (znw tables_1_5 142 _ rfl)
theorem wd_1103 : (Jvm.Cond.methodLink "LotSalesLaw" (137 : Nat) ({ cls := "LotSales", name := "restore", desc := "()V" } : Jvm.MethodName)) ∈ lw_tbl := wt_5 _ (znw tables_1_5 143 _ rfl)
theorem wd_1104 : (Jvm.Cond.instanceMethod ({ cls := "LotSales", name := "restore", desc := "()V" } : Jvm.MethodName)) ∈ lw_tbl := wt_5 _ (znw tables_1_5 144 _ rfl)
theorem wd_1106 : (Jvm.Cond.code ({ cls := "LotSales", name := "restore", desc := "()V" } : Jvm.MethodName) prog_1_method_41_code (1 : Nat) (Option.none : Option Jvm.ClassFile.FieldType)) ∈ lw_tbl := wt_5 _ (znw tables_1_5 146 _ rfl)
theorem wd_1107 : (Jvm.Cond.stringRef "LotSales" (386 : Nat) "nothing was saved") ∈ lw_tbl := wt_5 _ (znw tables_1_5 147 _ rfl)
theorem wd_1108 : (Jvm.Cond.methodLink "LotSales" (388 : Nat) ({ cls := "LotSales$History", name := "forget", desc := "()V" } : Jvm.MethodName)) ∈ lw_tbl := wt_5 _ (znw tables_1_5 148 _ rfl)
theorem wd_1109 : (Jvm.Cond.instanceMethod ({ cls := "LotSales$History", name := "forget", desc := "()V" } : Jvm.MethodName)) ∈ lw_tbl := wt_5 _ (znw tables_1_5 149 _ rfl)
theorem wd_1111 : (Jvm.Cond.code ({ cls := "LotSales$History", name := "forget", desc := "()V" } : Jvm.MethodName) prog_2_method_4_code (1 : Nat) (Option.none : Option Jvm.ClassFile.FieldType)) ∈ lw_tbl := wt_5 _ (znw tables_1_5 151 _ rfl)
theorem wd_1112 : (Jvm.Cond.methodLink "LotSalesLaw" (150 : Nat) ({ cls := "LotSalesModel", name := "thrown", desc := "()I" } : Jvm.MethodName)) ∈ lw_tbl := wt_5 _ (znw tables_1_5 152 _ rfl)
theorem wd_1113 : (Jvm.Cond.instanceMethod ({ cls := "LotSalesModel", name := "thrown", desc := "()I" } : Jvm.MethodName)) ∈ lw_tbl := wt_5 _ (znw tables_1_5 153 _ rfl)
theorem wd_1115 : (Jvm.Cond.code ({ cls := "LotSalesModel", name := "thrown", desc := "()I" } : Jvm.MethodName) prog_10_method_2_code (1 : Nat) (Option.some Jvm.ClassFile.FieldType.int)) ∈ lw_tbl := wt_5 _ (znw tables_1_5 155 _ rfl)
theorem wd_1116 : (Jvm.Cond.classLink "LotSalesLaw" (141 : Nat) "LotSalesModel") ∈ lw_tbl := wt_5 _ (znw tables_1_5 156 _ rfl)
theorem wd_1117 : (Jvm.Cond.instantiable "LotSalesModel" (18 : Nat)) ∈ lw_tbl := wt_5 _ (znw tables_1_5 157 _ rfl)
theorem wd_1118 : (Jvm.Cond.methodLink "LotSalesLaw" (143 : Nat) ({ cls := "LotSalesModel", name := "<init>", desc := "()V" } : Jvm.MethodName)) ∈ lw_tbl := wt_5 _ (znw tables_1_5 158 _ rfl)
theorem wd_1119 : (Jvm.Cond.instanceMethod ({ cls := "LotSalesModel", name := "<init>", desc := "()V" } : Jvm.MethodName)) ∈ lw_tbl := wt_5 _ (znw tables_1_5 159 _ rfl)
theorem wd_1120 : (Jvm.Cond.code ({ cls := "LotSalesModel", name := "<init>", desc := "()V" } : Jvm.MethodName) prog_10_method_4_code (2 : Nat) (Option.none : Option Jvm.ClassFile.FieldType)) ∈ lw_tbl := wt_5 _ (znw tables_1_5 160 _ rfl)
theorem wd_1121 : (Jvm.Cond.methodLink "LotSalesModel" (7 : Nat) ({ cls := "java/lang/Object", name := "<init>", desc := "()V" } : Jvm.MethodName)) ∈ lw_tbl := wt_5 _ (znw tables_1_5 161 _ rfl)
theorem wd_1122 : (Jvm.Cond.fieldLink "LotSalesModel" (1 : Nat) "LotSalesModel" "thrown" "I") ∈ lw_tbl := wt_5 _ (znw tables_1_5 162 _ rfl)
theorem wd_1123 : (Jvm.Cond.fieldLink "LotSalesModel" (13 : Nat) "LotSalesModel" "now" "[I") ∈ lw_tbl := wt_5 _ (znw tables_1_5 163 _ rfl)
theorem wd_1124 : (Jvm.Cond.fieldLink "LotSalesModel" (17 : Nat) "LotSalesModel" "past" "[I") ∈ lw_tbl := wt_5 _ (znw tables_1_5 164 _ rfl)
theorem wd_1125 : (Jvm.Cond.fieldLink "LotSalesModel" (33 : Nat) "LotSalesModel" "pastMany" "I") ∈ lw_tbl := wt_5 _ (znw tables_1_5 165 _ rfl)
theorem wd_1126 : (Jvm.Cond.fieldLink "LotSalesModel" (20 : Nat) "LotSalesModel" "saved" "[I") ∈ lw_tbl := wt_5 _ (znw tables_1_5 166 _ rfl)
theorem wd_1127 : (Jvm.Cond.fieldLink "LotSalesModel" (258 : Nat) "LotSalesModel" "isSaved" "Z") ∈ lw_tbl := wt_5 _ (znw tables_1_5 167 _ rfl)
theorem wd_1128 : (Jvm.Cond.fieldLink "LotSalesModel" (158 : Nat) "LotSalesModel" "reason" "I") ∈ lw_tbl := wt_5 _ (znw tables_1_5 168 _ rfl)
theorem wd_1129 : (Jvm.Cond.fieldLink "LotSalesModel" (119 : Nat) "LotSalesModel" "leader" "I") ∈ lw_tbl := wt_5 _ (znw tables_1_5 169 _ rfl)
theorem wd_1130 : (Jvm.Cond.fieldLink "LotSalesModel" (122 : Nat) "LotSalesModel" "leaderLimit" "I") ∈ lw_tbl := wt_5 _ (znw tables_1_5 170 _ rfl)
theorem wd_1131 : (Jvm.Cond.fieldLink "LotSalesModel" (125 : Nat) "LotSalesModel" "second" "I") ∈ lw_tbl := wt_5 _ (znw tables_1_5 171 _ rfl)
theorem wd_1132 : (Jvm.Cond.fieldLink "LotSalesModel" (128 : Nat) "LotSalesModel" "price" "I") ∈ lw_tbl := wt_5 _ (znw tables_1_5 172 _ rfl)
theorem wd_1133 : (Jvm.Cond.fieldLink "LotSalesModel" (23 : Nat) "LotSalesModel" "buffer" "[C") ∈ lw_tbl := wt_5 _ (znw tables_1_5 173 _ rfl)
theorem wd_1134 : (Jvm.Cond.fieldLink "LotSalesModel" (206 : Nat) "LotSalesModel" "fed" "I") ∈ lw_tbl := wt_5 _ (znw tables_1_5 174 _ rfl)
theorem wd_1135 : (Jvm.Cond.fieldLink "LotSalesModel" (212 : Nat) "LotSalesModel" "end" "I") ∈ lw_tbl := wt_5 _ (znw tables_1_5 175 _ rfl)
theorem wd_1136 : (Jvm.Cond.fieldLink "LotSalesModel" (209 : Nat) "LotSalesModel" "cursor" "I") ∈ lw_tbl := wt_5 _ (znw tables_1_5 176 _ rfl)
theorem wd_1137 : (Jvm.Cond.fieldLink "LotSalesModel" (27 : Nat) "LotSalesModel" "fault" "I") ∈ lw_tbl := wt_5 _ (znw tables_1_5 177 _ rfl)
theorem wd_1138 : (Jvm.Cond.fieldLink "LotSalesModel" (30 : Nat) "LotSalesModel" "commands" "[I") ∈ lw_tbl := wt_5 _ (znw tables_1_5 178 _ rfl)
theorem wd_1139 : (Jvm.Cond.fieldLink "LotSalesModel" (224 : Nat) "LotSalesModel" "commandMany" "I") ∈ lw_tbl := wt_5 _ (znw tables_1_5 179 _ rfl)
theorem wd_1177 : (Jvm.Cond.methodLink "LotSalesLaw" (149 : Nat) ({ cls := "LotSalesModel", name := "addLot", desc := "(III)I" } : Jvm.MethodName)) ∈ lw_tbl := wt_5 _ (znw tables_1_5 217 _ rfl)
theorem wd_1178 : (Jvm.Cond.instanceMethod ({ cls := "LotSalesModel", name := "addLot", desc := "(III)I" } : Jvm.MethodName)) ∈ lw_tbl := wt_5 _ (znw tables_1_5 218 _ rfl)
theorem wd_1180 : (Jvm.Cond.code ({ cls := "LotSalesModel", name := "addLot", desc := "(III)I" } : Jvm.MethodName) prog_10_method_19_code (4 : Nat) (Option.some Jvm.ClassFile.FieldType.int)) ∈ lw_tbl := wt_5 _ (znw tables_1_5 220 _ rfl)
theorem wd_1181 : (Jvm.Cond.methodLink "LotSalesModel" (36 : Nat) ({ cls := "LotSalesModel", name := "isIn", desc := "(III)Z" } : Jvm.MethodName)) ∈ lw_tbl := wt_5 _ (znw tables_1_5 221 _ rfl)
theorem wd_1182 : (Jvm.Cond.static ({ cls := "LotSalesModel", name := "isIn", desc := "(III)Z" } : Jvm.MethodName)) ∈ lw_tbl := wt_5 _ (znw tables_1_5 222 _ rfl)
theorem wd_1183 : (Jvm.Cond.code ({ cls := "LotSalesModel", name := "isIn", desc := "(III)Z" } : Jvm.MethodName) prog_10_method_1_code (3 : Nat) (Option.some Jvm.ClassFile.FieldType.boolean)) ∈ lw_tbl := wt_5 _ (znw tables_1_5 223 _ rfl)
theorem wd_1184 : (Jvm.Cond.constant "LotSalesModel" (59 : Nat) (90000 : Int32)) ∈ lw_tbl := wt_5 _ (znw tables_1_5 224 _ rfl)
theorem wd_1185 : (Jvm.Cond.methodLink "LotSalesModel" (60 : Nat) ({ cls := "LotSalesModel", name := "keep", desc := "()V" } : Jvm.MethodName)) ∈ lw_tbl := wt_5 _ (znw tables_1_5 225 _ rfl)
theorem wd_1187 : (Jvm.Cond.instanceMethod ({ cls := "LotSalesModel", name := "keep", desc := "()V" } : Jvm.MethodName)) ∈ lw_tbl := wt_5 _ (znw tables_1_5 227 _ rfl)
theorem wd_1188 : (Jvm.Cond.code ({ cls := "LotSalesModel", name := "keep", desc := "()V" } : Jvm.MethodName) prog_10_method_5_code (2 : Nat) (Option.none : Option Jvm.ClassFile.FieldType)) ∈ lw_tbl := wt_5 _ (znw tables_1_5 228 _ rfl)
theorem wd_1189 : (Jvm.Cond.methodLink "LotSalesModel" (63 : Nat) ({ cls := "LotSalesModel", name := "makeLot", desc := "(III)I" } : Jvm.MethodName)) ∈ lw_tbl := wt_5 _ (znw tables_1_5 229 _ rfl)
theorem wd_1191 : (Jvm.Cond.instanceMethod ({ cls := "LotSalesModel", name := "makeLot", desc := "(III)I" } : Jvm.MethodName)) ∈ lw_tbl := wt_5 _ (znw tables_1_5 231 _ rfl)
theorem wd_1192 : (Jvm.Cond.code ({ cls := "LotSalesModel", name := "makeLot", desc := "(III)I" } : Jvm.MethodName) prog_10_method_11_code (6 : Nat) (Option.some Jvm.ClassFile.FieldType.int)) ∈ lw_tbl := wt_5 _ (znw tables_1_5 232 _ rfl)
theorem wd_1193 : (Jvm.Cond.methodLink "LotSalesModel" (40 : Nat) ({ cls := "LotSalesModel", name := "set", desc := "(III)V" } : Jvm.MethodName)) ∈ lw_tbl := wt_5 _ (znw tables_1_5 233 _ rfl)
theorem wd_1195 : (Jvm.Cond.instanceMethod ({ cls := "LotSalesModel", name := "set", desc := "(III)V" } : Jvm.MethodName)) ∈ lw_tbl := wt_5 _ (znw tables_1_5 235 _ rfl)
theorem wd_1196 : (Jvm.Cond.code ({ cls := "LotSalesModel", name := "set", desc := "(III)V" } : Jvm.MethodName) prog_10_method_10_code (4 : Nat) (Option.none : Option Jvm.ClassFile.FieldType)) ∈ lw_tbl := wt_5 _ (znw tables_1_5 236 _ rfl)
theorem wd_1197 : (Jvm.Cond.methodLink "LotSalesModel" (44 : Nat) ({ cls := "LotSalesModel", name := "putOrder", desc := "(IIII)V" } : Jvm.MethodName)) ∈ lw_tbl := wt_5 _ (znw tables_1_5 237 _ rfl)
theorem wd_1199 : (Jvm.Cond.instanceMethod ({ cls := "LotSalesModel", name := "putOrder", desc := "(IIII)V" } : Jvm.MethodName)) ∈ lw_tbl := wt_5 _ (znw tables_1_5 239 _ rfl)
theorem wd_1200 : (Jvm.Cond.code ({ cls := "LotSalesModel", name := "putOrder", desc := "(IIII)V" } : Jvm.MethodName) prog_10_method_13_code (5 : Nat) (Option.none : Option Jvm.ClassFile.FieldType)) ∈ lw_tbl := wt_6 _ (znw tables_1_6 0 _ rfl)
theorem wd_1201 : (Jvm.Cond.methodLink "LotSalesModel" (48 : Nat) ({ cls := "LotSalesModel", name := "putBid", desc := "(IIII)V" } : Jvm.MethodName)) ∈ lw_tbl := wt_6 _ (znw tables_1_6 1 _ rfl)
theorem wd_1203 : (Jvm.Cond.instanceMethod ({ cls := "LotSalesModel", name := "putBid", desc := "(IIII)V" } : Jvm.MethodName)) ∈ lw_tbl := wt_6 _ (znw tables_1_6 3 _ rfl)
theorem wd_1204 : (Jvm.Cond.code ({ cls := "LotSalesModel", name := "putBid", desc := "(IIII)V" } : Jvm.MethodName) prog_10_method_14_code (5 : Nat) (Option.none : Option Jvm.ClassFile.FieldType)) ∈ lw_tbl := wt_6 _ (znw tables_1_6 4 _ rfl)
theorem wd_1205 : (Jvm.Cond.methodLink "LotSalesLaw" (156 : Nat) ({ cls := "LotSalesModel", name := "lot", desc := "(II)I" } : Jvm.MethodName)) ∈ lw_tbl := wt_6 _ (znw tables_1_6 5 _ rfl)
theorem wd_1206 : (Jvm.Cond.instanceMethod ({ cls := "LotSalesModel", name := "lot", desc := "(II)I" } : Jvm.MethodName)) ∈ lw_tbl := wt_6 _ (znw tables_1_6 6 _ rfl)
theorem wd_1208 : (Jvm.Cond.code ({ cls := "LotSalesModel", name := "lot", desc := "(II)I" } : Jvm.MethodName) prog_10_method_20_code (3 : Nat) (Option.some Jvm.ClassFile.FieldType.int)) ∈ lw_tbl := wt_6 _ (znw tables_1_6 8 _ rfl)
theorem wd_1209 : (Jvm.Cond.methodLink "LotSalesModel" (67 : Nat) ({ cls := "LotSalesModel", name := "isLot", desc := "(I)Z" } : Jvm.MethodName)) ∈ lw_tbl := wt_6 _ (znw tables_1_6 9 _ rfl)
theorem wd_1211 : (Jvm.Cond.instanceMethod ({ cls := "LotSalesModel", name := "isLot", desc := "(I)Z" } : Jvm.MethodName)) ∈ lw_tbl := wt_6 _ (znw tables_1_6 11 _ rfl)
theorem wd_1212 : (Jvm.Cond.code ({ cls := "LotSalesModel", name := "isLot", desc := "(I)Z" } : Jvm.MethodName) prog_10_method_7_code (2 : Nat) (Option.some Jvm.ClassFile.FieldType.boolean)) ∈ lw_tbl := wt_6 _ (znw tables_1_6 12 _ rfl)
theorem wd_1213 : (Jvm.Cond.methodLink "LotSalesModel" (71 : Nat) ({ cls := "LotSalesModel", name := "at", desc := "(II)I" } : Jvm.MethodName)) ∈ lw_tbl := wt_6 _ (znw tables_1_6 13 _ rfl)
theorem wd_1215 : (Jvm.Cond.instanceMethod ({ cls := "LotSalesModel", name := "at", desc := "(II)I" } : Jvm.MethodName)) ∈ lw_tbl := wt_6 _ (znw tables_1_6 15 _ rfl)
theorem wd_1216 : (Jvm.Cond.code ({ cls := "LotSalesModel", name := "at", desc := "(II)I" } : Jvm.MethodName) prog_10_method_9_code (3 : Nat) (Option.some Jvm.ClassFile.FieldType.int)) ∈ lw_tbl := wt_6 _ (znw tables_1_6 16 _ rfl)
theorem wd_1217 : (Jvm.Cond.methodLink "LotSalesLaw" (160 : Nat) ({ cls := "LotSalesModel", name := "lots", desc := "(I)I" } : Jvm.MethodName)) ∈ lw_tbl := wt_6 _ (znw tables_1_6 17 _ rfl)
theorem wd_1218 : (Jvm.Cond.instanceMethod ({ cls := "LotSalesModel", name := "lots", desc := "(I)I" } : Jvm.MethodName)) ∈ lw_tbl := wt_6 _ (znw tables_1_6 18 _ rfl)
theorem wd_1220 : (Jvm.Cond.code ({ cls := "LotSalesModel", name := "lots", desc := "(I)I" } : Jvm.MethodName) prog_10_method_21_code (4 : Nat) (Option.some Jvm.ClassFile.FieldType.int)) ∈ lw_tbl := wt_6 _ (znw tables_1_6 20 _ rfl)
theorem wd_1221 : (Jvm.Cond.methodLink "LotSalesModel" (74 : Nat) ({ cls := "LotSalesModel", name := "fail", desc := "(I)I" } : Jvm.MethodName)) ∈ lw_tbl := wt_6 _ (znw tables_1_6 21 _ rfl)
theorem wd_1223 : (Jvm.Cond.instanceMethod ({ cls := "LotSalesModel", name := "fail", desc := "(I)I" } : Jvm.MethodName)) ∈ lw_tbl := wt_6 _ (znw tables_1_6 23 _ rfl)
theorem wd_1224 : (Jvm.Cond.code ({ cls := "LotSalesModel", name := "fail", desc := "(I)I" } : Jvm.MethodName) prog_10_method_3_code (2 : Nat) (Option.some Jvm.ClassFile.FieldType.int)) ∈ lw_tbl := wt_6 _ (znw tables_1_6 24 _ rfl)
theorem wd_1225 : (Jvm.Cond.methodLink "LotSalesLaw" (163 : Nat) ({ cls := "LotSalesModel", name := "setRows", desc := "(III)I" } : Jvm.MethodName)) ∈ lw_tbl := wt_6 _ (znw tables_1_6 25 _ rfl)
theorem wd_1226 : (Jvm.Cond.instanceMethod ({ cls := "LotSalesModel", name := "setRows", desc := "(III)I" } : Jvm.MethodName)) ∈ lw_tbl := wt_6 _ (znw tables_1_6 26 _ rfl)
theorem wd_1228 : (Jvm.Cond.code ({ cls := "LotSalesModel", name := "setRows", desc := "(III)I" } : Jvm.MethodName) prog_10_method_27_code (5 : Nat) (Option.some Jvm.ClassFile.FieldType.int)) ∈ lw_tbl := wt_6 _ (znw tables_1_6 28 _ rfl)
theorem wd_1229 : (Jvm.Cond.methodLink "LotSalesModel" (84 : Nat) ({ cls := "LotSalesModel", name := "hasOpenLot", desc := "()Z" } : Jvm.MethodName)) ∈ lw_tbl := wt_6 _ (znw tables_1_6 29 _ rfl)
theorem wd_1231 : (Jvm.Cond.instanceMethod ({ cls := "LotSalesModel", name := "hasOpenLot", desc := "()Z" } : Jvm.MethodName)) ∈ lw_tbl := wt_6 _ (znw tables_1_6 31 _ rfl)
theorem wd_1232 : (Jvm.Cond.code ({ cls := "LotSalesModel", name := "hasOpenLot", desc := "()Z" } : Jvm.MethodName) prog_10_method_26_code (3 : Nat) (Option.some Jvm.ClassFile.FieldType.boolean)) ∈ lw_tbl := wt_6 _ (znw tables_1_6 32 _ rfl)
theorem wd_1233 : (Jvm.Cond.methodLink "LotSalesLaw" (166 : Nat) ({ cls := "LotSalesModel", name := "row", desc := "(II)I" } : Jvm.MethodName)) ∈ lw_tbl := wt_6 _ (znw tables_1_6 33 _ rfl)
theorem wd_1234 : (Jvm.Cond.instanceMethod ({ cls := "LotSalesModel", name := "row", desc := "(II)I" } : Jvm.MethodName)) ∈ lw_tbl := wt_6 _ (znw tables_1_6 34 _ rfl)
theorem wd_1236 : (Jvm.Cond.code ({ cls := "LotSalesModel", name := "row", desc := "(II)I" } : Jvm.MethodName) prog_10_method_28_code (3 : Nat) (Option.some Jvm.ClassFile.FieldType.int)) ∈ lw_tbl := wt_6 _ (znw tables_1_6 36 _ rfl)
theorem wd_1237 : (Jvm.Cond.methodLink "LotSalesLaw" (169 : Nat) ({ cls := "LotSalesModel", name := "step", desc := "(I)I" } : Jvm.MethodName)) ∈ lw_tbl := wt_6 _ (znw tables_1_6 37 _ rfl)
theorem wd_1238 : (Jvm.Cond.instanceMethod ({ cls := "LotSalesModel", name := "step", desc := "(I)I" } : Jvm.MethodName)) ∈ lw_tbl := wt_6 _ (znw tables_1_6 38 _ rfl)
theorem wd_1240 : (Jvm.Cond.code ({ cls := "LotSalesModel", name := "step", desc := "(I)I" } : Jvm.MethodName) prog_10_method_29_code (2 : Nat) (Option.some Jvm.ClassFile.FieldType.int)) ∈ lw_tbl := wt_6 _ (znw tables_1_6 40 _ rfl)
theorem wd_1241 : (Jvm.Cond.constant "LotSalesModel" (88 : Nat) (99999 : Int32)) ∈ lw_tbl := wt_6 _ (znw tables_1_6 41 _ rfl)
theorem wd_1242 : (Jvm.Cond.methodLink "LotSalesModel" (81 : Nat) ({ cls := "LotSalesModel", name := "stepBelow", desc := "(I)I" } : Jvm.MethodName)) ∈ lw_tbl := wt_6 _ (znw tables_1_6 42 _ rfl)
theorem wd_1244 : (Jvm.Cond.instanceMethod ({ cls := "LotSalesModel", name := "stepBelow", desc := "(I)I" } : Jvm.MethodName)) ∈ lw_tbl := wt_6 _ (znw tables_1_6 44 _ rfl)
theorem wd_1245 : (Jvm.Cond.code ({ cls := "LotSalesModel", name := "stepBelow", desc := "(I)I" } : Jvm.MethodName) prog_10_method_23_code (7 : Nat) (Option.some Jvm.ClassFile.FieldType.int)) ∈ lw_tbl := wt_6 _ (znw tables_1_6 45 _ rfl)
theorem wd_1246 : (Jvm.Cond.methodLink "LotSalesModel" (77 : Nat) ({ cls := "LotSalesModel", name := "rowOf", desc := "(I)I" } : Jvm.MethodName)) ∈ lw_tbl := wt_6 _ (znw tables_1_6 46 _ rfl)
theorem wd_1248 : (Jvm.Cond.instanceMethod ({ cls := "LotSalesModel", name := "rowOf", desc := "(I)I" } : Jvm.MethodName)) ∈ lw_tbl := wt_6 _ (znw tables_1_6 48 _ rfl)
theorem wd_1249 : (Jvm.Cond.code ({ cls := "LotSalesModel", name := "rowOf", desc := "(I)I" } : Jvm.MethodName) prog_10_method_22_code (4 : Nat) (Option.some Jvm.ClassFile.FieldType.int)) ∈ lw_tbl := wt_6 _ (znw tables_1_6 49 _ rfl)
theorem wd_1250 : (Jvm.Cond.constant "LotSalesModel" (80 : Nat) (300000 : Int32)) ∈ lw_tbl := wt_6 _ (znw tables_1_6 50 _ rfl)
theorem wd_1251 : (Jvm.Cond.methodLink "LotSalesLaw" (172 : Nat) ({ cls := "LotSalesModel", name := "nextStep", desc := "(I)I" } : Jvm.MethodName)) ∈ lw_tbl := wt_6 _ (znw tables_1_6 51 _ rfl)
theorem wd_1252 : (Jvm.Cond.instanceMethod ({ cls := "LotSalesModel", name := "nextStep", desc := "(I)I" } : Jvm.MethodName)) ∈ lw_tbl := wt_6 _ (znw tables_1_6 52 _ rfl)
theorem wd_1254 : (Jvm.Cond.code ({ cls := "LotSalesModel", name := "nextStep", desc := "(I)I" } : Jvm.MethodName) prog_10_method_30_code (2 : Nat) (Option.some Jvm.ClassFile.FieldType.int)) ∈ lw_tbl := wt_6 _ (znw tables_1_6 54 _ rfl)
theorem wd_1255 : (Jvm.Cond.methodLink "LotSalesModel" (89 : Nat) ({ cls := "LotSalesModel", name := "stepAbove", desc := "(I)I" } : Jvm.MethodName)) ∈ lw_tbl := wt_6 _ (znw tables_1_6 55 _ rfl)
theorem wd_1257 : (Jvm.Cond.instanceMethod ({ cls := "LotSalesModel", name := "stepAbove", desc := "(I)I" } : Jvm.MethodName)) ∈ lw_tbl := wt_6 _ (znw tables_1_6 57 _ rfl)
theorem wd_1258 : (Jvm.Cond.code ({ cls := "LotSalesModel", name := "stepAbove", desc := "(I)I" } : Jvm.MethodName) prog_10_method_24_code (3 : Nat) (Option.some Jvm.ClassFile.FieldType.int)) ∈ lw_tbl := wt_6 _ (znw tables_1_6 58 _ rfl)
theorem wd_1259 : (Jvm.Cond.methodLink "LotSalesLaw" (175 : Nat) ({ cls := "LotSalesModel", name := "setCredit", desc := "(II)I" } : Jvm.MethodName)) ∈ lw_tbl := wt_6 _ (znw tables_1_6 59 _ rfl)
theorem wd_1260 : (Jvm.Cond.instanceMethod ({ cls := "LotSalesModel", name := "setCredit", desc := "(II)I" } : Jvm.MethodName)) ∈ lw_tbl := wt_6 _ (znw tables_1_6 60 _ rfl)
theorem wd_1262 : (Jvm.Cond.code ({ cls := "LotSalesModel", name := "setCredit", desc := "(II)I" } : Jvm.MethodName) prog_10_method_31_code (4 : Nat) (Option.some Jvm.ClassFile.FieldType.int)) ∈ lw_tbl := wt_6 _ (znw tables_1_6 62 _ rfl)
theorem wd_1263 : (Jvm.Cond.methodLink "LotSalesModel" (92 : Nat) ({ cls := "LotSalesModel", name := "isBidder", desc := "(I)Z" } : Jvm.MethodName)) ∈ lw_tbl := wt_6 _ (znw tables_1_6 63 _ rfl)
theorem wd_1264 : (Jvm.Cond.static ({ cls := "LotSalesModel", name := "isBidder", desc := "(I)Z" } : Jvm.MethodName)) ∈ lw_tbl := wt_6 _ (znw tables_1_6 64 _ rfl)
theorem wd_1265 : (Jvm.Cond.code ({ cls := "LotSalesModel", name := "isBidder", desc := "(I)Z" } : Jvm.MethodName) prog_10_method_8_code (1 : Nat) (Option.some Jvm.ClassFile.FieldType.boolean)) ∈ lw_tbl := wt_6 _ (znw tables_1_6 65 _ rfl)
theorem wd_1266 : (Jvm.Cond.constant "LotSalesModel" (95 : Nat) (999999 : Int32)) ∈ lw_tbl := wt_6 _ (znw tables_1_6 66 _ rfl)
theorem wd_1267 : (Jvm.Cond.methodLink "LotSalesLaw" (178 : Nat) ({ cls := "LotSalesModel", name := "order", desc := "(III)I" } : Jvm.MethodName)) ∈ lw_tbl := wt_6 _ (znw tables_1_6 67 _ rfl)
theorem wd_1268 : (Jvm.Cond.instanceMethod ({ cls := "LotSalesModel", name := "order", desc := "(III)I" } : Jvm.MethodName)) ∈ lw_tbl := wt_6 _ (znw tables_1_6 68 _ rfl)
theorem wd_1270 : (Jvm.Cond.code ({ cls := "LotSalesModel", name := "order", desc := "(III)I" } : Jvm.MethodName) prog_10_method_45_code (5 : Nat) (Option.some Jvm.ClassFile.FieldType.int)) ∈ lw_tbl := wt_6 _ (znw tables_1_6 70 _ rfl)
theorem wd_1271 : (Jvm.Cond.methodLink "LotSalesModel" (155 : Nat) ({ cls := "LotSalesModel", name := "orderRefusal", desc := "(III)I" } : Jvm.MethodName)) ∈ lw_tbl := wt_6 _ (znw tables_1_6 71 _ rfl)
theorem wd_1273 : (Jvm.Cond.instanceMethod ({ cls := "LotSalesModel", name := "orderRefusal", desc := "(III)I" } : Jvm.MethodName)) ∈ lw_tbl := wt_6 _ (znw tables_1_6 73 _ rfl)
theorem wd_1274 : (Jvm.Cond.code ({ cls := "LotSalesModel", name := "orderRefusal", desc := "(III)I" } : Jvm.MethodName) prog_10_method_43_code (6 : Nat) (Option.some Jvm.ClassFile.FieldType.int)) ∈ lw_tbl := wt_6 _ (znw tables_1_6 74 _ rfl)
theorem wd_1275 : (Jvm.Cond.methodLink "LotSalesModel" (145 : Nat) ({ cls := "LotSalesModel", name := "allOrders", desc := "()I" } : Jvm.MethodName)) ∈ lw_tbl := wt_6 _ (znw tables_1_6 75 _ rfl)
theorem wd_1277 : (Jvm.Cond.instanceMethod ({ cls := "LotSalesModel", name := "allOrders", desc := "()I" } : Jvm.MethodName)) ∈ lw_tbl := wt_6 _ (znw tables_1_6 77 _ rfl)
theorem wd_1278 : (Jvm.Cond.code ({ cls := "LotSalesModel", name := "allOrders", desc := "()I" } : Jvm.MethodName) prog_10_method_17_code (3 : Nat) (Option.some Jvm.ClassFile.FieldType.int)) ∈ lw_tbl := wt_6 _ (znw tables_1_6 78 _ rfl)
theorem wd_1279 : (Jvm.Cond.methodLink "LotSalesModel" (55 : Nat) ({ cls := "LotSalesModel", name := "ordersOf", desc := "(I)I" } : Jvm.MethodName)) ∈ lw_tbl := wt_6 _ (znw tables_1_6 79 _ rfl)
theorem wd_1281 : (Jvm.Cond.instanceMethod ({ cls := "LotSalesModel", name := "ordersOf", desc := "(I)I" } : Jvm.MethodName)) ∈ lw_tbl := wt_6 _ (znw tables_1_6 81 _ rfl)
theorem wd_1282 : (Jvm.Cond.code ({ cls := "LotSalesModel", name := "ordersOf", desc := "(I)I" } : Jvm.MethodName) prog_10_method_16_code (4 : Nat) (Option.some Jvm.ClassFile.FieldType.int)) ∈ lw_tbl := wt_6 _ (znw tables_1_6 82 _ rfl)
theorem wd_1283 : (Jvm.Cond.methodLink "LotSalesModel" (51 : Nat) ({ cls := "LotSalesModel", name := "orderOf", desc := "(II)I" } : Jvm.MethodName)) ∈ lw_tbl := wt_6 _ (znw tables_1_6 83 _ rfl)
theorem wd_1285 : (Jvm.Cond.instanceMethod ({ cls := "LotSalesModel", name := "orderOf", desc := "(II)I" } : Jvm.MethodName)) ∈ lw_tbl := wt_6 _ (znw tables_1_6 85 _ rfl)
theorem wd_1286 : (Jvm.Cond.code ({ cls := "LotSalesModel", name := "orderOf", desc := "(II)I" } : Jvm.MethodName) prog_10_method_12_code (3 : Nat) (Option.some Jvm.ClassFile.FieldType.int)) ∈ lw_tbl := wt_6 _ (znw tables_1_6 86 _ rfl)
theorem wd_1287 : (Jvm.Cond.methodLink "LotSalesModel" (161 : Nat) ({ cls := "LotSalesModel", name := "nextNumber", desc := "()I" } : Jvm.MethodName)) ∈ lw_tbl := wt_6 _ (znw tables_1_6 87 _ rfl)
theorem wd_1289 : (Jvm.Cond.instanceMethod ({ cls := "LotSalesModel", name := "nextNumber", desc := "()I" } : Jvm.MethodName)) ∈ lw_tbl := wt_6 _ (znw tables_1_6 89 _ rfl)
theorem wd_1290 : (Jvm.Cond.code ({ cls := "LotSalesModel", name := "nextNumber", desc := "()I" } : Jvm.MethodName) prog_10_method_15_code (1 : Nat) (Option.some Jvm.ClassFile.FieldType.int)) ∈ lw_tbl := wt_6 _ (znw tables_1_6 90 _ rfl)
theorem wd_1291 : (Jvm.Cond.methodLink "LotSalesModel" (164 : Nat) ({ cls := "LotSalesModel", name := "note", desc := "(IIII)V" } : Jvm.MethodName)) ∈ lw_tbl := wt_6 _ (znw tables_1_6 91 _ rfl)
theorem wd_1293 : (Jvm.Cond.instanceMethod ({ cls := "LotSalesModel", name := "note", desc := "(IIII)V" } : Jvm.MethodName)) ∈ lw_tbl := wt_6 _ (znw tables_1_6 93 _ rfl)
theorem wd_1294 : (Jvm.Cond.code ({ cls := "LotSalesModel", name := "note", desc := "(IIII)V" } : Jvm.MethodName) prog_10_method_6_code (6 : Nat) (Option.none : Option Jvm.ClassFile.FieldType)) ∈ lw_tbl := wt_6 _ (znw tables_1_6 94 _ rfl)
theorem wd_1295 : (Jvm.Cond.methodLink "LotSalesLaw" (181 : Nat) ({ cls := "LotSalesModel", name := "cancel", desc := "(II)I" } : Jvm.MethodName)) ∈ lw_tbl := wt_6 _ (znw tables_1_6 95 _ rfl)
theorem wd_1296 : (Jvm.Cond.instanceMethod ({ cls := "LotSalesModel", name := "cancel", desc := "(II)I" } : Jvm.MethodName)) ∈ lw_tbl := wt_6 _ (znw tables_1_6 96 _ rfl)
theorem wd_1298 : (Jvm.Cond.code ({ cls := "LotSalesModel", name := "cancel", desc := "(II)I" } : Jvm.MethodName) prog_10_method_46_code (4 : Nat) (Option.some Jvm.ClassFile.FieldType.int)) ∈ lw_tbl := wt_6 _ (znw tables_1_6 98 _ rfl)
theorem wd_1299 : (Jvm.Cond.methodLink "LotSalesLaw" (184 : Nat) ({ cls := "LotSalesModel", name := "maximum", desc := "(II)I" } : Jvm.MethodName)) ∈ lw_tbl := wt_6 _ (znw tables_1_6 99 _ rfl)
theorem wd_1300 : (Jvm.Cond.instanceMethod ({ cls := "LotSalesModel", name := "maximum", desc := "(II)I" } : Jvm.MethodName)) ∈ lw_tbl := wt_6 _ (znw tables_1_6 100 _ rfl)
theorem wd_1302 : (Jvm.Cond.code ({ cls := "LotSalesModel", name := "maximum", desc := "(II)I" } : Jvm.MethodName) prog_10_method_47_code (3 : Nat) (Option.some Jvm.ClassFile.FieldType.int)) ∈ lw_tbl := wt_6 _ (znw tables_1_6 102 _ rfl)
theorem wd_1303 : (Jvm.Cond.methodLink "LotSalesLaw" (187 : Nat) ({ cls := "LotSalesModel", name := "orders", desc := "(I)I" } : Jvm.MethodName)) ∈ lw_tbl := wt_6 _ (znw tables_1_6 103 _ rfl)
theorem wd_1304 : (Jvm.Cond.instanceMethod ({ cls := "LotSalesModel", name := "orders", desc := "(I)I" } : Jvm.MethodName)) ∈ lw_tbl := wt_6 _ (znw tables_1_6 104 _ rfl)
theorem wd_1306 : (Jvm.Cond.code ({ cls := "LotSalesModel", name := "orders", desc := "(I)I" } : Jvm.MethodName) prog_10_method_48_code (2 : Nat) (Option.some Jvm.ClassFile.FieldType.int)) ∈ lw_tbl := wt_6 _ (znw tables_1_6 106 _ rfl)
theorem wd_1307 : (Jvm.Cond.methodLink "LotSalesLaw" (190 : Nat) ({ cls := "LotSalesModel", name := "open", desc := "(I)I" } : Jvm.MethodName)) ∈ lw_tbl := wt_6 _ (znw tables_1_6 107 _ rfl)
theorem wd_1308 : (Jvm.Cond.instanceMethod ({ cls := "LotSalesModel", name := "open", desc := "(I)I" } : Jvm.MethodName)) ∈ lw_tbl := wt_6 _ (znw tables_1_6 108 _ rfl)
theorem wd_1310 : (Jvm.Cond.code ({ cls := "LotSalesModel", name := "open", desc := "(I)I" } : Jvm.MethodName) prog_10_method_49_code (3 : Nat) (Option.some Jvm.ClassFile.FieldType.int)) ∈ lw_tbl := wt_6 _ (znw tables_1_6 110 _ rfl)
theorem wd_1311 : (Jvm.Cond.methodLink "LotSalesModel" (131 : Nat) ({ cls := "LotSalesModel", name := "stand", desc := "(I)V" } : Jvm.MethodName)) ∈ lw_tbl := wt_6 _ (znw tables_1_6 111 _ rfl)
theorem wd_1313 : (Jvm.Cond.instanceMethod ({ cls := "LotSalesModel", name := "stand", desc := "(I)V" } : Jvm.MethodName)) ∈ lw_tbl := wt_6 _ (znw tables_1_6 113 _ rfl)
theorem wd_1314 : (Jvm.Cond.code ({ cls := "LotSalesModel", name := "stand", desc := "(I)V" } : Jvm.MethodName) prog_10_method_37_code (7 : Nat) (Option.none : Option Jvm.ClassFile.FieldType)) ∈ lw_tbl := wt_6 _ (znw tables_1_6 114 _ rfl)
theorem wd_1315 : (Jvm.Cond.methodLink "LotSalesModel" (113 : Nat) ({ cls := "LotSalesModel", name := "houseLimit", desc := "(I)I" } : Jvm.MethodName)) ∈ lw_tbl := wt_6 _ (znw tables_1_6 115 _ rfl)
theorem wd_1317 : (Jvm.Cond.instanceMethod ({ cls := "LotSalesModel", name := "houseLimit", desc := "(I)I" } : Jvm.MethodName)) ∈ lw_tbl := wt_6 _ (znw tables_1_6 117 _ rfl)
theorem wd_1318 : (Jvm.Cond.code ({ cls := "LotSalesModel", name := "houseLimit", desc := "(I)I" } : Jvm.MethodName) prog_10_method_34_code (2 : Nat) (Option.some Jvm.ClassFile.FieldType.int)) ∈ lw_tbl := wt_6 _ (znw tables_1_6 118 _ rfl)
theorem wd_1319 : (Jvm.Cond.methodLink "LotSalesModel" (116 : Nat) ({ cls := "LotSalesModel", name := "ranked", desc := "(II)I" } : Jvm.MethodName)) ∈ lw_tbl := wt_6 _ (znw tables_1_6 119 _ rfl)
theorem wd_1321 : (Jvm.Cond.instanceMethod ({ cls := "LotSalesModel", name := "ranked", desc := "(II)I" } : Jvm.MethodName)) ∈ lw_tbl := wt_6 _ (znw tables_1_6 121 _ rfl)
theorem wd_1322 : (Jvm.Cond.code ({ cls := "LotSalesModel", name := "ranked", desc := "(II)I" } : Jvm.MethodName) prog_10_method_36_code (6 : Nat) (Option.some Jvm.ClassFile.FieldType.int)) ∈ lw_tbl := wt_6 _ (znw tables_1_6 122 _ rfl)
theorem wd_1323 : (Jvm.Cond.methodLink "LotSalesModel" (101 : Nat) ({ cls := "LotSalesModel", name := "limitOf", desc := "(II)I" } : Jvm.MethodName)) ∈ lw_tbl := wt_6 _ (znw tables_1_6 123 _ rfl)
theorem wd_1325 : (Jvm.Cond.instanceMethod ({ cls := "LotSalesModel", name := "limitOf", desc := "(II)I" } : Jvm.MethodName)) ∈ lw_tbl := wt_6 _ (znw tables_1_6 125 _ rfl)
theorem wd_1326 : (Jvm.Cond.code ({ cls := "LotSalesModel", name := "limitOf", desc := "(II)I" } : Jvm.MethodName) prog_10_method_32_code (5 : Nat) (Option.some Jvm.ClassFile.FieldType.int)) ∈ lw_tbl := wt_6 _ (znw tables_1_6 126 _ rfl)
theorem wd_1327 : (Jvm.Cond.methodLink "LotSalesModel" (96 : Nat) ({ cls := "java/lang/Math", name := "max", desc := "(II)I" } : Jvm.MethodName)) ∈ lw_tbl := wt_6 _ (znw tables_1_6 127 _ rfl)
theorem wd_1328 : (Jvm.Cond.methodLink "LotSalesModel" (110 : Nat) ({ cls := "LotSalesModel", name := "isAhead", desc := "(III)Z" } : Jvm.MethodName)) ∈ lw_tbl := wt_6 _ (znw tables_1_6 128 _ rfl)
theorem wd_1330 : (Jvm.Cond.instanceMethod ({ cls := "LotSalesModel", name := "isAhead", desc := "(III)Z" } : Jvm.MethodName)) ∈ lw_tbl := wt_6 _ (znw tables_1_6 130 _ rfl)
theorem wd_1331 : (Jvm.Cond.code ({ cls := "LotSalesModel", name := "isAhead", desc := "(III)Z" } : Jvm.MethodName) prog_10_method_35_code (6 : Nat) (Option.some Jvm.ClassFile.FieldType.boolean)) ∈ lw_tbl := wt_6 _ (znw tables_1_6 131 _ rfl)
theorem wd_1332 : (Jvm.Cond.methodLink "LotSalesModel" (107 : Nat) ({ cls := "LotSalesModel", name := "timeOf", desc := "(II)I" } : Jvm.MethodName)) ∈ lw_tbl := wt_6 _ (znw tables_1_6 132 _ rfl)
theorem wd_1334 : (Jvm.Cond.instanceMethod ({ cls := "LotSalesModel", name := "timeOf", desc := "(II)I" } : Jvm.MethodName)) ∈ lw_tbl := wt_6 _ (znw tables_1_6 134 _ rfl)
theorem wd_1335 : (Jvm.Cond.code ({ cls := "LotSalesModel", name := "timeOf", desc := "(II)I" } : Jvm.MethodName) prog_10_method_33_code (7 : Nat) (Option.some Jvm.ClassFile.FieldType.int)) ∈ lw_tbl := wt_6 _ (znw tables_1_6 135 _ rfl)
theorem wd_1336 : (Jvm.Cond.methodLink "LotSalesModel" (104 : Nat) ({ cls := "java/lang/Math", name := "min", desc := "(II)I" } : Jvm.MethodName)) ∈ lw_tbl := wt_6 _ (znw tables_1_6 136 _ rfl)
theorem wd_1337 : (Jvm.Cond.methodLink "LotSalesLaw" (193 : Nat) ({ cls := "LotSalesModel", name := "bid", desc := "(III)I" } : Jvm.MethodName)) ∈ lw_tbl := wt_6 _ (znw tables_1_6 137 _ rfl)
theorem wd_1338 : (Jvm.Cond.instanceMethod ({ cls := "LotSalesModel", name := "bid", desc := "(III)I" } : Jvm.MethodName)) ∈ lw_tbl := wt_6 _ (znw tables_1_6 138 _ rfl)
theorem wd_1340 : (Jvm.Cond.code ({ cls := "LotSalesModel", name := "bid", desc := "(III)I" } : Jvm.MethodName) prog_10_method_50_code (5 : Nat) (Option.some Jvm.ClassFile.FieldType.int)) ∈ lw_tbl := wt_6 _ (znw tables_1_6 140 _ rfl)
theorem wd_1341 : (Jvm.Cond.methodLink "LotSalesModel" (167 : Nat) ({ cls := "LotSalesModel", name := "bidRefusal", desc := "(III)I" } : Jvm.MethodName)) ∈ lw_tbl := wt_6 _ (znw tables_1_6 141 _ rfl)
theorem wd_1343 : (Jvm.Cond.instanceMethod ({ cls := "LotSalesModel", name := "bidRefusal", desc := "(III)I" } : Jvm.MethodName)) ∈ lw_tbl := wt_6 _ (znw tables_1_6 143 _ rfl)
theorem wd_1344 : (Jvm.Cond.code ({ cls := "LotSalesModel", name := "bidRefusal", desc := "(III)I" } : Jvm.MethodName) prog_10_method_44_code (4 : Nat) (Option.some Jvm.ClassFile.FieldType.int)) ∈ lw_tbl := wt_6 _ (znw tables_1_6 144 _ rfl)
theorem wd_1345 : (Jvm.Cond.methodLink "LotSalesModel" (141 : Nat) ({ cls := "LotSalesModel", name := "isLeading", desc := "(II)Z" } : Jvm.MethodName)) ∈ lw_tbl := wt_6 _ (znw tables_1_6 145 _ rfl)
theorem wd_1347 : (Jvm.Cond.instanceMethod ({ cls := "LotSalesModel", name := "isLeading", desc := "(II)Z" } : Jvm.MethodName)) ∈ lw_tbl := wt_6 _ (znw tables_1_6 147 _ rfl)
theorem wd_1348 : (Jvm.Cond.code ({ cls := "LotSalesModel", name := "isLeading", desc := "(II)Z" } : Jvm.MethodName) prog_10_method_40_code (3 : Nat) (Option.some Jvm.ClassFile.FieldType.boolean)) ∈ lw_tbl := wt_6 _ (znw tables_1_6 148 _ rfl)
theorem wd_1349 : (Jvm.Cond.methodLink "LotSalesModel" (149 : Nat) ({ cls := "LotSalesModel", name := "isStep", desc := "(I)Z" } : Jvm.MethodName)) ∈ lw_tbl := wt_6 _ (znw tables_1_6 149 _ rfl)
theorem wd_1351 : (Jvm.Cond.instanceMethod ({ cls := "LotSalesModel", name := "isStep", desc := "(I)Z" } : Jvm.MethodName)) ∈ lw_tbl := wt_6 _ (znw tables_1_6 151 _ rfl)
theorem wd_1352 : (Jvm.Cond.code ({ cls := "LotSalesModel", name := "isStep", desc := "(I)Z" } : Jvm.MethodName) prog_10_method_25_code (2 : Nat) (Option.some Jvm.ClassFile.FieldType.boolean)) ∈ lw_tbl := wt_6 _ (znw tables_1_6 152 _ rfl)
theorem wd_1353 : (Jvm.Cond.methodLink "LotSalesModel" (152 : Nat) ({ cls := "LotSalesModel", name := "exposureOf", desc := "(I)I" } : Jvm.MethodName)) ∈ lw_tbl := wt_6 _ (znw tables_1_6 153 _ rfl)
theorem wd_1355 : (Jvm.Cond.instanceMethod ({ cls := "LotSalesModel", name := "exposureOf", desc := "(I)I" } : Jvm.MethodName)) ∈ lw_tbl := wt_6 _ (znw tables_1_6 155 _ rfl)
theorem wd_1356 : (Jvm.Cond.code ({ cls := "LotSalesModel", name := "exposureOf", desc := "(I)I" } : Jvm.MethodName) prog_10_method_42_code (4 : Nat) (Option.some Jvm.ClassFile.FieldType.int)) ∈ lw_tbl := wt_6 _ (znw tables_1_6 156 _ rfl)
theorem wd_1357 : (Jvm.Cond.methodLink "LotSalesModel" (138 : Nat) ({ cls := "LotSalesModel", name := "boughtBy", desc := "(II)I" } : Jvm.MethodName)) ∈ lw_tbl := wt_6 _ (znw tables_1_6 157 _ rfl)
theorem wd_1359 : (Jvm.Cond.instanceMethod ({ cls := "LotSalesModel", name := "boughtBy", desc := "(II)I" } : Jvm.MethodName)) ∈ lw_tbl := wt_6 _ (znw tables_1_6 159 _ rfl)
theorem wd_1360 : (Jvm.Cond.code ({ cls := "LotSalesModel", name := "boughtBy", desc := "(II)I" } : Jvm.MethodName) prog_10_method_41_code (6 : Nat) (Option.some Jvm.ClassFile.FieldType.int)) ∈ lw_tbl := wt_6 _ (znw tables_1_6 160 _ rfl)
theorem wd_1361 : (Jvm.Cond.methodLink "LotSalesModel" (135 : Nat) ({ cls := "LotSalesModel", name := "premiumOf", desc := "(I)I" } : Jvm.MethodName)) ∈ lw_tbl := wt_6 _ (znw tables_1_6 161 _ rfl)
theorem wd_1362 : (Jvm.Cond.static ({ cls := "LotSalesModel", name := "premiumOf", desc := "(I)I" } : Jvm.MethodName)) ∈ lw_tbl := wt_6 _ (znw tables_1_6 162 _ rfl)
theorem wd_1363 : (Jvm.Cond.code ({ cls := "LotSalesModel", name := "premiumOf", desc := "(I)I" } : Jvm.MethodName) prog_10_method_66_code (4 : Nat) (Option.some Jvm.ClassFile.FieldType.int)) ∈ lw_tbl := wt_6 _ (znw tables_1_6 163 _ rfl)
theorem wd_1364 : (Jvm.Cond.methodLink "LotSalesLaw" (197 : Nat) ({ cls := "LotSalesModel", name := "refusal", desc := "()I" } : Jvm.MethodName)) ∈ lw_tbl := wt_6 _ (znw tables_1_6 164 _ rfl)
theorem wd_1365 : (Jvm.Cond.instanceMethod ({ cls := "LotSalesModel", name := "refusal", desc := "()I" } : Jvm.MethodName)) ∈ lw_tbl := wt_6 _ (znw tables_1_6 165 _ rfl)
theorem wd_1367 : (Jvm.Cond.code ({ cls := "LotSalesModel", name := "refusal", desc := "()I" } : Jvm.MethodName) prog_10_method_51_code (1 : Nat) (Option.some Jvm.ClassFile.FieldType.int)) ∈ lw_tbl := wt_6 _ (znw tables_1_6 167 _ rfl)
theorem wd_1368 : (Jvm.Cond.methodLink "LotSalesLaw" (201 : Nat) ({ cls := "LotSalesModel", name := "wouldRefuse", desc := "(ZIII)I" } : Jvm.MethodName)) ∈ lw_tbl := wt_6 _ (znw tables_1_6 168 _ rfl)
theorem wd_1369 : (Jvm.Cond.instanceMethod ({ cls := "LotSalesModel", name := "wouldRefuse", desc := "(ZIII)I" } : Jvm.MethodName)) ∈ lw_tbl := wt_6 _ (znw tables_1_6 169 _ rfl)
theorem wd_1371 : (Jvm.Cond.code ({ cls := "LotSalesModel", name := "wouldRefuse", desc := "(ZIII)I" } : Jvm.MethodName) prog_10_method_52_code (5 : Nat) (Option.some Jvm.ClassFile.FieldType.int)) ∈ lw_tbl := wt_6 _ (znw tables_1_6 171 _ rfl)
theorem wd_1372 : (Jvm.Cond.methodLink "LotSalesLaw" (204 : Nat) ({ cls := "LotSalesModel", name := "standing", desc := "(II)I" } : Jvm.MethodName)) ∈ lw_tbl := wt_6 _ (znw tables_1_6 172 _ rfl)
theorem wd_1373 : (Jvm.Cond.instanceMethod ({ cls := "LotSalesModel", name := "standing", desc := "(II)I" } : Jvm.MethodName)) ∈ lw_tbl := wt_6 _ (znw tables_1_6 173 _ rfl)
theorem wd_1375 : (Jvm.Cond.code ({ cls := "LotSalesModel", name := "standing", desc := "(II)I" } : Jvm.MethodName) prog_10_method_53_code (3 : Nat) (Option.some Jvm.ClassFile.FieldType.int)) ∈ lw_tbl := wt_6 _ (znw tables_1_6 175 _ rfl)
theorem wd_1376 : (Jvm.Cond.methodLink "LotSalesModel" (170 : Nat) ({ cls := "LotSalesModel", name := "isMet", desc := "(I)Z" } : Jvm.MethodName)) ∈ lw_tbl := wt_6 _ (znw tables_1_6 176 _ rfl)
theorem wd_1378 : (Jvm.Cond.instanceMethod ({ cls := "LotSalesModel", name := "isMet", desc := "(I)Z" } : Jvm.MethodName)) ∈ lw_tbl := wt_6 _ (znw tables_1_6 178 _ rfl)
theorem wd_1379 : (Jvm.Cond.code ({ cls := "LotSalesModel", name := "isMet", desc := "(I)Z" } : Jvm.MethodName) prog_10_method_38_code (2 : Nat) (Option.some Jvm.ClassFile.FieldType.boolean)) ∈ lw_tbl := wt_6 _ (znw tables_1_6 179 _ rfl)
theorem wd_1380 : (Jvm.Cond.methodLink "LotSalesModel" (173 : Nat) ({ cls := "LotSalesModel", name := "countingLimits", desc := "(I)I" } : Jvm.MethodName)) ∈ lw_tbl := wt_6 _ (znw tables_1_6 180 _ rfl)
theorem wd_1382 : (Jvm.Cond.instanceMethod ({ cls := "LotSalesModel", name := "countingLimits", desc := "(I)I" } : Jvm.MethodName)) ∈ lw_tbl := wt_6 _ (znw tables_1_6 182 _ rfl)
theorem wd_1383 : (Jvm.Cond.code ({ cls := "LotSalesModel", name := "countingLimits", desc := "(I)I" } : Jvm.MethodName) prog_10_method_39_code (4 : Nat) (Option.some Jvm.ClassFile.FieldType.int)) ∈ lw_tbl := wt_6 _ (znw tables_1_6 183 _ rfl)
theorem wd_1384 : (Jvm.Cond.methodLink "LotSalesLaw" (207 : Nat) ({ cls := "LotSalesModel", name := "limit", desc := "(III)I" } : Jvm.MethodName)) ∈ lw_tbl := wt_6 _ (znw tables_1_6 184 _ rfl)
theorem wd_1385 : (Jvm.Cond.instanceMethod ({ cls := "LotSalesModel", name := "limit", desc := "(III)I" } : Jvm.MethodName)) ∈ lw_tbl := wt_6 _ (znw tables_1_6 185 _ rfl)
theorem wd_1387 : (Jvm.Cond.code ({ cls := "LotSalesModel", name := "limit", desc := "(III)I" } : Jvm.MethodName) prog_10_method_54_code (5 : Nat) (Option.some Jvm.ClassFile.FieldType.int)) ∈ lw_tbl := wt_6 _ (znw tables_1_6 187 _ rfl)
theorem wd_1388 : (Jvm.Cond.methodLink "LotSalesLaw" (210 : Nat) ({ cls := "LotSalesModel", name := "priceIf", desc := "(III)I" } : Jvm.MethodName)) ∈ lw_tbl := wt_6 _ (znw tables_1_6 188 _ rfl)
theorem wd_1389 : (Jvm.Cond.instanceMethod ({ cls := "LotSalesModel", name := "priceIf", desc := "(III)I" } : Jvm.MethodName)) ∈ lw_tbl := wt_6 _ (znw tables_1_6 189 _ rfl)
theorem wd_1391 : (Jvm.Cond.code ({ cls := "LotSalesModel", name := "priceIf", desc := "(III)I" } : Jvm.MethodName) prog_10_method_55_code (8 : Nat) (Option.some Jvm.ClassFile.FieldType.int)) ∈ lw_tbl := wt_6 _ (znw tables_1_6 191 _ rfl)
theorem wd_1392 : (Jvm.Cond.methodLink "LotSalesLaw" (213 : Nat) ({ cls := "LotSalesModel", name := "close", desc := "(I)I" } : Jvm.MethodName)) ∈ lw_tbl := wt_6 _ (znw tables_1_6 192 _ rfl)
theorem wd_1393 : (Jvm.Cond.instanceMethod ({ cls := "LotSalesModel", name := "close", desc := "(I)I" } : Jvm.MethodName)) ∈ lw_tbl := wt_6 _ (znw tables_1_6 193 _ rfl)
theorem wd_1395 : (Jvm.Cond.code ({ cls := "LotSalesModel", name := "close", desc := "(I)I" } : Jvm.MethodName) prog_10_method_56_code (4 : Nat) (Option.some Jvm.ClassFile.FieldType.int)) ∈ lw_tbl := wt_6 _ (znw tables_1_6 195 _ rfl)
theorem wd_1396 : (Jvm.Cond.methodLink "LotSalesModel" (176 : Nat) ({ cls := "LotSalesModel", name := "removeOrders", desc := "(I)I" } : Jvm.MethodName)) ∈ lw_tbl := wt_6 _ (znw tables_1_6 196 _ rfl)
theorem wd_1398 : (Jvm.Cond.instanceMethod ({ cls := "LotSalesModel", name := "removeOrders", desc := "(I)I" } : Jvm.MethodName)) ∈ lw_tbl := wt_6 _ (znw tables_1_6 198 _ rfl)
theorem wd_1399 : (Jvm.Cond.code ({ cls := "LotSalesModel", name := "removeOrders", desc := "(I)I" } : Jvm.MethodName) prog_10_method_18_code (4 : Nat) (Option.some Jvm.ClassFile.FieldType.int)) ∈ lw_tbl := wt_6 _ (znw tables_1_6 199 _ rfl)
theorem wd_1400 : (Jvm.Cond.methodLink "LotSalesLaw" (216 : Nat) ({ cls := "LotSalesModel", name := "withdraw", desc := "(I)I" } : Jvm.MethodName)) ∈ lw_tbl := wt_6 _ (znw tables_1_6 200 _ rfl)
theorem wd_1401 : (Jvm.Cond.instanceMethod ({ cls := "LotSalesModel", name := "withdraw", desc := "(I)I" } : Jvm.MethodName)) ∈ lw_tbl := wt_6 _ (znw tables_1_6 201 _ rfl)
theorem wd_1403 : (Jvm.Cond.code ({ cls := "LotSalesModel", name := "withdraw", desc := "(I)I" } : Jvm.MethodName) prog_10_method_57_code (2 : Nat) (Option.some Jvm.ClassFile.FieldType.int)) ∈ lw_tbl := wt_6 _ (znw tables_1_6 203 _ rfl)
theorem wd_1404 : (Jvm.Cond.methodLink "LotSalesLaw" (219 : Nat) ({ cls := "LotSalesModel", name := "offer", desc := "(II)I" } : Jvm.MethodName)) ∈ lw_tbl := wt_6 _ (znw tables_1_6 204 _ rfl)
theorem wd_1405 : (Jvm.Cond.instanceMethod ({ cls := "LotSalesModel", name := "offer", desc := "(II)I" } : Jvm.MethodName)) ∈ lw_tbl := wt_6 _ (znw tables_1_6 205 _ rfl)
theorem wd_1407 : (Jvm.Cond.code ({ cls := "LotSalesModel", name := "offer", desc := "(II)I" } : Jvm.MethodName) prog_10_method_58_code (4 : Nat) (Option.some Jvm.ClassFile.FieldType.int)) ∈ lw_tbl := wt_6 _ (znw tables_1_6 207 _ rfl)
theorem wd_1408 : (Jvm.Cond.methodLink "LotSalesLaw" (222 : Nat) ({ cls := "LotSalesModel", name := "split", desc := "(II)I" } : Jvm.MethodName)) ∈ lw_tbl := wt_6 _ (znw tables_1_6 208 _ rfl)
theorem wd_1409 : (Jvm.Cond.instanceMethod ({ cls := "LotSalesModel", name := "split", desc := "(II)I" } : Jvm.MethodName)) ∈ lw_tbl := wt_6 _ (znw tables_1_6 209 _ rfl)
theorem wd_1411 : (Jvm.Cond.code ({ cls := "LotSalesModel", name := "split", desc := "(II)I" } : Jvm.MethodName) prog_10_method_62_code (10 : Nat) (Option.some Jvm.ClassFile.FieldType.int)) ∈ lw_tbl := wt_6 _ (znw tables_1_6 211 _ rfl)
theorem wd_1412 : (Jvm.Cond.methodLink "LotSalesModel" (185 : Nat) ({ cls := "LotSalesModel", name := "splitOrders", desc := "(II)I" } : Jvm.MethodName)) ∈ lw_tbl := wt_6 _ (znw tables_1_6 212 _ rfl)
theorem wd_1414 : (Jvm.Cond.instanceMethod ({ cls := "LotSalesModel", name := "splitOrders", desc := "(II)I" } : Jvm.MethodName)) ∈ lw_tbl := wt_6 _ (znw tables_1_6 214 _ rfl)
theorem wd_1415 : (Jvm.Cond.code ({ cls := "LotSalesModel", name := "splitOrders", desc := "(II)I" } : Jvm.MethodName) prog_10_method_61_code (7 : Nat) (Option.some Jvm.ClassFile.FieldType.int)) ∈ lw_tbl := wt_6 _ (znw tables_1_6 215 _ rfl)
theorem wd_1416 : (Jvm.Cond.methodLink "LotSalesModel" (179 : Nat) ({ cls := "LotSalesModel", name := "quantityOf", desc := "(III)I" } : Jvm.MethodName)) ∈ lw_tbl := wt_6 _ (znw tables_1_6 216 _ rfl)
theorem wd_1417 : (Jvm.Cond.static ({ cls := "LotSalesModel", name := "quantityOf", desc := "(III)I" } : Jvm.MethodName)) ∈ lw_tbl := wt_6 _ (znw tables_1_6 217 _ rfl)
theorem wd_1418 : (Jvm.Cond.code ({ cls := "LotSalesModel", name := "quantityOf", desc := "(III)I" } : Jvm.MethodName) prog_10_method_60_code (3 : Nat) (Option.some Jvm.ClassFile.FieldType.int)) ∈ lw_tbl := wt_6 _ (znw tables_1_6 218 _ rfl)
theorem wd_1419 : (Jvm.Cond.methodLink "LotSalesModel" (182 : Nat) ({ cls := "LotSalesModel", name := "share", desc := "(III)I" } : Jvm.MethodName)) ∈ lw_tbl := wt_6 _ (znw tables_1_6 219 _ rfl)
theorem wd_1420 : (Jvm.Cond.static ({ cls := "LotSalesModel", name := "share", desc := "(III)I" } : Jvm.MethodName)) ∈ lw_tbl := wt_6 _ (znw tables_1_6 220 _ rfl)
theorem wd_1421 : (Jvm.Cond.code ({ cls := "LotSalesModel", name := "share", desc := "(III)I" } : Jvm.MethodName) prog_10_method_59_code (3 : Nat) (Option.some Jvm.ClassFile.FieldType.int)) ∈ lw_tbl := wt_6 _ (znw tables_1_6 221 _ rfl)
theorem wd_1422 : (Jvm.Cond.methodLink "LotSalesLaw" (225 : Nat) ({ cls := "LotSalesModel", name := "group", desc := "(II)I" } : Jvm.MethodName)) ∈ lw_tbl := wt_6 _ (znw tables_1_6 222 _ rfl)
theorem wd_1423 : (Jvm.Cond.instanceMethod ({ cls := "LotSalesModel", name := "group", desc := "(II)I" } : Jvm.MethodName)) ∈ lw_tbl := wt_6 _ (znw tables_1_6 223 _ rfl)
theorem wd_1425 : (Jvm.Cond.code ({ cls := "LotSalesModel", name := "group", desc := "(II)I" } : Jvm.MethodName) prog_10_method_63_code (5 : Nat) (Option.some Jvm.ClassFile.FieldType.int)) ∈ lw_tbl := wt_6 _ (znw tables_1_6 225 _ rfl)
theorem wd_1426 : (Jvm.Cond.methodLink "LotSalesLaw" (228 : Nat) ({ cls := "LotSalesModel", name := "why", desc := "(I)I" } : Jvm.MethodName)) ∈ lw_tbl := wt_6 _ (znw tables_1_6 226 _ rfl)
theorem wd_1427 : (Jvm.Cond.instanceMethod ({ cls := "LotSalesModel", name := "why", desc := "(I)I" } : Jvm.MethodName)) ∈ lw_tbl := wt_6 _ (znw tables_1_6 227 _ rfl)
theorem wd_1429 : (Jvm.Cond.code ({ cls := "LotSalesModel", name := "why", desc := "(I)I" } : Jvm.MethodName) prog_10_method_64_code (2 : Nat) (Option.some Jvm.ClassFile.FieldType.int)) ∈ lw_tbl := wt_6 _ (znw tables_1_6 229 _ rfl)
theorem wd_1430 : (Jvm.Cond.methodLink "LotSalesLaw" (232 : Nat) ({ cls := "LotSalesModel", name := "sold", desc := "(IZ)I" } : Jvm.MethodName)) ∈ lw_tbl := wt_6 _ (znw tables_1_6 230 _ rfl)
theorem wd_1431 : (Jvm.Cond.instanceMethod ({ cls := "LotSalesModel", name := "sold", desc := "(IZ)I" } : Jvm.MethodName)) ∈ lw_tbl := wt_6 _ (znw tables_1_6 231 _ rfl)
theorem wd_1433 : (Jvm.Cond.code ({ cls := "LotSalesModel", name := "sold", desc := "(IZ)I" } : Jvm.MethodName) prog_10_method_65_code (3 : Nat) (Option.some Jvm.ClassFile.FieldType.int)) ∈ lw_tbl := wt_6 _ (znw tables_1_6 233 _ rfl)
theorem wd_1434 : (Jvm.Cond.methodLink "LotSalesLaw" (235 : Nat) ({ cls := "LotSalesModel", name := "premium", desc := "(I)I" } : Jvm.MethodName)) ∈ lw_tbl := wt_6 _ (znw tables_1_6 234 _ rfl)
theorem wd_1435 : (Jvm.Cond.instanceMethod ({ cls := "LotSalesModel", name := "premium", desc := "(I)I" } : Jvm.MethodName)) ∈ lw_tbl := wt_6 _ (znw tables_1_6 235 _ rfl)
theorem wd_1437 : (Jvm.Cond.code ({ cls := "LotSalesModel", name := "premium", desc := "(I)I" } : Jvm.MethodName) prog_10_method_68_code (2 : Nat) (Option.some Jvm.ClassFile.FieldType.int)) ∈ lw_tbl := wt_6 _ (znw tables_1_6 237 _ rfl)
theorem wd_1438 : (Jvm.Cond.methodLink "LotSalesLaw" (238 : Nat) ({ cls := "LotSalesModel", name := "bidder", desc := "(II)I" } : Jvm.MethodName)) ∈ lw_tbl := wt_6 _ (znw tables_1_6 238 _ rfl)
theorem wd_1439 : (Jvm.Cond.instanceMethod ({ cls := "LotSalesModel", name := "bidder", desc := "(II)I" } : Jvm.MethodName)) ∈ lw_tbl := wt_6 _ (znw tables_1_6 239 _ rfl)
theorem wd_1441 : (Jvm.Cond.code ({ cls := "LotSalesModel", name := "bidder", desc := "(II)I" } : Jvm.MethodName) prog_10_method_70_code (3 : Nat) (Option.some Jvm.ClassFile.FieldType.int)) ∈ lw_tbl := wt_7 _ (znw tables_1_7 1 _ rfl)
theorem wd_1442 : (Jvm.Cond.methodLink "LotSalesModel" (188 : Nat) ({ cls := "LotSalesModel", name := "leads", desc := "(I)I" } : Jvm.MethodName)) ∈ lw_tbl := wt_7 _ (znw tables_1_7 2 _ rfl)
theorem wd_1444 : (Jvm.Cond.instanceMethod ({ cls := "LotSalesModel", name := "leads", desc := "(I)I" } : Jvm.MethodName)) ∈ lw_tbl := wt_7 _ (znw tables_1_7 4 _ rfl)
theorem wd_1445 : (Jvm.Cond.code ({ cls := "LotSalesModel", name := "leads", desc := "(I)I" } : Jvm.MethodName) prog_10_method_69_code (4 : Nat) (Option.some Jvm.ClassFile.FieldType.int)) ∈ lw_tbl := wt_7 _ (znw tables_1_7 5 _ rfl)
theorem wd_1446 : (Jvm.Cond.methodLink "LotSalesLaw" (241 : Nat) ({ cls := "LotSalesModel", name := "seller", desc := "(II)I" } : Jvm.MethodName)) ∈ lw_tbl := wt_7 _ (znw tables_1_7 6 _ rfl)
theorem wd_1447 : (Jvm.Cond.instanceMethod ({ cls := "LotSalesModel", name := "seller", desc := "(II)I" } : Jvm.MethodName)) ∈ lw_tbl := wt_7 _ (znw tables_1_7 7 _ rfl)
theorem wd_1449 : (Jvm.Cond.code ({ cls := "LotSalesModel", name := "seller", desc := "(II)I" } : Jvm.MethodName) prog_10_method_73_code (3 : Nat) (Option.some Jvm.ClassFile.FieldType.int)) ∈ lw_tbl := wt_7 _ (znw tables_1_7 9 _ rfl)
theorem wd_1450 : (Jvm.Cond.methodLink "LotSalesModel" (197 : Nat) ({ cls := "LotSalesModel", name := "gets", desc := "(I)I" } : Jvm.MethodName)) ∈ lw_tbl := wt_7 _ (znw tables_1_7 10 _ rfl)
theorem wd_1452 : (Jvm.Cond.instanceMethod ({ cls := "LotSalesModel", name := "gets", desc := "(I)I" } : Jvm.MethodName)) ∈ lw_tbl := wt_7 _ (znw tables_1_7 12 _ rfl)
theorem wd_1453 : (Jvm.Cond.code ({ cls := "LotSalesModel", name := "gets", desc := "(I)I" } : Jvm.MethodName) prog_10_method_72_code (2 : Nat) (Option.some Jvm.ClassFile.FieldType.int)) ∈ lw_tbl := wt_7 _ (znw tables_1_7 13 _ rfl)
theorem wd_1454 : (Jvm.Cond.methodLink "LotSalesModel" (194 : Nat) ({ cls := "LotSalesModel", name := "soldBy", desc := "(II)I" } : Jvm.MethodName)) ∈ lw_tbl := wt_7 _ (znw tables_1_7 14 _ rfl)
theorem wd_1456 : (Jvm.Cond.instanceMethod ({ cls := "LotSalesModel", name := "soldBy", desc := "(II)I" } : Jvm.MethodName)) ∈ lw_tbl := wt_7 _ (znw tables_1_7 16 _ rfl)
theorem wd_1457 : (Jvm.Cond.code ({ cls := "LotSalesModel", name := "soldBy", desc := "(II)I" } : Jvm.MethodName) prog_10_method_71_code (6 : Nat) (Option.some Jvm.ClassFile.FieldType.int)) ∈ lw_tbl := wt_7 _ (znw tables_1_7 17 _ rfl)
theorem wd_1458 : (Jvm.Cond.methodLink "LotSalesModel" (191 : Nat) ({ cls := "LotSalesModel", name := "commissionOf", desc := "(I)I" } : Jvm.MethodName)) ∈ lw_tbl := wt_7 _ (znw tables_1_7 18 _ rfl)
theorem wd_1459 : (Jvm.Cond.static ({ cls := "LotSalesModel", name := "commissionOf", desc := "(I)I" } : Jvm.MethodName)) ∈ lw_tbl := wt_7 _ (znw tables_1_7 19 _ rfl)
theorem wd_1460 : (Jvm.Cond.code ({ cls := "LotSalesModel", name := "commissionOf", desc := "(I)I" } : Jvm.MethodName) prog_10_method_67_code (1 : Nat) (Option.some Jvm.ClassFile.FieldType.int)) ∈ lw_tbl := wt_7 _ (znw tables_1_7 20 _ rfl)
theorem wd_1461 : (Jvm.Cond.methodLink "LotSalesLaw" (244 : Nat) ({ cls := "LotSalesModel", name := "house", desc := "(I)I" } : Jvm.MethodName)) ∈ lw_tbl := wt_7 _ (znw tables_1_7 21 _ rfl)
theorem wd_1462 : (Jvm.Cond.instanceMethod ({ cls := "LotSalesModel", name := "house", desc := "(I)I" } : Jvm.MethodName)) ∈ lw_tbl := wt_7 _ (znw tables_1_7 22 _ rfl)
theorem wd_1464 : (Jvm.Cond.code ({ cls := "LotSalesModel", name := "house", desc := "(I)I" } : Jvm.MethodName) prog_10_method_74_code (7 : Nat) (Option.some Jvm.ClassFile.FieldType.int)) ∈ lw_tbl := wt_7 _ (znw tables_1_7 24 _ rfl)
theorem wd_1465 : (Jvm.Cond.methodLink "LotSalesLaw" (248 : Nat) ({ cls := "LotSalesModel", name := "soldShare", desc := "()D" } : Jvm.MethodName)) ∈ lw_tbl := wt_7 _ (znw tables_1_7 25 _ rfl)
theorem wd_1466 : (Jvm.Cond.instanceMethod ({ cls := "LotSalesModel", name := "soldShare", desc := "()D" } : Jvm.MethodName)) ∈ lw_tbl := wt_7 _ (znw tables_1_7 26 _ rfl)
theorem wd_1468 : (Jvm.Cond.code ({ cls := "LotSalesModel", name := "soldShare", desc := "()D" } : Jvm.MethodName) prog_10_method_76_code (2 : Nat) (Option.some Jvm.ClassFile.FieldType.double)) ∈ lw_tbl := wt_7 _ (znw tables_1_7 28 _ rfl)
theorem wd_1469 : (Jvm.Cond.methodLink "LotSalesModel" (200 : Nat) ({ cls := "LotSalesModel", name := "eventsOf", desc := "(I)I" } : Jvm.MethodName)) ∈ lw_tbl := wt_7 _ (znw tables_1_7 29 _ rfl)
theorem wd_1471 : (Jvm.Cond.instanceMethod ({ cls := "LotSalesModel", name := "eventsOf", desc := "(I)I" } : Jvm.MethodName)) ∈ lw_tbl := wt_7 _ (znw tables_1_7 31 _ rfl)
theorem wd_1472 : (Jvm.Cond.code ({ cls := "LotSalesModel", name := "eventsOf", desc := "(I)I" } : Jvm.MethodName) prog_10_method_75_code (4 : Nat) (Option.some Jvm.ClassFile.FieldType.int)) ∈ lw_tbl := wt_7 _ (znw tables_1_7 32 _ rfl)
theorem wd_1473 : (Jvm.Cond.methodLink "LotSalesLaw" (251 : Nat) ({ cls := "LotSalesModel", name := "events", desc := "(I)I" } : Jvm.MethodName)) ∈ lw_tbl := wt_7 _ (znw tables_1_7 33 _ rfl)
theorem wd_1474 : (Jvm.Cond.instanceMethod ({ cls := "LotSalesModel", name := "events", desc := "(I)I" } : Jvm.MethodName)) ∈ lw_tbl := wt_7 _ (znw tables_1_7 34 _ rfl)
theorem wd_1476 : (Jvm.Cond.code ({ cls := "LotSalesModel", name := "events", desc := "(I)I" } : Jvm.MethodName) prog_10_method_77_code (2 : Nat) (Option.some Jvm.ClassFile.FieldType.int)) ∈ lw_tbl := wt_7 _ (znw tables_1_7 36 _ rfl)
theorem wd_1477 : (Jvm.Cond.methodLink "LotSalesLaw" (254 : Nat) ({ cls := "LotSalesModel", name := "event", desc := "(II)I" } : Jvm.MethodName)) ∈ lw_tbl := wt_7 _ (znw tables_1_7 37 _ rfl)
theorem wd_1478 : (Jvm.Cond.instanceMethod ({ cls := "LotSalesModel", name := "event", desc := "(II)I" } : Jvm.MethodName)) ∈ lw_tbl := wt_7 _ (znw tables_1_7 38 _ rfl)
theorem wd_1480 : (Jvm.Cond.code ({ cls := "LotSalesModel", name := "event", desc := "(II)I" } : Jvm.MethodName) prog_10_method_78_code (3 : Nat) (Option.some Jvm.ClassFile.FieldType.int)) ∈ lw_tbl := wt_7 _ (znw tables_1_7 40 _ rfl)
theorem wd_1481 : (Jvm.Cond.methodLink "LotSalesLaw" (258 : Nat) ({ cls := "LotSalesModel", name := "audit", desc := "()I" } : Jvm.MethodName)) ∈ lw_tbl := wt_7 _ (znw tables_1_7 41 _ rfl)
theorem wd_1482 : (Jvm.Cond.instanceMethod ({ cls := "LotSalesModel", name := "audit", desc := "()I" } : Jvm.MethodName)) ∈ lw_tbl := wt_7 _ (znw tables_1_7 42 _ rfl)
theorem wd_1484 : (Jvm.Cond.code ({ cls := "LotSalesModel", name := "audit", desc := "()I" } : Jvm.MethodName) prog_10_method_80_code (3 : Nat) (Option.some Jvm.ClassFile.FieldType.int)) ∈ lw_tbl := wt_7 _ (znw tables_1_7 44 _ rfl)
theorem wd_1485 : (Jvm.Cond.methodLink "LotSalesModel" (203 : Nat) ({ cls := "LotSalesModel", name := "sumOf", desc := "(III)I" } : Jvm.MethodName)) ∈ lw_tbl := wt_7 _ (znw tables_1_7 45 _ rfl)
theorem wd_1487 : (Jvm.Cond.instanceMethod ({ cls := "LotSalesModel", name := "sumOf", desc := "(III)I" } : Jvm.MethodName)) ∈ lw_tbl := wt_7 _ (znw tables_1_7 47 _ rfl)
theorem wd_1488 : (Jvm.Cond.code ({ cls := "LotSalesModel", name := "sumOf", desc := "(III)I" } : Jvm.MethodName) prog_10_method_79_code (8 : Nat) (Option.some Jvm.ClassFile.FieldType.int)) ∈ lw_tbl := wt_7 _ (znw tables_1_7 48 _ rfl)
theorem wd_1489 : (Jvm.Cond.methodLink "LotSalesLaw" (262 : Nat) ({ cls := "LotSalesModel", name := "append", desc := "(C)V" } : Jvm.MethodName)) ∈ lw_tbl := wt_7 _ (znw tables_1_7 49 _ rfl)
theorem wd_1490 : (Jvm.Cond.instanceMethod ({ cls := "LotSalesModel", name := "append", desc := "(C)V" } : Jvm.MethodName)) ∈ lw_tbl := wt_7 _ (znw tables_1_7 50 _ rfl)
theorem wd_1492 : (Jvm.Cond.code ({ cls := "LotSalesModel", name := "append", desc := "(C)V" } : Jvm.MethodName) prog_10_method_81_code (2 : Nat) (Option.none : Option Jvm.ClassFile.FieldType)) ∈ lw_tbl := wt_7 _ (znw tables_1_7 52 _ rfl)
theorem wd_1493 : (Jvm.Cond.methodLink "LotSalesLaw" (265 : Nat) ({ cls := "LotSalesModel", name := "read", desc := "()I" } : Jvm.MethodName)) ∈ lw_tbl := wt_7 _ (znw tables_1_7 53 _ rfl)
theorem wd_1494 : (Jvm.Cond.instanceMethod ({ cls := "LotSalesModel", name := "read", desc := "()I" } : Jvm.MethodName)) ∈ lw_tbl := wt_7 _ (znw tables_1_7 54 _ rfl)
theorem wd_1496 : (Jvm.Cond.code ({ cls := "LotSalesModel", name := "read", desc := "()I" } : Jvm.MethodName) prog_10_method_89_code (2 : Nat) (Option.some Jvm.ClassFile.FieldType.int)) ∈ lw_tbl := wt_7 _ (znw tables_1_7 56 _ rfl)
theorem wd_1497 : (Jvm.Cond.methodLink "LotSalesModel" (252 : Nat) ({ cls := "LotSalesModel", name := "command", desc := "()V" } : Jvm.MethodName)) ∈ lw_tbl := wt_7 _ (znw tables_1_7 57 _ rfl)
theorem wd_1499 : (Jvm.Cond.instanceMethod ({ cls := "LotSalesModel", name := "command", desc := "()V" } : Jvm.MethodName)) ∈ lw_tbl := wt_7 _ (znw tables_1_7 59 _ rfl)
theorem wd_1500 : (Jvm.Cond.code ({ cls := "LotSalesModel", name := "command", desc := "()V" } : Jvm.MethodName) prog_10_method_87_code (5 : Nat) (Option.none : Option Jvm.ClassFile.FieldType)) ∈ lw_tbl := wt_7 _ (znw tables_1_7 60 _ rfl)
theorem wd_1501 : (Jvm.Cond.methodLink "LotSalesModel" (215 : Nat) ({ cls := "LotSalesModel", name := "sign", desc := "()I" } : Jvm.MethodName)) ∈ lw_tbl := wt_7 _ (znw tables_1_7 61 _ rfl)
theorem wd_1503 : (Jvm.Cond.instanceMethod ({ cls := "LotSalesModel", name := "sign", desc := "()I" } : Jvm.MethodName)) ∈ lw_tbl := wt_7 _ (znw tables_1_7 63 _ rfl)
theorem wd_1504 : (Jvm.Cond.code ({ cls := "LotSalesModel", name := "sign", desc := "()I" } : Jvm.MethodName) prog_10_method_82_code (1 : Nat) (Option.some Jvm.ClassFile.FieldType.int)) ∈ lw_tbl := wt_7 _ (znw tables_1_7 64 _ rfl)
theorem wd_1505 : (Jvm.Cond.methodLink "LotSalesModel" (221 : Nat) ({ cls := "LotSalesModel", name := "numbersOf", desc := "(I)I" } : Jvm.MethodName)) ∈ lw_tbl := wt_7 _ (znw tables_1_7 65 _ rfl)
theorem wd_1506 : (Jvm.Cond.static ({ cls := "LotSalesModel", name := "numbersOf", desc := "(I)I" } : Jvm.MethodName)) ∈ lw_tbl := wt_7 _ (znw tables_1_7 66 _ rfl)
theorem wd_1507 : (Jvm.Cond.code ({ cls := "LotSalesModel", name := "numbersOf", desc := "(I)I" } : Jvm.MethodName) prog_10_method_86_code (1 : Nat) (Option.some Jvm.ClassFile.FieldType.int)) ∈ lw_tbl := wt_7 _ (znw tables_1_7 67 _ rfl)
theorem wd_1508 : (Jvm.Cond.methodLink "LotSalesModel" (218 : Nat) ({ cls := "LotSalesModel", name := "faultHere", desc := "()V" } : Jvm.MethodName)) ∈ lw_tbl := wt_7 _ (znw tables_1_7 68 _ rfl)
theorem wd_1510 : (Jvm.Cond.instanceMethod ({ cls := "LotSalesModel", name := "faultHere", desc := "()V" } : Jvm.MethodName)) ∈ lw_tbl := wt_7 _ (znw tables_1_7 70 _ rfl)
theorem wd_1511 : (Jvm.Cond.code ({ cls := "LotSalesModel", name := "faultHere", desc := "()V" } : Jvm.MethodName) prog_10_method_84_code (1 : Nat) (Option.none : Option Jvm.ClassFile.FieldType)) ∈ lw_tbl := wt_7 _ (znw tables_1_7 71 _ rfl)
theorem wd_1512 : (Jvm.Cond.methodLink "LotSalesModel" (227 : Nat) ({ cls := "LotSalesModel", name := "goes", desc := "(C)Z" } : Jvm.MethodName)) ∈ lw_tbl := wt_7 _ (znw tables_1_7 72 _ rfl)
theorem wd_1514 : (Jvm.Cond.instanceMethod ({ cls := "LotSalesModel", name := "goes", desc := "(C)Z" } : Jvm.MethodName)) ∈ lw_tbl := wt_7 _ (znw tables_1_7 74 _ rfl)
theorem wd_1515 : (Jvm.Cond.code ({ cls := "LotSalesModel", name := "goes", desc := "(C)Z" } : Jvm.MethodName) prog_10_method_83_code (3 : Nat) (Option.some Jvm.ClassFile.FieldType.boolean)) ∈ lw_tbl := wt_7 _ (znw tables_1_7 75 _ rfl)
theorem wd_1516 : (Jvm.Cond.methodLink "LotSalesModel" (231 : Nat) ({ cls := "LotSalesModel", name := "number", desc := "()I" } : Jvm.MethodName)) ∈ lw_tbl := wt_7 _ (znw tables_1_7 76 _ rfl)
theorem wd_1518 : (Jvm.Cond.instanceMethod ({ cls := "LotSalesModel", name := "number", desc := "()I" } : Jvm.MethodName)) ∈ lw_tbl := wt_7 _ (znw tables_1_7 78 _ rfl)
theorem wd_1519 : (Jvm.Cond.code ({ cls := "LotSalesModel", name := "number", desc := "()I" } : Jvm.MethodName) prog_10_method_85_code (3 : Nat) (Option.some Jvm.ClassFile.FieldType.int)) ∈ lw_tbl := wt_7 _ (znw tables_1_7 79 _ rfl)
theorem wd_1520 : (Jvm.Cond.methodLink "LotSalesModel" (255 : Nat) ({ cls := "LotSalesModel", name := "carryOut", desc := "(I)V" } : Jvm.MethodName)) ∈ lw_tbl := wt_7 _ (znw tables_1_7 80 _ rfl)
theorem wd_1522 : (Jvm.Cond.instanceMethod ({ cls := "LotSalesModel", name := "carryOut", desc := "(I)V" } : Jvm.MethodName)) ∈ lw_tbl := wt_7 _ (znw tables_1_7 82 _ rfl)
theorem wd_1523 : (Jvm.Cond.code ({ cls := "LotSalesModel", name := "carryOut", desc := "(I)V" } : Jvm.MethodName) prog_10_method_88_code (6 : Nat) (Option.none : Option Jvm.ClassFile.FieldType)) ∈ lw_tbl := wt_7 _ (znw tables_1_7 83 _ rfl)
theorem wd_1524 : (Jvm.Cond.methodLink "LotSalesModel" (234 : Nat) ({ cls := "LotSalesModel", name := "open", desc := "(I)I" } : Jvm.MethodName)) ∈ lw_tbl := wt_7 _ (znw tables_1_7 84 _ rfl)
theorem wd_1525 : (Jvm.Cond.methodLink "LotSalesModel" (237 : Nat) ({ cls := "LotSalesModel", name := "close", desc := "(I)I" } : Jvm.MethodName)) ∈ lw_tbl := wt_7 _ (znw tables_1_7 85 _ rfl)
theorem wd_1526 : (Jvm.Cond.methodLink "LotSalesModel" (240 : Nat) ({ cls := "LotSalesModel", name := "withdraw", desc := "(I)I" } : Jvm.MethodName)) ∈ lw_tbl := wt_7 _ (znw tables_1_7 86 _ rfl)
theorem wd_1527 : (Jvm.Cond.methodLink "LotSalesModel" (243 : Nat) ({ cls := "LotSalesModel", name := "bid", desc := "(III)I" } : Jvm.MethodName)) ∈ lw_tbl := wt_7 _ (znw tables_1_7 87 _ rfl)
theorem wd_1528 : (Jvm.Cond.methodLink "LotSalesModel" (246 : Nat) ({ cls := "LotSalesModel", name := "order", desc := "(III)I" } : Jvm.MethodName)) ∈ lw_tbl := wt_7 _ (znw tables_1_7 88 _ rfl)
theorem wd_1529 : (Jvm.Cond.methodLink "LotSalesModel" (249 : Nat) ({ cls := "LotSalesModel", name := "cancel", desc := "(II)I" } : Jvm.MethodName)) ∈ lw_tbl := wt_7 _ (znw tables_1_7 89 _ rfl)
theorem wd_1530 : (Jvm.Cond.methodLink "LotSalesLaw" (269 : Nat) ({ cls := "LotSalesModel", name := "faultPosition", desc := "()I" } : Jvm.MethodName)) ∈ lw_tbl := wt_7 _ (znw tables_1_7 90 _ rfl)
theorem wd_1531 : (Jvm.Cond.instanceMethod ({ cls := "LotSalesModel", name := "faultPosition", desc := "()I" } : Jvm.MethodName)) ∈ lw_tbl := wt_7 _ (znw tables_1_7 91 _ rfl)
theorem wd_1533 : (Jvm.Cond.code ({ cls := "LotSalesModel", name := "faultPosition", desc := "()I" } : Jvm.MethodName) prog_10_method_90_code (1 : Nat) (Option.some Jvm.ClassFile.FieldType.int)) ∈ lw_tbl := wt_7 _ (znw tables_1_7 93 _ rfl)
theorem wd_1534 : (Jvm.Cond.methodLink "LotSalesLaw" (272 : Nat) ({ cls := "LotSalesModel", name := "undo", desc := "()I" } : Jvm.MethodName)) ∈ lw_tbl := wt_7 _ (znw tables_1_7 94 _ rfl)
theorem wd_1535 : (Jvm.Cond.instanceMethod ({ cls := "LotSalesModel", name := "undo", desc := "()I" } : Jvm.MethodName)) ∈ lw_tbl := wt_7 _ (znw tables_1_7 95 _ rfl)
theorem wd_1537 : (Jvm.Cond.code ({ cls := "LotSalesModel", name := "undo", desc := "()I" } : Jvm.MethodName) prog_10_method_91_code (2 : Nat) (Option.some Jvm.ClassFile.FieldType.int)) ∈ lw_tbl := wt_7 _ (znw tables_1_7 97 _ rfl)
theorem wd_1538 : (Jvm.Cond.methodLink "LotSalesLaw" (276 : Nat) ({ cls := "LotSalesModel", name := "save", desc := "()V" } : Jvm.MethodName)) ∈ lw_tbl := wt_7 _ (znw tables_1_7 98 _ rfl)
theorem wd_1539 : (Jvm.Cond.instanceMethod ({ cls := "LotSalesModel", name := "save", desc := "()V" } : Jvm.MethodName)) ∈ lw_tbl := wt_7 _ (znw tables_1_7 99 _ rfl)
theorem wd_1541 : (Jvm.Cond.code ({ cls := "LotSalesModel", name := "save", desc := "()V" } : Jvm.MethodName) prog_10_method_92_code (2 : Nat) (Option.none : Option Jvm.ClassFile.FieldType)) ∈ lw_tbl := wt_7 _ (znw tables_1_7 101 _ rfl)
theorem wd_1542 : (Jvm.Cond.methodLink "LotSalesLaw" (280 : Nat) ({ cls := "LotSalesModel", name := "restore", desc := "()V" } : Jvm.MethodName)) ∈ lw_tbl := wt_7 _ (znw tables_1_7 102 _ rfl)
theorem wd_1543 : (Jvm.Cond.instanceMethod ({ cls := "LotSalesModel", name := "restore", desc := "()V" } : Jvm.MethodName)) ∈ lw_tbl := wt_7 _ (znw tables_1_7 103 _ rfl)
theorem wd_1545 : (Jvm.Cond.code ({ cls := "LotSalesModel", name := "restore", desc := "()V" } : Jvm.MethodName) prog_10_method_93_code (2 : Nat) (Option.none : Option Jvm.ClassFile.FieldType)) ∈ lw_tbl := wt_7 _ (znw tables_1_7 105 _ rfl)
theorem wd_1546 : (Jvm.Cond.arrayClass Jvm.ClassFile.FieldType.long) ∈ lw_tbl := wt_7 _ (znw tables_1_7 106 _ rfl)
theorem wd_1547 : (Jvm.Cond.arrayClass Jvm.ClassFile.FieldType.double) ∈ lw_tbl := wt_7 _ (znw tables_1_7 107 _ rfl)
end
section
/-! BRANCHES AND FIELDS -/
def znth : List jI → Nat → Option jI
  | [], _ => none
  | a :: _, 0 => some a
  | _ :: t, k + 1 => znth t k
theorem znth_mem : ∀ (l : List jI) (i : Nat) (r : jI), znth l i = some r → r ∈ l
  | [], _, _, h => by cases h
  | a :: t, 0, r, h => by
    have h1 : some a = some r := h
    cases h1
    exact List.mem_cons_self
  | a :: t, i + 1, r, h => List.mem_cons_of_mem _ (znth_mem t i r h)
theorem z_row {cc : ByteArray} {l : List jI} (hb : jD cc l = true) (i : Nat) {pc len : Nat} {ins : Instr} (h : znth l i = some (pc, ins, len)) : decode cc pc = .ok (ins, len) := z_hd (r := (pc, ins, len)) hb (znth_mem l i _ h)
/-- the classes' field types -/
def ztyp : Nat → Nat → FieldType
  | 0 => tyX0
  | 1 => tyX1
  | 2 => tyX2
  | 3 => tyX3
  | 4 => tyX4
  | 5 => tyX5
  | 6 => tyX6
  | 7 => tyX7
  | _ => tyX8
theorem zlays : ∀ ci : Nat, ∀ q : vw_C, zcl[ci]? = some q → GoodIn lw_tbl (u_ws q.1 q.2.1 q.2.2) := by
  intro ci q hq
  match ci, hq with
  | 0, hq => cases hq; exact zlays_0
  | 1, hq => cases hq; exact zlays_1
  | 2, hq => cases hq; exact zlays_2
  | 3, hq => cases hq; exact zlays_3
  | 4, hq => cases hq; exact zlays_4
  | 5, hq => cases hq; exact zlays_5
  | 6, hq => cases hq; exact zlays_6
  | 7, hq => cases hq; exact zlays_7
  | 8, hq => cases hq; exact zlays_8
  | n + 9, hq => simp at hq
theorem ztyp_ok : ∀ ci : Nat, ∀ q : vw_C, zcl[ci]? = some q → (∀ k, k < q.2.2 → parseFieldDescriptor (q.2.1 k).2.2.1 = some (ztyp ci k)) ∧ (∀ a, a < q.2.2 → ∀ b, b < q.2.2 → a ≠ b → (q.2.1 a).2.1 ≠ (q.2.1 b).2.1) ∧ (zft (ci + 1)).length = q.2.2 := by
  intro ci q hq
  match ci, hq with
  | 0, hq => cases hq; exact ⟨tyX0_ok, nmX0, rfl⟩
  | 1, hq => cases hq; exact ⟨tyX1_ok, nmX1, rfl⟩
  | 2, hq => cases hq; exact ⟨tyX2_ok, nmX2, rfl⟩
  | 3, hq => cases hq; exact ⟨tyX3_ok, nmX3, rfl⟩
  | 4, hq => cases hq; exact ⟨tyX4_ok, nmX4, rfl⟩
  | 5, hq => cases hq; exact ⟨tyX5_ok, nmX5, rfl⟩
  | 6, hq => cases hq; exact ⟨tyX6_ok, nmX6, rfl⟩
  | 7, hq => cases hq; exact ⟨tyX7_ok, nmX7, rfl⟩
  | 8, hq => cases hq; exact ⟨tyX8_ok, nmX8, rfl⟩
  | n + 9, hq => simp at hq
section ZB
variable {E : zE} {K : zC} {own : String} {cc : ByteArray} {nL h : Nat} {α : Type} {fin : α → zO} {X A B : Option α} {σ : zW} {pc : Nat} {lv : zLV} {st : List zV}
theorem zk_F (hk : zk E K own cc nL h) : zFx E := hk.2.2.2.2.2.2.1
/-- a word of the tables -/
theorem z_wordg {s : State} {w : Cond} (hF : zFx E) (hW : (eS E).WarmedH s.vm) (hm : w ∈ lw_tbl ∧ ((w.onTables && w.keeps) = true ∨ ∃ ty, w = .arrayClass ty)) (args : Array Value) : w.before args s = true :=
  word_at hW hm.2 (hF.2.1 w hm.1)
theorem z_word {s : State} {w : Cond} (hF : zFx E) (hW : (eS E).WarmedH s.vm) (hm : w ∈ lw_tbl) (hg : goodWord w = true) (args : Array Value) : w.before args s = true :=
  word_at hW (good_of_word hg) (hF.2.1 w hm)
theorem zw (hk : zk E K own cc nL h) {w : Cond} (hm : w ∈ lw_tbl) (hg : goodWord w = true) : w.before (cA K) (cS K) = true := z_word (zk_F hk) hk.2.2.2.2.2.1 hm hg _
theorem zK_of (hk : zk E K own cc nL h) : va_K (eD E) zcl (zty E) (cS K) := va_K.moved hk.2.2.2.2.2.1.alike (zk_F hk).2.2.1
theorem zl_of (hk : zk E K own cc nL h) {ci : Nat} {q : vw_C} (hc : zcl[ci]? = some q) : ∀ w ∈ u_ws q.1 q.2.1 q.2.2, w.before (cA K) (cS K) = true :=
  fun w hw => z_wordg (zk_F hk) hk.2.2.2.2.2.1 (zlays ci q hc w hw) _
theorem z_ite {c : Prop} [d : Decidable c] {P Q : Prop} (ht : c → (∃ o, A = some o ∧ fin o = cO K) → P) (hf : ¬ c → (∃ o, B = some o ∧ fin o = cO K) → P) (h : ∃ o, (if c then A else B) = some o ∧ fin o = cO K) : P := by
  by_cases hc : c
  · rw [if_pos hc] at h; exact ht hc h
  · rw [if_neg hc] at h; exact hf hc h
theorem z_eq (hk : zk E K own cc nL h) {x : Int32} {off : Int} {tgt : Nat} (hd : decode cc pc = .ok (.ifCond .eq off, 3)) (ht : (pc : Int) + off = (tgt : Int)) (kt : zG E K fin A σ tgt lv st) (kf : zG E K fin B σ (pc + 3) lv st) : zG E K fin (if x = 0 then A else B) σ pc lv (.inl x :: st) := by
  intro hX w1 w2 w3 H locs ls hR ho hh
  exact lv_if_eq hk.1 hk.2.1 hd ht (fun hc => kt (by rw [if_pos hc] at hX; exact hX) w1 w2 w3 H locs ls hR ho hh) (fun hc => kf (by rw [if_neg hc] at hX; exact hX) w1 w2 w3 H locs ls hR ho hh)
theorem z_ne (hk : zk E K own cc nL h) {x : Int32} {off : Int} {tgt : Nat} (hd : decode cc pc = .ok (.ifCond .ne off, 3)) (ht : (pc : Int) + off = (tgt : Int)) (kt : zG E K fin A σ tgt lv st) (kf : zG E K fin B σ (pc + 3) lv st) : zG E K fin (if x = 0 then B else A) σ pc lv (.inl x :: st) := by
  intro hX w1 w2 w3 H locs ls hR ho hh
  exact lv_if_ne hk.1 hk.2.1 hd ht (fun hc => kt (by rw [if_neg hc] at hX; exact hX) w1 w2 w3 H locs ls hR ho hh) (fun hc => kf (by rw [if_pos (by first | exact hc | exact Decidable.not_not.mp hc)] at hX; exact hX) w1 w2 w3 H locs ls hR ho hh)
theorem z_lt (hk : zk E K own cc nL h) {x : Int32} {off : Int} {tgt : Nat} (hd : decode cc pc = .ok (.ifCond .lt off, 3)) (ht : (pc : Int) + off = (tgt : Int)) (kt : zG E K fin A σ tgt lv st) (kf : zG E K fin B σ (pc + 3) lv st) : zG E K fin (if x < 0 then A else B) σ pc lv (.inl x :: st) := by
  intro hX w1 w2 w3 H locs ls hR ho hh
  exact lv_if_lt hk.1 hk.2.1 hd ht (fun hc => kt (by rw [if_pos hc] at hX; exact hX) w1 w2 w3 H locs ls hR ho hh) (fun hc => kf (by rw [if_neg hc] at hX; exact hX) w1 w2 w3 H locs ls hR ho hh)
theorem z_ge (hk : zk E K own cc nL h) {x : Int32} {off : Int} {tgt : Nat} (hd : decode cc pc = .ok (.ifCond .ge off, 3)) (ht : (pc : Int) + off = (tgt : Int)) (kt : zG E K fin A σ tgt lv st) (kf : zG E K fin B σ (pc + 3) lv st) : zG E K fin (if x < 0 then B else A) σ pc lv (.inl x :: st) := by
  intro hX w1 w2 w3 H locs ls hR ho hh
  exact lv_if_ge hk.1 hk.2.1 hd ht (fun hc => kt (by rw [if_neg (Int32.not_lt.mpr hc)] at hX; exact hX) w1 w2 w3 H locs ls hR ho hh) (fun hc => kf (by rw [if_pos (Int32.not_le.mp hc)] at hX; exact hX) w1 w2 w3 H locs ls hR ho hh)
theorem z_gt (hk : zk E K own cc nL h) {x : Int32} {off : Int} {tgt : Nat} (hd : decode cc pc = .ok (.ifCond .gt off, 3)) (ht : (pc : Int) + off = (tgt : Int)) (kt : zG E K fin A σ tgt lv st) (kf : zG E K fin B σ (pc + 3) lv st) : zG E K fin (if 0 < x then A else B) σ pc lv (.inl x :: st) := by
  intro hX w1 w2 w3 H locs ls hR ho hh
  exact lv_if_gt hk.1 hk.2.1 hd ht (fun hc => kt (by rw [if_pos hc] at hX; exact hX) w1 w2 w3 H locs ls hR ho hh) (fun hc => kf (by rw [if_neg hc] at hX; exact hX) w1 w2 w3 H locs ls hR ho hh)
theorem z_le (hk : zk E K own cc nL h) {x : Int32} {off : Int} {tgt : Nat} (hd : decode cc pc = .ok (.ifCond .le off, 3)) (ht : (pc : Int) + off = (tgt : Int)) (kt : zG E K fin A σ tgt lv st) (kf : zG E K fin B σ (pc + 3) lv st) : zG E K fin (if 0 < x then B else A) σ pc lv (.inl x :: st) := by
  intro hX w1 w2 w3 H locs ls hR ho hh
  exact lv_if_le hk.1 hk.2.1 hd ht (fun hc => kt (by rw [if_neg (Int32.not_lt.mpr hc)] at hX; exact hX) w1 w2 w3 H locs ls hR ho hh) (fun hc => kf (by rw [if_pos (Int32.not_le.mp hc)] at hX; exact hX) w1 w2 w3 H locs ls hR ho hh)
theorem z_ceq (hk : zk E K own cc nL h) {x y : Int32} {off : Int} {tgt : Nat} (hd : decode cc pc = .ok (.if_icmp .eq off, 3)) (ht : (pc : Int) + off = (tgt : Int)) (kt : zG E K fin A σ tgt lv st) (kf : zG E K fin B σ (pc + 3) lv st) : zG E K fin (if x = y then A else B) σ pc lv (.inl y :: .inl x :: st) := by
  intro hX w1 w2 w3 H locs ls hR ho hh
  exact lv_icmp_eq hk.1 hk.2.1 hd ht (fun hc => kt (by rw [if_pos hc] at hX; exact hX) w1 w2 w3 H locs ls hR ho hh) (fun hc => kf (by rw [if_neg hc] at hX; exact hX) w1 w2 w3 H locs ls hR ho hh)
theorem z_cne (hk : zk E K own cc nL h) {x y : Int32} {off : Int} {tgt : Nat} (hd : decode cc pc = .ok (.if_icmp .ne off, 3)) (ht : (pc : Int) + off = (tgt : Int)) (kt : zG E K fin A σ tgt lv st) (kf : zG E K fin B σ (pc + 3) lv st) : zG E K fin (if x = y then B else A) σ pc lv (.inl y :: .inl x :: st) := by
  intro hX w1 w2 w3 H locs ls hR ho hh
  exact lv_icmp_ne hk.1 hk.2.1 hd ht (fun hc => kt (by rw [if_neg hc] at hX; exact hX) w1 w2 w3 H locs ls hR ho hh) (fun hc => kf (by rw [if_pos (by first | exact hc | exact Decidable.not_not.mp hc)] at hX; exact hX) w1 w2 w3 H locs ls hR ho hh)
theorem z_clt (hk : zk E K own cc nL h) {x y : Int32} {off : Int} {tgt : Nat} (hd : decode cc pc = .ok (.if_icmp .lt off, 3)) (ht : (pc : Int) + off = (tgt : Int)) (kt : zG E K fin A σ tgt lv st) (kf : zG E K fin B σ (pc + 3) lv st) : zG E K fin (if x < y then A else B) σ pc lv (.inl y :: .inl x :: st) := by
  intro hX w1 w2 w3 H locs ls hR ho hh
  exact lv_icmp_lt hk.1 hk.2.1 hd ht (fun hc => kt (by rw [if_pos hc] at hX; exact hX) w1 w2 w3 H locs ls hR ho hh) (fun hc => kf (by rw [if_neg hc] at hX; exact hX) w1 w2 w3 H locs ls hR ho hh)
theorem z_cge (hk : zk E K own cc nL h) {x y : Int32} {off : Int} {tgt : Nat} (hd : decode cc pc = .ok (.if_icmp .ge off, 3)) (ht : (pc : Int) + off = (tgt : Int)) (kt : zG E K fin A σ tgt lv st) (kf : zG E K fin B σ (pc + 3) lv st) : zG E K fin (if x < y then B else A) σ pc lv (.inl y :: .inl x :: st) := by
  intro hX w1 w2 w3 H locs ls hR ho hh
  exact lv_icmp_ge hk.1 hk.2.1 hd ht (fun hc => kt (by rw [if_neg (Int32.not_lt.mpr hc)] at hX; exact hX) w1 w2 w3 H locs ls hR ho hh) (fun hc => kf (by rw [if_pos (Int32.not_le.mp hc)] at hX; exact hX) w1 w2 w3 H locs ls hR ho hh)
theorem z_cgt (hk : zk E K own cc nL h) {x y : Int32} {off : Int} {tgt : Nat} (hd : decode cc pc = .ok (.if_icmp .gt off, 3)) (ht : (pc : Int) + off = (tgt : Int)) (kt : zG E K fin A σ tgt lv st) (kf : zG E K fin B σ (pc + 3) lv st) : zG E K fin (if y < x then A else B) σ pc lv (.inl y :: .inl x :: st) := by
  intro hX w1 w2 w3 H locs ls hR ho hh
  exact lv_icmp_gt hk.1 hk.2.1 hd ht (fun hc => kt (by rw [if_pos hc] at hX; exact hX) w1 w2 w3 H locs ls hR ho hh) (fun hc => kf (by rw [if_neg hc] at hX; exact hX) w1 w2 w3 H locs ls hR ho hh)
theorem z_cle (hk : zk E K own cc nL h) {x y : Int32} {off : Int} {tgt : Nat} (hd : decode cc pc = .ok (.if_icmp .le off, 3)) (ht : (pc : Int) + off = (tgt : Int)) (kt : zG E K fin A σ tgt lv st) (kf : zG E K fin B σ (pc + 3) lv st) : zG E K fin (if y < x then B else A) σ pc lv (.inl y :: .inl x :: st) := by
  intro hX w1 w2 w3 H locs ls hR ho hh
  exact lv_icmp_le hk.1 hk.2.1 hd ht (fun hc => kt (by rw [if_neg (Int32.not_lt.mpr hc)] at hX; exact hX) w1 w2 w3 H locs ls hR ho hh) (fun hc => kf (by rw [if_pos (Int32.not_le.mp hc)] at hX; exact hX) w1 w2 w3 H locs ls hR ho hh)
theorem z_nn (hk : zk E K own cc nL h) {r : Nat} {off : Int} {tgt : Nat} (hd : decode cc pc = .ok (.ifnonnull off, 3)) (ht : (pc : Int) + off = (tgt : Int)) (kt : zG E K fin A σ tgt lv st) (kf : zG E K fin B σ (pc + 3) lv st) : zG E K fin (if r = 0 then B else A) σ pc lv (.inr (.inl r) :: st) := by
  intro hX w1 w2 w3 H locs ls hR ho hh
  by_cases hr : r = 0
  · rw [if_pos hr] at hX
    subst hr
    exact lv_ifnonnullN hk.1 hk.2.1 hd (kf hX w1 w2 w3 H locs ls hR ho hh)
  · rw [if_neg hr] at hX
    show zWw E K H locs _ _ (F0 _ _ _ (zrv E r :: _))
    rw [zrv_ref hr]
    exact lv_ifnonnull hk.1 hk.2.1 hd ht (kt hX w1 w2 w3 H locs ls hR ho hh)
theorem z_goto (hk : zk E K own cc nL h) {off : Int} {tgt : Nat} (hd : decode cc pc = .ok (.goto off, 3)) (ht : (pc : Int) + off = (tgt : Int)) (k : zG E K fin X σ tgt lv st) : zG E K fin X σ pc lv st := by
  intro hX w1 w2 w3 H locs ls hR ho hh
  exact lv_goto hk.1 hk.2.1 hd ht (k hX w1 w2 w3 H locs ls hR ho hh)
end ZB
/-! the pieces of which a method's answer is made -/
def zgI {α : Type} (σ : zW) (κ r k : Nat) (c : Int32 → Option α) : Option α := if zK σ r = κ then c (zI σ r k) else none
def zgR {α : Type} (σ : zW) (κ r k : Nat) (c : Nat → Option α) : Option α := if zK σ r = κ then c (zR σ r k) else none
def zpI {α : Type} (σ : zW) (κ r k : Nat) (v : Int32) (c : zW → Option α) : Option α := if zK σ r = κ then c (stI σ r k v) else none
def zpR {α : Type} (σ : zW) (κ r k v : Nat) (c : zW → Option α) : Option α := if zK σ r = κ then c (stR σ r k v) else none
section ZC
variable {E : zE} {K : zC} {own : String} {cc : ByteArray} {nL h : Nat} {α : Type} {fin : α → zO} {X A B : Option α} {σ : zW} {pc : Nat} {lv : zLV} {st : List zV}
theorem zfv_get {l : List Bool} {o k : Nat} (hk : k < l.length) : (zfv E σ o l)[k]? = some (if l.getD k false = true then zrv E (zR σ o k) else .int (zI σ o k)) := by
  unfold zfv
  rw [List.getElem?_map, List.getElem?_range hk]
  rfl
theorem zfv_len {l : List Bool} {o : Nat} : (zfv E σ o l).length = l.length := by simp [zfv]
theorem zent_ob {o ci : Nat} (hκ : zK σ o = ci + 1) (hlt : ci < 9) : zent E σ o = .inr (ci, zfv E σ o (zft (ci + 1))) := by
  unfold zent
  rw [hκ, if_pos (by omega)]
  rfl
theorem zR_at {H : Heap} {o : Nat} (hR : zRp E σ H) (h0 : zK σ o ≠ 0) : va_P (eD E) zcl [(eA E o, zent E σ o)] H := by
  intro k q hk
  have hz : k < 1 := (List.getElem?_eq_some_iff.mp hk).1
  rw [show k = 0 by omega] at hk
  cases hk
  exact (hR.2.2.2.2.2 o h0).2.2.2
theorem z_getf (hk : zk E K own cc nL h) {ci index : Nat} {q : vw_C} (k : Nat) (hc : zcl[ci]? = some q) (hkl : k < q.2.2) {H : Heap} {locs : List Loc} {ls : Array Slot} {cells slots : Nat} {rest : List Value} {r : Nat} (hR : zRp E σ H) (hκ : zK σ r = ci + 1)
    (hd : decode cc pc = .ok (.getfield index, 3)) (hl : (Cond.fieldLink own index (q.2.1 k).1 (q.2.1 k).2.1 (q.2.1 k).2.2.1) ∈ lw_tbl) {v : Value} (hv : (zfv E σ r (zft (ci + 1)))[k]? = some v)
    (kk : zWw E K H locs cells slots (F0 (cM K) (pc + 3) ls (v :: rest))) : zWw E K H locs cells slots (F0 (cM K) pc ls (.ref (eA E r) :: rest)) := by
  have hci : ci < 9 := (List.getElem?_eq_some_iff.mp hc).1
  obtain ⟨C, T, N⟩ := q
  have hP := zR_at hR (o := r) (by omega)
  rw [zent_ob hκ hci] at hP
  exact va_get hk.1 hk.2.1 (zl_of hk hc) (fun _ h => h) hk.2.2.2.1 (zK_of hk) hP 0 rfl hc k hkl (zw hk hl rfl) (fun _ h => h) hv hd kk
theorem z_gI (hk : zk E K own cc nL h) {ci index : Nat} {q : vw_C} (k : Nat) {r : Nat} {c : Int32 → Option α} (hd : decode cc pc = .ok (.getfield index, 3)) (hc : zcl[ci]? = some q) (hb : (zft (ci + 1))[k]? = some false)
    (hl : (Cond.fieldLink own index (q.2.1 k).1 (q.2.1 k).2.1 (q.2.1 k).2.2.1) ∈ lw_tbl) (kk : ∀ x, zG E K fin (c x) σ (pc + 3) lv (.inl x :: st)) : zG E K fin (zgI σ (ci + 1) r k c) σ pc lv (.inr (.inl r) :: st) := by
  intro hX w1 w2 w3 H locs ls hR ho hh
  by_cases hκ : zK σ r = ci + 1
  · unfold zgI at hX
    rw [if_pos hκ] at hX
    have hr0 : r ≠ 0 := (hR.2.2.2.2.2 r (by omega)).1
    have hkl := (List.getElem?_eq_some_iff.mp hb).1
    have hv := zfv_get (E := E) (σ := σ) (o := r) hkl
    rw [List.getD_eq_getElem?_getD, hb] at hv
    show zWw E K H locs _ _ (F0 _ _ _ (zrv E r :: _))
    rw [zrv_ref hr0]
    exact z_getf hk k hc (by rw [← (ztyp_ok ci q hc).2.2]; exact hkl) hR hκ hd hl hv (kk _ hX w1 w2 w3 H locs ls hR ho hh)
  · unfold zgI at hX
    rw [if_neg hκ] at hX
    obtain ⟨o, h1, -⟩ := hX
    cases h1
theorem z_gR (hk : zk E K own cc nL h) {ci index : Nat} {q : vw_C} (k : Nat) {r : Nat} {c : Nat → Option α} (hd : decode cc pc = .ok (.getfield index, 3)) (hc : zcl[ci]? = some q) (hb : (zft (ci + 1))[k]? = some true)
    (hl : (Cond.fieldLink own index (q.2.1 k).1 (q.2.1 k).2.1 (q.2.1 k).2.2.1) ∈ lw_tbl) (kk : ∀ x, zG E K fin (c x) σ (pc + 3) lv (.inr (.inl x) :: st)) : zG E K fin (zgR σ (ci + 1) r k c) σ pc lv (.inr (.inl r) :: st) := by
  intro hX w1 w2 w3 H locs ls hR ho hh
  by_cases hκ : zK σ r = ci + 1
  · unfold zgR at hX
    rw [if_pos hκ] at hX
    have hr0 : r ≠ 0 := (hR.2.2.2.2.2 r (by omega)).1
    have hkl := (List.getElem?_eq_some_iff.mp hb).1
    have hv := zfv_get (E := E) (σ := σ) (o := r) hkl
    rw [List.getD_eq_getElem?_getD, hb] at hv
    show zWw E K H locs _ _ (F0 _ _ _ (zrv E r :: _))
    rw [zrv_ref hr0]
    exact z_getf hk k hc (by rw [← (ztyp_ok ci q hc).2.2]; exact hkl) hR hκ hd hl hv (kk _ hX w1 w2 w3 H locs ls hR ho hh)
  · unfold zgR at hX
    rw [if_neg hκ] at hX
    obtain ⟨o, h1, -⟩ := hX
    cases h1
end ZC
end
section
/-! STORES -/
section ZS
variable {E : zE} {K : zC} {own : String} {cc : ByteArray} {nL h : Nat} {α : Type} {fin : α → zO} {X A B : Option α} {σ σ1 : zW} {pc : Nat} {lv : zLV} {st : List zV} {H H1 : Heap}
theorem zA_ge (hF : zFx E) {o : Nat} (h4 : 4 ≤ o) : eA E o = zB E + (o - 4) := hF.2.2.2.2.1 o h4
theorem zA_lt (hF : zFx E) {o : Nat} (h4 : o < 4) (h0 : o ≠ 0) : eA E o < zB E := hF.2.2.2.2.2.1 o h4 h0
theorem zR_ob (hR : zRp E σ H) {o : Nat} (h0 : zK σ o ≠ 0) : o ≠ 0 ∧ o < zN σ + 4 ∧ (o < 4 → zK σ o = 21) ∧ va_at (eD E) zcl (eA E o, zent E σ o) H := hR.2.2.2.2.2 o h0
theorem zA_ne (hF : zFx E) (hR : zRp E σ H) {o o' : Nat} (h0 : zK σ o ≠ 0) (h21 : zK σ o ≠ 21) (h0' : zK σ o' ≠ 0) (hne : o' ≠ o) : eA E o' ≠ eA E o := by
  obtain ⟨g1, g2, g3, -⟩ := zR_ob hR h0
  obtain ⟨f1, f2, f3, -⟩ := zR_ob hR h0'
  have h4 : 4 ≤ o := Nat.not_lt.mp fun h => h21 (g3 h)
  have e1 := zA_ge hF h4
  by_cases h5 : o' < 4
  · have := zA_lt hF h5 f1
    omega
  · have e2 := zA_ge hF (Nat.not_lt.mp h5)
    omega
theorem zA_new (hF : zFx E) (hR : zRp E σ H) {o : Nat} (h0 : zK σ o ≠ 0) (h21 : zK σ o ≠ 21) : zB E ≤ eA E o := by
  obtain ⟨g1, g2, g3, -⟩ := zR_ob hR h0
  rw [zA_ge hF (Nat.not_lt.mp fun h => h21 (g3 h))]
  omega
/-- one object's cell has changed: the heap holds the changed world -/
theorem zRp_upd (hF : zFx E) (hR : zRp E σ H) {o : Nat} (h0 : zK σ o ≠ 0) (h21 : zK σ o ≠ 21) (hK : zK σ1 = zK σ) (hN : zN σ1 = zN σ) (hS : zS σ1 = zS σ) (hoth : ∀ o', o' ≠ o → zent E σ1 o' = zent E σ o')
    (hs : H1.size = H.size) (hq : ∀ q : Nat, q ≠ eA E o → H1[q]? = H[q]?) (hsz : (H1[eA E o]?).map (fun (c : Cell) => c.slots.size) = (H[eA E o]?).map (fun (c : Cell) => c.slots.size)) (hat : va_at (eD E) zcl (eA E o, zent E σ1 o) H1) : zRp E σ1 H1 := by
  have hge := zA_new hF hR h0 h21
  refine ⟨by rw [hs, hN]; exact hR.1, fun q hlt => by rw [hq q (by omega)]; exact hR.2.1 q hlt, ?_, by rw [hN]; exact hR.2.2.2.1, by rw [hS]; exact hR.2.2.2.2.1, fun o' h0' => ?_⟩
  · rw [hS, ← hR.2.2.1]
    apply zsum_same hs
    intro q
    by_cases e : q = eA E o
    · rw [e]; exact hsz
    · rw [hq q e]
  · rw [hK] at h0' ⊢
    obtain ⟨f1, f2, f3, f4⟩ := zR_ob hR h0'
    refine ⟨f1, by rw [hN]; exact f2, f3, ?_⟩
    by_cases e : o' = o
    · rw [e]; exact hat
    · rw [hoth o' e]
      exact f4.kept (hq _ (zA_ne hF hR h0 h21 h0' e))
theorem zset_size (c : Cell) (i : Nat) (v : Value) : (c.setSlot i v).slots.size = c.slots.size := by
  simp [Cell.setSlot]
theorem zfv_setI {o k : Nat} {v : Int32} {l : List Bool} (hb : l[k]? = some false) : (zfv E σ o l).set k (.int v) = zfv E (stI σ o k v) o l := by
  have hkl := (List.getElem?_eq_some_iff.mp hb).1
  apply List.ext_getElem?
  intro j
  by_cases hj : j < l.length
  · rw [zfv_get (E := E) (σ := stI σ o k v) hj]
    by_cases e : j = k
    · subst e
      rw [List.getElem?_set_self (by rw [zfv_len]; exact hj), List.getD_eq_getElem?_getD, hb]
      simp [stI, zI, va_up]
    · rw [List.getElem?_set_ne (Ne.symm e), zfv_get (E := E) (σ := σ) hj]
      have : zI (stI σ o k v) o j = zI σ o j := by simp [stI, zI, va_up, e]
      rw [this]
      rfl
  · rw [List.getElem?_eq_none (by rw [List.length_set, zfv_len]; omega), List.getElem?_eq_none (by rw [zfv_len]; omega)]
theorem zfv_setR {o k v : Nat} {l : List Bool} (hb : l[k]? = some true) : (zfv E σ o l).set k (zrv E v) = zfv E (stR σ o k v) o l := by
  have hkl := (List.getElem?_eq_some_iff.mp hb).1
  apply List.ext_getElem?
  intro j
  by_cases hj : j < l.length
  · rw [zfv_get (E := E) (σ := stR σ o k v) hj]
    by_cases e : j = k
    · subst e
      rw [List.getElem?_set_self (by rw [zfv_len]; exact hj), List.getD_eq_getElem?_getD, hb]
      simp [stR, zR, va_up]
    · rw [List.getElem?_set_ne (Ne.symm e), zfv_get (E := E) (σ := σ) hj]
      have : zR (stR σ o k v) o j = zR σ o j := by simp [stR, zR, va_up, e]
      rw [this]
      rfl
  · rw [List.getElem?_eq_none (by rw [List.length_set, zfv_len]; omega), List.getElem?_eq_none (by rw [zfv_len]; omega)]
theorem zent_congr {o : Nat} (h1 : zI σ1 o = zI σ o) (h2 : zR σ1 o = zR σ o) (h3 : zK σ1 o = zK σ o) (h4 : zL σ1 o = zL σ o) (h5 : zD σ1 o = zD σ o) : zent E σ1 o = zent E σ o := by
  unfold zent zfv
  simp only [h1, h2, h3, h4, h5]
theorem zent_stI {o o' k : Nat} {v : Int32} (h : o' ≠ o) : zent E (stI σ o k v) o' = zent E σ o' := zent_congr (by simp [stI, zI, va_up, h]) rfl rfl rfl rfl
theorem zent_stR {o o' k v : Nat} (h : o' ≠ o) : zent E (stR σ o k v) o' = zent E σ o' := zent_congr rfl (by simp [stR, zR, va_up, h]) rfl rfl rfl
theorem zent_stA {o o' : Nat} {f : Nat → Int32} (h : o' ≠ o) : zent E (stA σ o f) o' = zent E σ o' := zent_congr (by simp [stA, zI, va_up, h]) rfl rfl rfl rfl
theorem zent_stD {o o' : Nat} {d : UInt64} (h : o' ≠ o) : zent E (stD σ o d) o' = zent E σ o' := zent_congr rfl rfl rfl rfl (by simp [stD, zD, va_up, h])
/-- a field is written, final (in a constructor of its class) or not -/
theorem z_putf (hk : zk E K own cc nL h) {ci index : Nat} {q : vw_C} (k : Nat) (hc : zcl[ci]? = some q) (hkl : k < q.2.2) {locs : List Loc} {ls : Array Slot} {cells slots : Nat} {rest : List Value} {r : Nat} (hR : zRp E σ H) (hκ : zK σ r = ci + 1)
    (hd : decode cc pc = .ok (.putfield index, 3)) (hl : (Cond.fieldLink own index (q.2.1 k).1 (q.2.1 k).2.1 (q.2.1 k).2.2.1) ∈ lw_tbl) (hfin : (q.2.1 k).2.2.2 = true → (cMe K).name = "<init>" ∧ (q.2.1 k).1 = own)
    {v : Value} (hn : narrow (ztyp ci k) v = v) (hfit : fits (ztyp ci k) v = true) {σ1 : zW} (hK1 : zK σ1 = zK σ) (hN1 : zN σ1 = zN σ) (hS1 : zS σ1 = zS σ) (hoth : ∀ o', o' ≠ r → zent E σ1 o' = zent E σ o') (hset : (zfv E σ r (zft (ci + 1))).set k v = zfv E σ1 r (zft (ci + 1)))
    (ho : ∀ q ∈ locs, zB E ≤ q.base) (kk : ∀ (H1 : Heap) (locs1 : List Loc), zRp E σ1 H1 → (∀ q ∈ locs1, zB E ≤ q.base) → zWw E K H1 locs1 cells slots (F0 (cM K) (pc + 3) ls rest)) : zWw E K H locs cells slots (F0 (cM K) pc ls (v :: .ref (eA E r) :: rest)) := by
  have hci : ci < 9 := (List.getElem?_eq_some_iff.mp hc).1
  have hF := zk_F hk
  have hKK := zK_of hk
  have hts := zl_of hk hc
  obtain ⟨hty, hnm, hlen⟩ := ztyp_ok ci q hc
  obtain ⟨C, T, N⟩ := q
  dsimp only at hkl hl hfin hts hty hnm hlen
  have hap := va_apart (own := own) hts (fun _ h => h) (ztyp ci) hty hnm hKK hc
  obtain ⟨g1, g2, g3, hP⟩ := zR_ob hR (o := r) (by omega)
  rw [zent_ob hκ hci] at hP
  obtain ⟨r0, h1, cell, q1, q2, q3, q4⟩ := hP
  have hr : r0 = (C, T, N) := Option.some.inj (h1.symm.trans hc)
  subst hr
  obtain ⟨hS, hfc, kC, hkC, hkind⟩ := hKK.1 ci _ hc
  obtain ⟨cf, kf, fi, f, hi, hsl⟩ := hS k hkl
  have hlay := hts _ (u_in_lay hkl)
  have hst := (u_facts hfc hkC (u_lays hts (fun _ h => h) hkl) hi).1
  have fin2 : ∀ H' : Heap, H'[eA E r]? = some (cell.setSlot f.slot v) → H'.size = H.size → (∀ q, q ≠ eA E r → H'[q]? = H[q]?) → zWw E K H' (locs ++ [⟨eA E r, f.slot⟩]) cells slots (F0 (cM K) (pc + 3) ls rest) := by
    intro H' e1 e2 e3
    rw [hsl] at e1
    refine kk H' _ (zRp_upd hF hR (o := r) (by omega) (by omega) hK1 hN1 hS1 hoth e2 e3 (by rw [e1, q1]; simp [zset_size]) ?_) (fun z hz => ?_)
    · rw [zent_ob (by rw [hK1]; exact hκ) hci, ← hset]
      exact ⟨_, hc, t_OB.to (V := updV (vp_V (zfv E σ r (zft (ci + 1)))) k v) ⟨_, e1, q2, q3, t_set q4 hap hkl v⟩ (fun j _ => vp_updV_set (by rw [zfv_len, hlen]; exact hkl) v j)⟩
    · rcases List.mem_append.mp hz with h | h
      · exact ho z h
      · rw [List.mem_singleton.mp h]
        exact zA_new hF hR (by omega) (by omega)
  have hlt : f.slot < cell.slots.size := by rw [hsl]; exact k2_hasslot (q4 k hkl)
  unfold u_lay at hlay
  by_cases hf : (T k).2.2.2 = true
  · rw [if_pos hf] at hlay
    have hcf : (cM K).cls = cf := by
      obtain ⟨_, _, c', _, _, _, -, -, hf', -, -, -, hown2, -⟩ := Cond.laysFinal_spec hlay
      have e1 : c' = cf := by have := hi.symm.trans hf'; simp at this; exact this.1.symm
      rw [(hfin hf).2] at hown2
      rw [← e1]; exact Option.some.inj (hk.2.2.2.1.symm.trans hown2)
    have h6 := u_fits hfc hkC hkind (Or.inr hlay) hi (hty k hkl) hn hfit
    exact W.putFinK hk.1 hk.2.1 hk.2.2.2.1 (zw hk hl rfl) hi hst hcf (hfin hf).1 (by rw [q2]; exact h6) q1 q3 hlt rfl rfl hd fin2
  · rw [if_neg hf] at hlay
    have h6 := u_store hfc hkC hkind hlay hi (hty k hkl) hn hfit
    exact W.putK hk.1 hk.2.1 (f := f) ⟨hk.2.2.2.1, zw hk hl rfl, ⟨_, _, _, hi⟩, hst⟩ (by rw [q2]; exact h6) q1 q3 hlt rfl rfl hd fin2
theorem z_none {P : Prop} (h : ∃ o : α, (none : Option α) = some o ∧ fin o = cO K) : P := by
  obtain ⟨o, h1, -⟩ := h
  cases h1
theorem z_pI (hk : zk E K own cc nL h) {ci index : Nat} {q : vw_C} (k : Nat) {r : Nat} {v : Int32} {c : zW → Option α} (hd : decode cc pc = .ok (.putfield index, 3)) (hc : zcl[ci]? = some q) (hb : (zft (ci + 1))[k]? = some false)
    (hl : (Cond.fieldLink own index (q.2.1 k).1 (q.2.1 k).2.1 (q.2.1 k).2.2.1) ∈ lw_tbl) (hfin : (q.2.1 k).2.2.2 = false) (hn : narrow (ztyp ci k) (.int v) = .int v) (hfit : fits (ztyp ci k) (.int v) = true) (kk : ∀ σ1, zG E K fin (c σ1) σ1 (pc + 3) lv st) : zG E K fin (zpI σ (ci + 1) r k v c) σ pc lv (.inl v :: .inr (.inl r) :: st) := by
  intro hX w1 w2 w3 H locs ls hR ho hh
  unfold zpI at hX
  by_cases hκ : zK σ r = ci + 1
  · rw [if_pos hκ] at hX
    have hr0 : r ≠ 0 := (zR_ob hR (o := r) (by omega)).1
    have hkl := (List.getElem?_eq_some_iff.mp hb).1
    rw [(ztyp_ok ci q hc).2.2] at hkl
    show zWw E K H locs _ _ (F0 _ _ _ (.int v :: zrv E r :: _))
    rw [zrv_ref hr0]
    exact z_putf hk k hc hkl hR hκ hd hl (fun h => by rw [hfin] at h; cases h) hn hfit (σ1 := stI σ r k v) rfl rfl rfl (fun o' h => zent_stI h) (zfv_setI hb) ho (fun H1 locs1 hR1 ho1 => kk _ hX w1 w2 w3 H1 locs1 ls hR1 ho1 hh)
  · rw [if_neg hκ] at hX
    exact z_none hX
theorem z_pR (hk : zk E K own cc nL h) {ci index : Nat} {q : vw_C} (k : Nat) {r v : Nat} {c : zW → Option α} (hd : decode cc pc = .ok (.putfield index, 3)) (hc : zcl[ci]? = some q) (hb : (zft (ci + 1))[k]? = some true)
    (hl : (Cond.fieldLink own index (q.2.1 k).1 (q.2.1 k).2.1 (q.2.1 k).2.2.1) ∈ lw_tbl) (hfin : (q.2.1 k).2.2.2 = true → (cMe K).name = "<init>" ∧ (q.2.1 k).1 = own) (hn : ∀ a, narrow (ztyp ci k) (.ref a) = .ref a ∧ fits (ztyp ci k) (.ref a) = true ∧ narrow (ztyp ci k) .null = .null ∧ fits (ztyp ci k) .null = true) (kk : ∀ σ1, zG E K fin (c σ1) σ1 (pc + 3) lv st) : zG E K fin (zpR σ (ci + 1) r k v c) σ pc lv (.inr (.inl v) :: .inr (.inl r) :: st) := by
  intro hX w1 w2 w3 H locs ls hR ho hh
  unfold zpR at hX
  by_cases hκ : zK σ r = ci + 1
  · rw [if_pos hκ] at hX
    have hr0 : r ≠ 0 := (zR_ob hR (o := r) (by omega)).1
    have hkl := (List.getElem?_eq_some_iff.mp hb).1
    rw [(ztyp_ok ci q hc).2.2] at hkl
    show zWw E K H locs _ _ (F0 _ _ _ (zrv E v :: zrv E r :: _))
    rw [zrv_ref hr0]
    have hv : narrow (ztyp ci k) (zrv E v) = zrv E v ∧ fits (ztyp ci k) (zrv E v) = true := by
      rcases zrv_cases E v with e | ⟨a, e⟩
      · rw [e]; exact ⟨(hn 0).2.2.1, (hn 0).2.2.2⟩
      · rw [e]; exact ⟨(hn a).1, (hn a).2.1⟩
    exact z_putf hk k hc hkl hR hκ hd hl hfin hv.1 hv.2 (σ1 := stR σ r k v) rfl rfl rfl (fun o' h => zent_stR h) (zfv_setR hb) ho (fun H1 locs1 hR1 ho1 => kk _ hX w1 w2 w3 H1 locs1 ls hR1 ho1 hh)
  · rw [if_neg hκ] at hX
    exact z_none hX
end ZS
end
section
/-! ROWS (ARRAYS) -/
abbrev zix (i : Int32) (n : Nat) : Prop := 0 ≤ i ∧ i.toNatClampNeg < n
def zaI {α : Type} (σ : zW) (r : Nat) (i : Int32) (c : Int32 → Option α) : Option α := if (zK σ r = 20 ∨ zK σ r = 21) ∧ zix i (zL σ r) then c (zI σ r i.toNatClampNeg) else none
def zaC {α : Type} (σ : zW) (r : Nat) (i : Int32) (c : Int32 → Option α) : Option α := if zK σ r = 22 ∧ zix i (zL σ r) then c (zI σ r i.toNatClampNeg) else none
def zaL {α : Type} (σ : zW) (r : Nat) (i : Int32) (c : Int32 → Option α) : Option α := if zK σ r = 23 ∧ zix i (zL σ r) then c (zI σ r i.toNatClampNeg) else none
def zaD {α : Type} (σ : zW) (r : Nat) (i : Int32) (c : UInt64 → Option α) : Option α := if zK σ r = 24 ∧ zix i (zL σ r) then c (zD σ r) else none
def zaR {α : Type} (σ : zW) (κ r : Nat) (i : Int32) (c : Nat → Option α) : Option α := if zK σ r = κ ∧ zix i (zL σ r) then c (zR σ r i.toNatClampNeg) else none
def zlen {α : Type} (σ : zW) (r : Nat) (c : Int32 → Option α) : Option α := if zK σ r = 20 ∨ zK σ r = 21 then c (Int32.ofNat (zL σ r)) else none
def zsI {α : Type} (σ : zW) (r : Nat) (i v : Int32) (c : zW → Option α) : Option α := if zK σ r = 20 ∧ zix i (zL σ r) then c (stI σ r i.toNatClampNeg v) else none
def zsC {α : Type} (σ : zW) (r : Nat) (i v : Int32) (c : zW → Option α) : Option α := if zK σ r = 22 ∧ zix i (zL σ r) then c (stI σ r i.toNatClampNeg (vp_nar .char v)) else none
def zsL {α : Type} (σ : zW) (r : Nat) (i v : Int32) (c : zW → Option α) : Option α := if zK σ r = 23 ∧ zix i (zL σ r) then c (stI σ r i.toNatClampNeg v) else none
def zsD {α : Type} (σ : zW) (r : Nat) (i : Int32) (v : UInt64) (c : zW → Option α) : Option α := if (zK σ r = 24 ∧ zL σ r = 1) ∧ zix i (zL σ r) then c (stD σ r v) else none
def zsR {α : Type} (σ : zW) (κ r : Nat) (i : Int32) (v : Nat) (c : zW → Option α) : Option α := if (zK σ r = κ ∧ zK σ v + 22 = κ) ∧ zix i (zL σ r) then c (stR σ r i.toNatClampNeg v) else none
def zcp {α : Type} (σ : zW) (r0 : Nat) (sp : Int32) (r1 : Nat) (dp n : Int32) (c : zW → Option α) : Option α :=
  if ((zK σ r0 = 20 ∨ zK σ r0 = 21) ∧ zK σ r1 = 20) ∧ (0 ≤ sp ∧ 0 ≤ dp ∧ 0 ≤ n) ∧ sp.toNatClampNeg + n.toNatClampNeg ≤ zL σ r0 ∧ dp.toNatClampNeg + n.toNatClampNeg ≤ zL σ r1 then c (stA σ r1 (va_cpy (zI σ r0) (zI σ r1) sp.toNatClampNeg dp.toNatClampNeg n.toNatClampNeg)) else none
def zdv {α : Type} (y : Int32) (X : Option α) : Option α := if y = 0 then none else X
def zdl {α : Type} (y : Int64) (X : Option α) : Option α := if y = 0 then none else X
def zdd {α : Type} (x y : UInt64) (c : UInt64 → Option α) : Option α := if (FP.ddiv x y) &&& 0x7fffffffffffffff ≤ 0x7ff0000000000000 then c (FP.ddiv x y) else none
section ZA
variable {E : zE} {K : zC} {own : String} {cc : ByteArray} {nL h : Nat} {α : Type} {fin : α → zO} {X A B : Option α} {σ σ1 : zW} {pc : Nat} {lv : zLV} {st : List zV} {H H1 : Heap}
theorem zix_in {i : Int32} {n : Nat} (h : zix i n) : vp_in i n := by
  rintro (g | g)
  · exact Int32.not_lt.mpr h.1 g
  · exact absurd h.2 (Nat.not_lt.mpr g)
theorem zent_i {o : Nat} (h : zK σ o = 20 ∨ zK σ o = 21 ∨ zK σ o = 22) : zent E σ o = .inl (eC E (zK σ o), zL σ o, .inl (zI σ o)) := by
  unfold zent
  rcases h with h | h | h <;> rw [h] <;> rfl
theorem zent_l {o : Nat} (h : zK σ o = 23) : zent E σ o = .inl (eC E 23, zL σ o, .inr (.inl (fun j => (zI σ o j).toInt64))) := by
  unfold zent
  rw [h]
  rfl
theorem zent_d {o : Nat} (h : zK σ o = 24) : zent E σ o = .inl (eC E 24, zL σ o, .inr (.inr (.inr (.inl (fun _ => zD σ o))))) := by
  unfold zent
  rw [h]
  rfl
theorem zent_q {o : Nat} (h : 25 ≤ zK σ o) : zent E σ o = .inl (eC E (zK σ o), zL σ o, .inr (.inr (.inr (.inr (fun j => zro E (zR σ o j)))))) := by
  unfold zent
  rw [if_neg (by omega), if_neg (by omega), if_neg (by omega), if_pos h]
theorem z_aI (hk : zk E K own cc nL h) {r : Nat} {i : Int32} {c : Int32 → Option α} (hd : decode cc pc = .ok (.iaload, 1)) (kk : ∀ x, zG E K fin (c x) σ (pc + 1) lv (.inl x :: st)) : zG E K fin (zaI σ r i c) σ pc lv (.inl i :: .inr (.inl r) :: st) := by
  intro hX w1 w2 w3 H locs ls hR ho hh
  unfold zaI at hX
  split at hX
  · next hc =>
    have h0 : zK σ r ≠ 0 := by rcases hc.1 with e | e <;> rw [e] <;> decide
    have hP := zR_at hR h0
    rw [zent_i (by rcases hc.1 with e | e <;> simp [e]), show eC E (zK σ r) = eC E 20 by rcases hc.1 with e | e <;> rw [e]; exact (zk_F hk).2.2.2.1] at hP
    show zWw E K H locs _ _ (F0 _ _ _ (.int i :: zrv E r :: _))
    rw [zrv_ref (zR_ob hR h0).1]
    exact va_iald hk.1 hk.2.1 (zK_of hk) hP 0 0 rfl rfl (zix_in hc.2) hd (kk _ hX w1 w2 w3 H locs ls hR ho hh)
  · exact z_none hX
theorem z_aC (hk : zk E K own cc nL h) {r : Nat} {i : Int32} {c : Int32 → Option α} (hd : decode cc pc = .ok (.caload, 1)) (kk : ∀ x, zG E K fin (c x) σ (pc + 1) lv (.inl x :: st)) : zG E K fin (zaC σ r i c) σ pc lv (.inl i :: .inr (.inl r) :: st) := by
  intro hX w1 w2 w3 H locs ls hR ho hh
  unfold zaC at hX
  split at hX
  · next hc =>
    have h0 : zK σ r ≠ 0 := by rw [hc.1]; decide
    have hP := zR_at hR h0
    rw [zent_i (by simp [hc.1]), hc.1] at hP
    show zWw E K H locs _ _ (F0 _ _ _ (.int i :: zrv E r :: _))
    rw [zrv_ref (zR_ob hR h0).1]
    exact va_cald hk.1 hk.2.1 (zK_of hk) hP 0 1 rfl rfl (zix_in hc.2) hd (kk _ hX w1 w2 w3 H locs ls hR ho hh)
  · exact z_none hX
theorem z_aL (hk : zk E K own cc nL h) {r : Nat} {i : Int32} {c : Int32 → Option α} (hd : decode cc pc = .ok (.laload, 1)) (kk : ∀ x : Int32, zG E K fin (c x) σ (pc + 1) lv (.inr (.inr (.inl x.toInt64)) :: st)) : zG E K fin (zaL σ r i c) σ pc lv (.inl i :: .inr (.inl r) :: st) := by
  intro hX w1 w2 w3 H locs ls hR ho hh
  unfold zaL at hX
  split at hX
  · next hc =>
    have h0 : zK σ r ≠ 0 := by rw [hc.1]; decide
    have hP := zR_at hR h0
    rw [zent_l hc.1] at hP
    show zWw E K H locs _ _ (F0 _ _ _ (.int i :: zrv E r :: _))
    rw [zrv_ref (zR_ob hR h0).1]
    exact va_lald hk.1 hk.2.1 (zK_of hk) hP 0 2 rfl rfl (zix_in hc.2) hd (kk _ hX w1 w2 w3 H locs ls hR ho hh)
  · exact z_none hX
theorem z_aD (hk : zk E K own cc nL h) {r : Nat} {i : Int32} {c : UInt64 → Option α} (hd : decode cc pc = .ok (.daload, 1)) (kk : ∀ x, zG E K fin (c x) σ (pc + 1) lv (.inr (.inr (.inr (.inl x))) :: st)) : zG E K fin (zaD σ r i c) σ pc lv (.inl i :: .inr (.inl r) :: st) := by
  intro hX w1 w2 w3 H locs ls hR ho hh
  unfold zaD at hX
  split at hX
  · next hc =>
    have h0 : zK σ r ≠ 0 := by rw [hc.1]; decide
    have hP := zR_at hR h0
    rw [zent_d hc.1] at hP
    show zWw E K H locs _ _ (F0 _ _ _ (.int i :: zrv E r :: _))
    rw [zrv_ref (zR_ob hR h0).1]
    exact va_dald hk.1 hk.2.1 (zK_of hk) hP 0 3 rfl rfl (zix_in hc.2) hd (kk _ hX w1 w2 w3 H locs ls hR ho hh)
  · exact z_none hX
theorem z_aR (hk : zk E K own cc nL h) {κ : Nat} (hκ : κ = 25 ∨ κ = 26) {r : Nat} {i : Int32} {c : Nat → Option α} (hd : decode cc pc = .ok (.aaload, 1)) (kk : ∀ x, zG E K fin (c x) σ (pc + 1) lv (.inr (.inl x) :: st)) : zG E K fin (zaR σ κ r i c) σ pc lv (.inl i :: .inr (.inl r) :: st) := by
  intro hX w1 w2 w3 H locs ls hR ho hh
  unfold zaR at hX
  split at hX
  · next hc =>
    have h0 : zK σ r ≠ 0 := by rw [hc.1]; omega
    have hP := zR_at hR h0
    rw [zent_q (by rw [hc.1]; omega), hc.1] at hP
    show zWw E K H locs _ _ (F0 _ _ _ (.int i :: zrv E r :: _))
    rw [zrv_ref (zR_ob hR h0).1]
    rcases hκ with e | e
    · subst e
      exact va_aldq hk.1 hk.2.1 (zK_of hk) hP 0 4 rfl rfl (zix_in hc.2) hd (kk _ hX w1 w2 w3 H locs ls hR ho hh)
    · subst e
      exact va_aldq hk.1 hk.2.1 (zK_of hk) hP 0 5 rfl rfl (zix_in hc.2) hd (kk _ hX w1 w2 w3 H locs ls hR ho hh)
  · exact z_none hX
theorem z_len (hk : zk E K own cc nL h) {r : Nat} {c : Int32 → Option α} (hd : decode cc pc = .ok (.arraylength, 1)) (kk : ∀ x, zG E K fin (c x) σ (pc + 1) lv (.inl x :: st)) : zG E K fin (zlen σ r c) σ pc lv (.inr (.inl r) :: st) := by
  intro hX w1 w2 w3 H locs ls hR ho hh
  unfold zlen at hX
  split at hX
  · next hc =>
    have h0 : zK σ r ≠ 0 := by rcases hc with e | e <;> rw [e] <;> decide
    have hP := zR_at hR h0
    rw [zent_i (by rcases hc with e | e <;> simp [e]), show eC E (zK σ r) = eC E 20 by rcases hc with e | e <;> rw [e]; exact (zk_F hk).2.2.2.1] at hP
    show zWw E K H locs _ _ (F0 _ _ _ (zrv E r :: _))
    rw [zrv_ref (zR_ob hR h0).1]
    exact va_alen hk.1 hk.2.1 (zK_of hk) hP 0 0 rfl rfl rfl hd (kk _ hX w1 w2 w3 H locs ls hR ho hh)
  · exact z_none hX
theorem zlocs {hF : zFx E} {hR : zRp E σ H} {locs : List Loc} {r j : Nat} (ho : ∀ q ∈ locs, zB E ≤ q.base) (h0 : zK σ r ≠ 0) (h21 : zK σ r ≠ 21) : ∀ q ∈ locs ++ [(⟨eA E r, j⟩ : Loc)], zB E ≤ q.base := by
  intro z hz
  rcases List.mem_append.mp hz with h | h
  · exact ho z h
  · rw [List.mem_singleton.mp h]
    exact zA_new hF hR h0 h21
theorem z_sI (hk : zk E K own cc nL h) {r : Nat} {i v : Int32} {c : zW → Option α} (hd : decode cc pc = .ok (.iastore, 1)) (kk : ∀ σ1, zG E K fin (c σ1) σ1 (pc + 1) lv st) : zG E K fin (zsI σ r i v c) σ pc lv (.inl v :: .inl i :: .inr (.inl r) :: st) := by
  intro hX w1 w2 w3 H locs ls hR ho hh
  unfold zsI at hX
  split at hX
  · next hc =>
    have h0 : zK σ r ≠ 0 := by rw [hc.1]; decide
    have h21 : zK σ r ≠ 21 := by rw [hc.1]; decide
    have hP := zR_at hR h0
    rw [zent_i (by simp [hc.1]), hc.1] at hP
    show zWw E K H locs _ _ (F0 _ _ _ (.int v :: .int i :: zrv E r :: _))
    rw [zrv_ref (zR_ob hR h0).1]
    refine W.iast hk.1 hk.2.1 (hP 0 _ rfl) (((zK_of hk).2 0 _ rfl).1 (zL σ r) (fun j => .int (zI σ r j))) (fun q => by cases q) (by show ¬ (i < 0 ∨ (arrV _ _ _).slots.size ≤ _); rw [arrV_size]; exact zix_in hc.2) rfl rfl hd fun H1 e z oq => ?_
    refine kk _ hX w1 w2 w3 H1 _ ls (zRp_upd (zk_F hk) hR h0 h21 rfl rfl rfl (fun o' h => zent_stI h) z oq ?_ ?_) (zlocs (hF := zk_F hk) (hR := hR) ho h0 h21) hh
    · have e0 : H[eA E r]? = some (vp_cell _ _) := hP 0 _ rfl
      rw [e, e0]
      simp [zset_size]
    · rw [zent_i (σ := stI σ r i.toNatClampNeg v) (by left; exact hc.1), show zK (stI σ r i.toNatClampNeg v) r = 20 from hc.1]
      show H1[eA E r]? = some (vp_cell _ _)
      rw [e, vp_cell_i, vp_cell_i, arrV_store]
      congr 2
      funext q
      by_cases hq : q = i.toNatClampNeg
      · subst hq
        simp [updV, stI, zI, va_up]
      · simp [updV, stI, zI, va_up, hq]
  · exact z_none hX
theorem z_sC (hk : zk E K own cc nL h) {r : Nat} {i v : Int32} {c : zW → Option α} (hd : decode cc pc = .ok (.castore, 1)) (kk : ∀ σ1, zG E K fin (c σ1) σ1 (pc + 1) lv st) : zG E K fin (zsC σ r i v c) σ pc lv (.inl v :: .inl i :: .inr (.inl r) :: st) := by
  intro hX w1 w2 w3 H locs ls hR ho hh
  unfold zsC at hX
  split at hX
  · next hc =>
    have h0 : zK σ r ≠ 0 := by rw [hc.1]; decide
    have h21 : zK σ r ≠ 21 := by rw [hc.1]; decide
    have hP := zR_at hR h0
    rw [zent_i (by simp [hc.1]), hc.1] at hP
    show zWw E K H locs _ _ (F0 _ _ _ (.int v :: .int i :: zrv E r :: _))
    rw [zrv_ref (zR_ob hR h0).1]
    refine W.cast hk.1 hk.2.1 (hP 0 _ rfl) (((zK_of hk).2 1 _ rfl).1 (zL σ r) (fun j => .int (zI σ r j))) (fun q => by cases q) (by show ¬ (i < 0 ∨ (arrV _ _ _).slots.size ≤ _); rw [arrV_size]; exact zix_in hc.2) rfl rfl hd fun H1 e z oq => ?_
    refine kk _ hX w1 w2 w3 H1 _ ls (zRp_upd (zk_F hk) hR h0 h21 rfl rfl rfl (fun o' h => zent_stI h) z oq ?_ ?_) (zlocs (hF := zk_F hk) (hR := hR) ho h0 h21) hh
    · have e0 : H[eA E r]? = some (vp_cell _ _) := hP 0 _ rfl
      rw [e, e0]
      simp [zset_size]
    · rw [zent_i (σ := stI σ r i.toNatClampNeg (vp_nar .char v)) (by right; right; exact hc.1), show zK (stI σ r i.toNatClampNeg (vp_nar .char v)) r = 22 from hc.1]
      show H1[eA E r]? = some (vp_cell _ _)
      rw [e, vp_cell_i, vp_cell_i, arrV_store]
      congr 2
      funext q
      by_cases hq : q = i.toNatClampNeg
      · subst hq
        simp [updV, stI, zI, va_up, vp_nar]
        rfl
      · simp [updV, stI, zI, va_up, hq]
  · exact z_none hX
theorem z_sL (hk : zk E K own cc nL h) {r : Nat} {i v : Int32} {c : zW → Option α} (hd : decode cc pc = .ok (.lastore, 1)) (kk : ∀ σ1, zG E K fin (c σ1) σ1 (pc + 1) lv st) : zG E K fin (zsL σ r i v c) σ pc lv (.inr (.inr (.inl v.toInt64)) :: .inl i :: .inr (.inl r) :: st) := by
  intro hX w1 w2 w3 H locs ls hR ho hh
  unfold zsL at hX
  split at hX
  · next hc =>
    have h0 : zK σ r ≠ 0 := by rw [hc.1]; decide
    have h21 : zK σ r ≠ 21 := by rw [hc.1]; decide
    have hP := zR_at hR h0
    rw [zent_l hc.1] at hP
    show zWw E K H locs _ _ (F0 _ _ _ (.long v.toInt64 :: .int i :: zrv E r :: _))
    rw [zrv_ref (zR_ob hR h0).1]
    refine W.last hk.1 hk.2.1 (hP 0 _ rfl) (((zK_of hk).2 2 _ rfl).1 (zL σ r) (fun j => .long (zI σ r j).toInt64)) (fun q => by cases q) (by show ¬ (i < 0 ∨ (arrV _ _ _).slots.size ≤ _); rw [arrV_size]; exact zix_in hc.2) rfl rfl hd fun H1 e z oq => ?_
    refine kk _ hX w1 w2 w3 H1 _ ls (zRp_upd (zk_F hk) hR h0 h21 rfl rfl rfl (fun o' h => zent_stI h) z oq ?_ ?_) (zlocs (hF := zk_F hk) (hR := hR) ho h0 h21) hh
    · have e0 : H[eA E r]? = some (vp_cell _ _) := hP 0 _ rfl
      rw [e, e0]
      simp [zset_size]
    · rw [zent_l (σ := stI σ r i.toNatClampNeg v) hc.1]
      show H1[eA E r]? = some (vp_cell _ _)
      rw [e, vp_cell_l, vp_cell_l, arrV_store]
      congr 2
      funext q
      by_cases hq : q = i.toNatClampNeg
      · subst hq
        simp [updV, stI, zI, va_up]
      · simp [updV, stI, zI, va_up, hq]
  · exact z_none hX
theorem z_sD (hk : zk E K own cc nL h) {r : Nat} {i : Int32} {v : UInt64} {c : zW → Option α} (hd : decode cc pc = .ok (.dastore, 1)) (kk : ∀ σ1, zG E K fin (c σ1) σ1 (pc + 1) lv st) : zG E K fin (zsD σ r i v c) σ pc lv (.inr (.inr (.inr (.inl v))) :: .inl i :: .inr (.inl r) :: st) := by
  intro hX w1 w2 w3 H locs ls hR ho hh
  unfold zsD at hX
  split at hX
  · next hc =>
    obtain ⟨⟨hc1, hL1⟩, hc2⟩ := hc
    have h0 : zK σ r ≠ 0 := by rw [hc1]; decide
    have h21 : zK σ r ≠ 21 := by rw [hc1]; decide
    have hP := zR_at hR h0
    rw [zent_d hc1] at hP
    show zWw E K H locs _ _ (F0 _ _ _ (.double v :: .int i :: zrv E r :: _))
    rw [zrv_ref (zR_ob hR h0).1]
    refine W.dast hk.1 hk.2.1 (hP 0 _ rfl) (((zK_of hk).2 3 _ rfl).1 (zL σ r) (fun j => .double (zD σ r))) (fun q => by cases q) (by show ¬ (i < 0 ∨ (arrV _ _ _).slots.size ≤ _); rw [arrV_size]; exact zix_in hc2) rfl rfl hd fun H1 e z oq => ?_
    refine kk _ hX w1 w2 w3 H1 _ ls (zRp_upd (zk_F hk) hR h0 h21 rfl rfl rfl (fun o' h => zent_stD h) z oq ?_ ?_) (zlocs (hF := zk_F hk) (hR := hR) ho h0 h21) hh
    · have e0 : H[eA E r]? = some (vp_cell _ _) := hP 0 _ rfl
      rw [e, e0]
      simp [zset_size]
    · rw [zent_d (σ := stD σ r v) hc1]
      show H1[eA E r]? = some (vp_cell _ _)
      rw [e, vp_cell_d, vp_cell_d, arrV_store, show zL (stD σ r v) r = zL σ r from rfl]
      have hi : i.toNatClampNeg = 0 := by have := hc2.2; omega
      rw [hi, hL1]
      simp only [arrV, updV]
      congr 2
      simp [stD, zD, va_up]
  · exact z_none hX
theorem z_sR (hk : zk E K own cc nL h) {κ : Nat} (hκ : κ = 25 ∨ κ = 26) {r v : Nat} {i : Int32} {c : zW → Option α} (hd : decode cc pc = .ok (.aastore, 1)) (kk : ∀ σ1, zG E K fin (c σ1) σ1 (pc + 1) lv st) : zG E K fin (zsR σ κ r i v c) σ pc lv (.inr (.inl v) :: .inl i :: .inr (.inl r) :: st) := by
  intro hX w1 w2 w3 H locs ls hR ho hh
  unfold zsR at hX
  split at hX
  · next hc =>
    obtain ⟨⟨hc1, hv1⟩, hc2⟩ := hc
    have h0 : zK σ r ≠ 0 := by rw [hc1]; omega
    have h21 : zK σ r ≠ 21 := by rw [hc1]; omega
    have h0v : zK σ v ≠ 0 := by omega
    have hP := zR_at hR h0
    rw [zent_q (by rw [hc1]; omega), hc1] at hP
    have hPv := zR_at hR h0v
    have hlt : i.toNatClampNeg < zL σ r := hc2.2
    obtain ⟨ci, q, cn, hci, hq, hty, hlt9⟩ : ∃ (ci : Nat) (q : vw_C) (tn : Nat), zK σ v = ci + 1 ∧ zcl[ci]? = some q ∧ (zty E)[tn]? = some (eC E κ, .object q.1) ∧ ci < 9 := by
      rcases hκ with e | e
      · exact ⟨2, _, 4, by omega, rfl, by rw [e]; rfl, by decide⟩
      · exact ⟨3, _, 5, by omega, rfl, by rw [e]; rfl, by decide⟩
    rw [zent_ob hci hlt9] at hPv
    show zWw E K H locs _ _ (F0 _ _ _ (zrv E v :: .int i :: zrv E r :: _))
    rw [zrv_ref (zR_ob hR h0).1, zrv_ref (zR_ob hR h0v).1]
    obtain ⟨r', hr', cellV, g1, g2, g3, -⟩ := hPv 0 _ rfl
    have hKK := zK_of hk
    have hcls := (hKK.1 ci q hq).2
    obtain ⟨kA, comp, k1, k2, k3, -⟩ := (hKK.2 cn _ hty).2
    have hcomp : comp = (eD E).1 ci := Option.some.inj (k3.symm.trans hcls.1)
    subst hcomp
    obtain ⟨kC, hkC, -⟩ := id hcls.2
    refine W.aast hk.1 hk.2.1 (hP 0 _ rfl) (fun q h => by cases h) (fun h => by cases h) k1 k2 rfl hkC ⟨Int32.not_lt.mpr hc2.1, by show _ < (arrV _ _ _).slots.size; rw [arrV_size]; exact hlt⟩ g1 (fun q h => by rw [g3] at h; cases h) (by rw [g2]; exact hkC) (by rw [g2]; exact va_assign hcls) rfl rfl hd fun H1 e z oq => ?_
    refine kk _ hX w1 w2 w3 H1 _ ls (zRp_upd (zk_F hk) hR h0 h21 rfl rfl rfl (fun o' h => zent_stR h) z oq ?_ ?_) (zlocs (hF := zk_F hk) (hR := hR) ho h0 h21) hh
    · have e0 : H[eA E r]? = some (vp_cell _ _) := hP 0 _ rfl
      rw [e, e0]
      simp [zset_size]
    · rw [zent_q (σ := stR σ r i.toNatClampNeg v) (by show 25 ≤ zK σ r; rw [hc1]; omega), show zK (stR σ r i.toNatClampNeg v) r = κ from hc1]
      show H1[eA E r]? = some (vp_cell _ _)
      rw [e, vp_cell_q, vp_cell_q, arrV_store]
      congr 2
      funext q
      by_cases hq : q = i.toNatClampNeg
      · subst hq
        simp only [updV, if_true]
        have : zR (stR σ r i.toNatClampNeg v) r i.toNatClampNeg = v := by simp [stR, zR, va_up]
        rw [this, ← zrv_ref (zR_ob hR h0v).1]
        rfl
      · have : zR (stR σ r i.toNatClampNeg v) r q = zR σ r q := by simp [stR, zR, va_up, hq]
        simp only [updV, if_neg hq, this]
  · exact z_none hX
end ZA
end
section
/-! WHAT IS MADE, COPIED, COMPUTED -/
def znO {α : Type} (σ : zW) (κ n : Nat) (c : Nat → zW → Option α) : Option α := if zN σ + 1 ≤ 603072 ∧ zS σ + n ≤ 7219305 then c (zN σ + 4) (nw σ κ n) else none
def znA {α : Type} (σ : zW) (κ : Nat) (n : Int32) (c : Nat → zW → Option α) : Option α := if 0 ≤ n ∧ zN σ + 1 ≤ 603072 ∧ zS σ + n.toNatClampNeg ≤ 7219305 then c (zN σ + 4) (nw σ κ n.toNatClampNeg) else none
def zprim : FieldType → Bool
  | .object _ => false
  | _ => true
def zdef (l : List Bool) (k : Nat) : Value := if l.getD k false = true then .null else .int 0
theorem zdefs : ∀ ci : Nat, ∀ q : vw_C, zcl[ci]? = some q → ∀ j, j < q.2.2 → defaultValue (ztyp ci j) = zdef (zft (ci + 1)) j := by
  intro ci q hq
  match ci, hq with
  | 0, hq => cases hq; decide +kernel
  | 1, hq => cases hq; decide +kernel
  | 2, hq => cases hq; decide +kernel
  | 3, hq => cases hq; decide +kernel
  | 4, hq => cases hq; decide +kernel
  | 5, hq => cases hq; decide +kernel
  | 6, hq => cases hq; decide +kernel
  | 7, hq => cases hq; decide +kernel
  | 8, hq => cases hq; decide +kernel
  | n + 9, hq => simp at hq
section ZM
variable {E : zE} {K : zC} {own : String} {cc : ByteArray} {nL h : Nat} {α : Type} {fin : α → zO} {X A B : Option α} {σ σ1 : zW} {pc : Nat} {lv : zLV} {st : List zV} {H H1 : Heap}
theorem zent_nw {κ n o : Nat} (h : o ≠ zN σ + 4) : zent E (nw σ κ n) o = zent E σ o := zent_congr (by simp [nw, zI, va_up, h]) (by simp [nw, zR, va_up, h]) (by simp [nw, zK, va_up, h]) (by simp [nw, zL, va_up, h]) (by simp [nw, zD, va_up, h])
theorem zK_nw {κ n o : Nat} (h : o ≠ zN σ + 4) : zK (nw σ κ n) o = zK σ o := by simp [nw, zK, va_up, h]
theorem zK_nws {κ n : Nat} : zK (nw σ κ n) (zN σ + 4) = κ := by simp [nw, zK, va_up]
theorem zRp_push (hF : zFx E) (hR : zRp E σ H) {κ n : Nat} {x : Cell} (hs : H1.size = H.size + 1) (hq : ∀ q : Nat, q < H.size → H1[q]? = H[q]?) (hx : H1[H.size]? = some x) (hz : x.slots.size = n) (hn1 : zN σ + 1 ≤ 603072) (hn2 : zS σ + n ≤ 7219305)
    (hat : va_at (eD E) zcl (H.size, zent E (nw σ κ n) (zN σ + 4)) H1) : zRp E (nw σ κ n) H1 := by
  have hsz := hR.1
  refine ⟨by rw [hs, hsz]; rfl, fun q hlt => by rw [hq q (by omega)]; exact hR.2.1 q hlt, ?_, hn1, hn2, fun o h0 => ?_⟩
  · rw [zsum_push (by omega) hs hq hx, hR.2.2.1, hz]
    rfl
  · by_cases e : o = zN σ + 4
    · subst e
      refine ⟨by omega, by show _ < zN σ + 1 + 4; omega, fun h => by omega, ?_⟩
      have e2 : eA E (zN σ + 4) = H.size := by rw [zA_ge hF (by omega), hsz]; omega
      rw [e2]
      exact hat
    · rw [zK_nw e] at h0 ⊢
      obtain ⟨f1, f2, f3, f4⟩ := zR_ob hR h0
      refine ⟨f1, by show _ < zN σ + 1 + 4; omega, f3, ?_⟩
      rw [zent_nw e]
      exact f4.kept (hq _ f4.lt)
theorem zcR (hk : zk E K own cc nL h) : (cR K).cells = 603072 - zN (c0 K) ∧ (cR K).slots = 7219305 - zS (c0 K) ∧ zRp E (c0 K) (cS K).heap := ⟨hk.2.2.2.2.2.2.2.1, hk.2.2.2.2.2.2.2.2.1, hk.2.2.2.2.2.2.2.2.2.2.2⟩
theorem z_new (hk : zk E K own cc nL h) {ci index : Nat} {q : vw_C} {c : Nat → zW → Option α} (hd : decode cc pc = .ok (.new index, 3)) (hc : zcl[ci]? = some q) (hcl : Cond.classLink own index q.1 ∈ lw_tbl) (hins : Cond.instantiable q.1 q.2.2 ∈ lw_tbl) (hini : Cond.initialized q.1 ∈ lw_tbl)
    (kk : ∀ r σ1, zG E K fin (c r σ1) σ1 (pc + 3) lv (.inr (.inl r) :: st)) : zG E K fin (znO σ (ci + 1) q.2.2 c) σ pc lv st := by
  intro hX w1 w2 w3 H locs ls hR ho hh
  unfold znO at hX
  split at hX
  · next hn =>
    obtain ⟨r1, r2, r3⟩ := zcR hk
    have hF := zk_F hk
    have hsz := hR.1
    have hci : ci < 9 := (List.getElem?_eq_some_iff.mp hc).1
    have hKK := zK_of hk
    have hts := zl_of hk hc
    obtain ⟨hty, -, hlen⟩ := ztyp_ok ci q hc
    refine z_tight (k := zN σ - zN (c0 K)) (n := zS σ - zS (c0 K)) r3 hR (by omega) (by omega) ?_
    have hKn := hKK.1 ci _ hc
    refine W.newc hk.1 hk.2.1 hk.2.2.2.1 (zw hk hcl rfl) (zw hk hins rfl) (zw hk hini rfl) rfl hd (by rw [r1]; omega) (by rw [r2]; omega) fun cC kC h1 h2 h3 h4 => ?_
    refine W.widen (k := (cR K).cells) (n := (cR K).slots) (by rw [r1]; omega) (by rw [r2]; omega) ?_
    have e2 : eA E (zN σ + 4) = H.size := by rw [zA_ge hF (by omega), hsz]; omega
    have hpush : (H.push ({ cls := cC, slots := kC.instanceTypes.map defaultValue, vm := .none } : Cell))[H.size]? = some (blank cC kC) := by simp [blank]
    have hgo := kk (zN σ + 4) (nw σ (ci + 1) q.2.2) hX (by show _ ≤ zN σ + 1; omega) (by show _ ≤ zS σ + q.2.2; omega) w3 (H.push { cls := cC, slots := kC.instanceTypes.map defaultValue, vm := .none }) locs ls
      (zRp_push hF hR (by simp) (fun q hq => by rw [Array.getElem?_push, if_neg (Nat.ne_of_lt hq)]) hpush (by simp [blank, h4]) hn.1 hn.2 ?_) ho hh
    · have e3 : (zv E (.inr (.inl (zN σ + 4)))) = .ref H.size := by
        show zrv E (zN σ + 4) = _
        rw [zrv_ref (by omega), e2]
      simp only [List.map_cons, e3] at hgo
      exact hgo
    · rw [zent_ob (σ := nw σ (ci + 1) q.2.2) (by exact zK_nws) hci]
      have hcC : cC = (eD E).1 ci := Option.some.inj (h1.symm.trans hKn.2.1)
      subst hcC
      refine ⟨q, hc, (u_born (ztyp ci) hts (fun _ h => h) hKn h2 hpush hty).to (fun j hj => ?_)⟩
      rw [zdefs ci q hc j hj]
      have hj2 : j < (zft (ci + 1)).length := by rw [hlen]; exact hj
      unfold vp_V
      rw [List.getD_eq_getElem?_getD, zfv_get (E := E) (σ := nw σ (ci + 1) q.2.2) (o := zN σ + 4) hj2]
      have hi0 : zI (nw σ (ci + 1) q.2.2) (zN σ + 4) j = 0 := by simp [nw, zI, va_up]
      have hr0 : zR (nw σ (ci + 1) q.2.2) (zN σ + 4) j = 0 := by simp [nw, zR, va_up]
      rw [hi0, hr0]
      rfl
  · exact z_none hX
theorem zty_cls (hk : zk E K own cc nL h) {tn κ : Nat} {ty : FieldType} (ht : (zty E)[tn]? = some (eC E κ, ty)) (hp : zprim ty = true) {cA : ClassId} (hf : (cS K).vm.findClass ("[" ++ ty.toString) = some cA) : cA = eC E κ := by
  have h1 := ((zK_of hk).2 tn _ ht).2
  cases ty <;> first | exact Option.some.inj (hf.symm.trans h1) | cases hp
theorem z_newa (hk : zk E K own cc nL h) {κ tn : Nat} {atype : ArrayType} {n : Int32} {c : Nat → zW → Option α} (hd : decode cc pc = .ok (.newarray atype, 2)) (harr : Cond.arrayClass (newarray.typeOf atype) ∈ lw_tbl) (ht : (zty E)[tn]? = some (eC E κ, newarray.typeOf atype)) (hp : zprim (newarray.typeOf atype) = true)
    (hby : componentBytes (newarray.typeOf atype) ≤ 8) (hent : ∀ (σ : zW) (o N : Nat), zK σ o = κ → zL σ o = N → zI σ o = (fun _ => 0) → zD σ o = 0 → ∃ x, zent E σ o = .inl (eC E κ, x) ∧ vp_cell (eC E κ) x = arrV (eC E κ) N (fun _ => defaultValue (newarray.typeOf atype)))
    (kk : ∀ r σ1, zG E K fin (c r σ1) σ1 (pc + 2) lv (.inr (.inl r) :: st)) : zG E K fin (znA σ κ n c) σ pc lv (.inl n :: st) := by
  intro hX w1 w2 w3 H locs ls hR ho hh
  unfold znA at hX
  split at hX
  · next hn =>
    obtain ⟨r1, r2, r3⟩ := zcR hk
    have hF := zk_F hk
    have hsz := hR.1
    refine z_tight (k := zN σ - zN (c0 K)) (n := zS σ - zS (c0 K)) r3 hR (by omega) (by omega) ?_
    refine va_newaK hk.1 hk.2.1 (zw hk harr rfl) rfl hd rfl (Int32.not_lt.mpr hn.1) rfl (by have := Nat.mul_le_mul_left n.toNatClampNeg hby; omega) (by rw [r1]; omega) (by rw [r2]; omega) (h := H.size) rfl fun H' cA e1 e2 e3 e4 e5 => ?_
    refine W.widen (k := (cR K).cells) (n := (cR K).slots) (by rw [r1]; omega) (by rw [r2]; omega) ?_
    have ea : eA E (zN σ + 4) = H.size := by rw [zA_ge hF (by omega), hsz]; omega
    have hcA := zty_cls hk ht hp e5
    subst hcA
    have hgo := kk (zN σ + 4) (nw σ κ n.toNatClampNeg) hX (by show _ ≤ zN σ + 1; omega) (by show _ ≤ zS σ + n.toNatClampNeg; omega) w3 H' locs ls
      (zRp_push hF hR e2 e3 e1 (by rw [arrV_size]) hn.2.1 hn.2.2 ?_) ho hh
    · have ev : (zv E (.inr (.inl (zN σ + 4)))) = .ref H.size := by
        show zrv E (zN σ + 4) = _
        rw [zrv_ref (by omega), ea]
      simp only [List.map_cons, ev] at hgo
      exact hgo
    · obtain ⟨x, g1, g2⟩ := hent (nw σ κ n.toNatClampNeg) (zN σ + 4) n.toNatClampNeg zK_nws (by simp [nw, zL, va_up]) (by simp [nw, zI, va_up]) (by simp [nw, zD, va_up])
      rw [g1]
      show H'[H.size]? = some (vp_cell _ _)
      rw [g2]
      exact e1
  · exact z_none hX
theorem zhent_i (E : zE) : ∀ (σ : zW) (o N : Nat), zK σ o = 20 → zL σ o = N → zI σ o = (fun _ => 0) → zD σ o = 0 → ∃ x, zent E σ o = .inl (eC E 20, x) ∧ vp_cell (eC E 20) x = arrV (eC E 20) N (fun _ => defaultValue (newarray.typeOf .int)) := fun σ o N h1 h2 h3 _ => ⟨_, by rw [zent_i (by left; exact h1), h1], by rw [vp_cell_i, h2, h3]; rfl⟩
theorem zhent_c (E : zE) : ∀ (σ : zW) (o N : Nat), zK σ o = 22 → zL σ o = N → zI σ o = (fun _ => 0) → zD σ o = 0 → ∃ x, zent E σ o = .inl (eC E 22, x) ∧ vp_cell (eC E 22) x = arrV (eC E 22) N (fun _ => defaultValue (newarray.typeOf .char)) := fun σ o N h1 h2 h3 _ => ⟨_, by rw [zent_i (by right; right; exact h1), h1], by rw [vp_cell_i, h2, h3]; rfl⟩
theorem zhent_l (E : zE) : ∀ (σ : zW) (o N : Nat), zK σ o = 23 → zL σ o = N → zI σ o = (fun _ => 0) → zD σ o = 0 → ∃ x, zent E σ o = .inl (eC E 23, x) ∧ vp_cell (eC E 23) x = arrV (eC E 23) N (fun _ => defaultValue (newarray.typeOf .long)) := fun σ o N h1 h2 h3 _ => ⟨_, by rw [zent_l h1], by rw [vp_cell_l, h2, h3]; rfl⟩
theorem zhent_d (E : zE) : ∀ (σ : zW) (o N : Nat), zK σ o = 24 → zL σ o = N → zI σ o = (fun _ => 0) → zD σ o = 0 → ∃ x, zent E σ o = .inl (eC E 24, x) ∧ vp_cell (eC E 24) x = arrV (eC E 24) N (fun _ => defaultValue (newarray.typeOf .double)) := fun σ o N h1 h2 _ h4 => ⟨_, by rw [zent_d h1], by rw [vp_cell_d, h2, h4]; rfl⟩
theorem z_newq (hk : zk E K own cc nL h) {κ tn index : Nat} {C : String} (hκ : 25 ≤ κ) {n : Int32} {c : Nat → zW → Option α} (hd : decode cc pc = .ok (.anewarray index, 3)) (hcl : Cond.classLink own index C ∈ lw_tbl) (hov : Cond.arrayOver (.object C) ∈ lw_tbl) (ht : (zty E)[tn]? = some (eC E κ, .object C))
    (kk : ∀ r σ1, zG E K fin (c r σ1) σ1 (pc + 3) lv (.inr (.inl r) :: st)) : zG E K fin (znA σ κ n c) σ pc lv (.inl n :: st) := by
  intro hX w1 w2 w3 H locs ls hR ho hh
  unfold znA at hX
  split at hX
  · next hn =>
    obtain ⟨r1, r2, r3⟩ := zcR hk
    have hF := zk_F hk
    have hsz := hR.1
    refine z_tight (k := zN σ - zN (c0 K)) (n := zS σ - zS (c0 K)) r3 hR (by omega) (by omega) ?_
    have hover : va_AO C (cS K) := va_AO.moved hk.2.2.2.2.2.1.alike (hF.2.1 _ hov)
    refine W.anew hk.1 hk.2.1 hk.2.2.2.1 (zw hk hcl rfl) (va_AO.use hover) rfl hd rfl (Int32.not_lt.mpr hn.1) (by omega) (by rw [r1]; omega) (by rw [r2]; omega) fun cA kA comp f1 f2 f3 f4 => ?_
    refine W.widen (k := (cR K).cells) (n := (cR K).slots) (by rw [r1]; omega) (by rw [r2]; omega) ?_
    have ea : eA E (zN σ + 4) = H.size := by rw [zA_ge hF (by omega), hsz]; omega
    have hcA : cA = eC E κ := by
      obtain ⟨kB, cB, g1, g2, g3, g4⟩ := ((zK_of hk).2 tn _ ht).2
      exact Option.some.inj (f1.symm.trans g4)
    subst hcA
    have hx : (H.push ({ cls := eC E κ, slots := Array.replicate n.toNatClampNeg .null, vm := .none } : Cell))[H.size]? = some (arrV (eC E κ) n.toNatClampNeg (fun _ => .null)) := by rw [Array.getElem?_push_size, ← arrV_new]
    have hgo := kk (zN σ + 4) (nw σ κ n.toNatClampNeg) hX (by show _ ≤ zN σ + 1; omega) (by show _ ≤ zS σ + n.toNatClampNeg; omega) w3 (H.push { cls := eC E κ, slots := Array.replicate n.toNatClampNeg .null, vm := .none }) locs ls
      (zRp_push hF hR (by simp) (fun q hq => by rw [Array.getElem?_push, if_neg (Nat.ne_of_lt hq)]) hx (by rw [arrV_size]) hn.2.1 hn.2.2 ?_) ho hh
    · have ev : (zv E (.inr (.inl (zN σ + 4)))) = .ref H.size := by
        show zrv E (zN σ + 4) = _
        rw [zrv_ref (by omega), ea]
      simp only [List.map_cons, ev] at hgo
      exact hgo
    · rw [zent_q (σ := nw σ κ n.toNatClampNeg) (by rw [zK_nws]; exact hκ), zK_nws]
      show (H.push _)[H.size]? = some (vp_cell _ _)
      rw [hx, vp_cell_q]
      have h1 : zL (nw σ κ n.toNatClampNeg) (zN σ + 4) = n.toNatClampNeg := by simp [nw, zL, va_up]
      have h2 : zR (nw σ κ n.toNatClampNeg) (zN σ + 4) = fun _ => 0 := by simp [nw, zR, va_up]
      rw [h1, h2]
      rfl
  · exact z_none hX
theorem z_oinit (hk : zk E K own cc nL h) {index r : Nat} (hd : decode cc pc = .ok (.invokespecial index, 3)) (hl : Cond.methodLink own index Lib.objectInit ∈ lw_tbl) (hi : Cond.instanceMethod Lib.objectInit ∈ lw_tbl) (hcd : Cond.code Lib.objectInit ⟨#[0xb1]⟩ 1 none ∈ lw_tbl) (hh1 : 1 ≤ h) (hr : r ≠ 0) (hst : (st.map (zv E)).length ≤ 8)
    (k : zG E K fin X σ (pc + 3) lv st) : zG E K fin X σ pc lv (.inr (.inl r) :: st) := by
  intro hX w1 w2 w3 H locs ls hR ho hh
  show zWw E K H locs _ _ (F0 _ _ _ (zrv E r :: _))
  rw [zrv_ref hr]
  have h3 : h ≤ (cR K).frames := hk.2.2.2.2.2.2.2.2.2.1
  have h4 : 100 * h ≤ (cR K).locals := hk.2.2.2.2.2.2.2.2.2.2.1
  refine W.objInit hk.1 hk.2.1 hk.2.2.2.1 (zw hk hl rfl) (zw hk hi rfl) (zw hk hcd rfl) rfl (by rw [hh.1]) rfl hd (Nat.le_trans hh1 h3) ?_ (k hX w1 w2 w3 H locs ls hR ho hh)
  have : ∀ l : List Value, (l.map fun v => v.category).sum ≤ 2 * l.length := by
    intro l
    induction l with
    | nil => exact Nat.zero_le _
    | cons a t ih =>
      have : a.category ≤ 2 := by cases a <;> simp [Value.category]
      simp only [List.map_cons, List.sum_cons, List.length_cons]
      omega
  have h5 := this (st.map (zv E))
  show 2 * 0 + _ + 12 ≤ _
  omega
end ZM
end
section
/-! THE LIBRARY'S FEW, CONSTANTS, DIVISIONS, SWITCHES, STATICS -/
section ZL
variable {E : zE} {K : zC} {own : String} {cc : ByteArray} {nL h : Nat} {α : Type} {fin : α → zO} {X A B : Option α} {σ σ1 : zW} {pc : Nat} {lv : zLV} {st : List zV} {H H1 : Heap}
theorem zcatsum : ∀ l : List Value, (l.map fun v => v.category).sum ≤ 2 * l.length := by
  intro l
  induction l with
  | nil => exact Nat.zero_le _
  | cons a t ih =>
    have : a.category ≤ 2 := by cases a <;> simp [Value.category]
    simp only [List.map_cons, List.sum_cons, List.length_cons]
    omega
theorem zcatst (hst : st.length ≤ 8) : ((st.map (zv E)).map fun v => v.category).sum ≤ 16 := by
  have := zcatsum (st.map (zv E))
  rw [List.length_map] at this
  omega
theorem zhf (hk : zk E K own cc nL h) : h ≤ (cR K).frames := hk.2.2.2.2.2.2.2.2.2.1
theorem zhl (hk : zk E K own cc nL h) : 100 * h ≤ (cR K).locals := hk.2.2.2.2.2.2.2.2.2.2.1
theorem z_mmax (hk : zk E K own cc nL h) {index : Nat} {x y : Int32} {c : Int32 → Option α} (hd : decode cc pc = .ok (.invokestatic index, 3)) (hl : Cond.methodLink own index Lib.Math.max.name ∈ lw_tbl) (hs : Cond.static Lib.Math.max.name ∈ lw_tbl) (hi : Cond.initialized "java/lang/Math" ∈ lw_tbl) (hc : Cond.code Lib.Math.max.name Lib.Math.max.code 2 (some .int) ∈ lw_tbl)
    (hh1 : 1 ≤ h) (hst : st.length ≤ 8) (k : zG E K fin X σ (pc + 3) lv (.inl (if x < y then y else x) :: st)) : zG E K fin X σ pc lv (.inl y :: .inl x :: st) := by
  intro hX w1 w2 w3 H locs ls hR ho hh
  have := zcatst (E := E) hst
  exact va_mmax hk.1 hk.2.1 hh.1.symm hk.2.2.2.1 (zw hk hl rfl) (zw hk hs rfl) (zw hk hi rfl) (zw hk hc rfl) (Nat.le_trans hh1 (zhf hk)) (by have := zhl hk; omega) (Nat.le_refl _) (Nat.le_refl _) hd (k hX w1 w2 w3 H locs ls hR ho hh)
theorem z_mmin (hk : zk E K own cc nL h) {index : Nat} {x y : Int32} {c : Int32 → Option α} (hd : decode cc pc = .ok (.invokestatic index, 3)) (hl : Cond.methodLink own index Lib.Math.min.name ∈ lw_tbl) (hs : Cond.static Lib.Math.min.name ∈ lw_tbl) (hi : Cond.initialized "java/lang/Math" ∈ lw_tbl) (hc : Cond.code Lib.Math.min.name Lib.Math.min.code 2 (some .int) ∈ lw_tbl)
    (hh1 : 1 ≤ h) (hst : st.length ≤ 8) (k : zG E K fin X σ (pc + 3) lv (.inl (if y < x then y else x) :: st)) : zG E K fin X σ pc lv (.inl y :: .inl x :: st) := by
  intro hX w1 w2 w3 H locs ls hR ho hh
  have := zcatst (E := E) hst
  exact va_mmin hk.1 hk.2.1 hh.1.symm hk.2.2.2.1 (zw hk hl rfl) (zw hk hs rfl) (zw hk hi rfl) (zw hk hc rfl) (Nat.le_trans hh1 (zhf hk)) (by have := zhl hk; omega) (Nat.le_refl _) (Nat.le_refl _) hd (k hX w1 w2 w3 H locs ls hR ho hh)
theorem z_ldc (hk : zk E K own cc nL h) {index : Nat} {v : Int32} (hd : decode cc pc = .ok (.ldc index, 2)) (hl : Cond.constant own index v ∈ lw_tbl) (k : zG E K fin X σ (pc + 2) lv (.inl v :: st)) : zG E K fin X σ pc lv st := by
  intro hX w1 w2 w3 H locs ls hR ho hh
  exact lv_ldc hk.1 hk.2.1 hk.2.2.2.1 (zw hk hl rfl) hd (k hX w1 w2 w3 H locs ls hR ho hh)
theorem z_ldcw (hk : zk E K own cc nL h) {index : Nat} {v : Int32} (hd : decode cc pc = .ok (.ldc_w index, 3)) (hl : Cond.constant own index v ∈ lw_tbl) (k : zG E K fin X σ (pc + 3) lv (.inl v :: st)) : zG E K fin X σ pc lv st := by
  intro hX w1 w2 w3 H locs ls hR ho hh
  exact lv_ldcw hk.1 hk.2.1 hk.2.2.2.1 (zw hk hl rfl) hd (k hX w1 w2 w3 H locs ls hR ho hh)
theorem z_idiv (hk : zk E K own cc nL h) {x y : Int32} (hd : decode cc pc = .ok (.idiv, 1)) (k : zG E K fin X σ (pc + 1) lv (.inl (x / y) :: st)) : zG E K fin (zdv y X) σ pc lv (.inl y :: .inl x :: st) := by
  intro hX w1 w2 w3 H locs ls hR ho hh
  unfold zdv at hX
  split at hX
  · exact z_none hX
  · next hy => exact lv_idiv hk.1 hk.2.1 hd hy (k hX w1 w2 w3 H locs ls hR ho hh)
theorem z_irem (hk : zk E K own cc nL h) {x y : Int32} (hd : decode cc pc = .ok (.irem, 1)) (k : zG E K fin X σ (pc + 1) lv (.inl (x - x / y * y) :: st)) : zG E K fin (zdv y X) σ pc lv (.inl y :: .inl x :: st) := by
  intro hX w1 w2 w3 H locs ls hR ho hh
  unfold zdv at hX
  split at hX
  · exact z_none hX
  · next hy => exact lv_irem hk.1 hk.2.1 hd hy (k hX w1 w2 w3 H locs ls hR ho hh)
theorem z_ldiv (hk : zk E K own cc nL h) {x y : Int64} (hd : decode cc pc = .ok (.ldiv, 1)) (k : zG E K fin X σ (pc + 1) lv (.inr (.inr (.inl (x / y))) :: st)) : zG E K fin (zdl y X) σ pc lv (.inr (.inr (.inl y)) :: .inr (.inr (.inl x)) :: st) := by
  intro hX w1 w2 w3 H locs ls hR ho hh
  unfold zdl at hX
  split at hX
  · exact z_none hX
  · next hy => exact lv_ldiv hk.1 hk.2.1 hd hy (k hX w1 w2 w3 H locs ls hR ho hh)
theorem z_ddiv (hk : zk E K own cc nL h) {x y : UInt64} {c : UInt64 → Option α} (hd : decode cc pc = .ok (.ddiv, 1)) (k : ∀ z, zG E K fin (c z) σ (pc + 1) lv (.inr (.inr (.inr (.inl z))) :: st)) : zG E K fin (zdd x y c) σ pc lv (.inr (.inr (.inr (.inl y))) :: .inr (.inr (.inr (.inl x))) :: st) := by
  intro hX w1 w2 w3 H locs ls hR ho hh
  unfold zdd at hX
  split at hX
  · next hy => exact lv_ddiv hk.1 hk.2.1 hd hy (k _ hX w1 w2 w3 H locs ls hR ho hh)
  · exact z_none hX
theorem z_tabI (hk : zk E K own cc nL h) {dflt lo hi : Int} {offs : Array Int} {len : Nat} {x c : Int32} {off : Int} {tgt : Nat} (hd : decode cc pc = .ok (.tableswitch dflt lo hi offs, len)) (h1 : lo ≤ c.toInt) (h2 : c.toInt ≤ hi) (ho9 : offs[(c.toInt - lo).toNat]? = some off) (ht : (pc : Int) + off = (tgt : Int))
    (kt : zG E K fin A σ tgt lv st) (kf : ¬ x = c → zG E K fin B σ pc lv (.inl x :: st)) : zG E K fin (if x = c then A else B) σ pc lv (.inl x :: st) := by
  intro hX w1 w2 w3 H locs ls hR ho hh
  by_cases hc : x = c
  · rw [if_pos hc] at hX
    subst hc
    exact lv_tableIn hk.1 hk.2.1 hd (by omega) (by omega) ho9 ht (kt hX w1 w2 w3 H locs ls hR ho hh)
  · rw [if_neg hc] at hX
    exact kf hc hX w1 w2 w3 H locs ls hR ho hh
theorem z_tabO (hk : zk E K own cc nL h) {dflt lo hi : Int} {offs : Array Int} {len : Nat} {x : Int32} {tgt : Nat} (hd : decode cc pc = .ok (.tableswitch dflt lo hi offs, len)) (hx : x.toInt < lo ∨ hi < x.toInt) (ht : (pc : Int) + dflt = (tgt : Int))
    (k : zG E K fin A σ tgt lv st) : zG E K fin A σ pc lv (.inl x :: st) := by
  intro hX w1 w2 w3 H locs ls hR ho hh
  exact lv_tableOut hk.1 hk.2.1 hd hx ht (k hX w1 w2 w3 H locs ls hR ho hh)
theorem z_lkI (hk : zk E K own cc nL h) {dflt : Int} {ps : Array (Int × Int)} {len : Nat} {x c : Int32} {tgt : Nat} (hd : decode cc pc = .ok (.lookupswitch dflt ps, len)) (hp : (ps.toList.zip (ps.toList.drop 1)).all (fun (a, next) => a.1 < next.1) = true) (ht : (pc : Int) + Op.lookupswitch.offset ps.toList dflt c.toInt = (tgt : Int))
    (kt : zG E K fin A σ tgt lv st) (kf : ¬ x = c → zG E K fin B σ pc lv (.inl x :: st)) : zG E K fin (if x = c then A else B) σ pc lv (.inl x :: st) := by
  intro hX w1 w2 w3 H locs ls hR ho hh
  by_cases hc : x = c
  · rw [if_pos hc] at hX
    subst hc
    exact lv_lookup hk.1 hk.2.1 hd hp rfl ht (kt hX w1 w2 w3 H locs ls hR ho hh)
  · rw [if_neg hc] at hX
    exact kf hc hX w1 w2 w3 H locs ls hR ho hh
theorem z_lkO (hk : zk E K own cc nL h) {dflt : Int} {ps : Array (Int × Int)} {len : Nat} {x : Int32} {tgt : Nat} (hd : decode cc pc = .ok (.lookupswitch dflt ps, len)) (hp : (ps.toList.zip (ps.toList.drop 1)).all (fun (a, next) => a.1 < next.1) = true) (hx : Op.lookupswitch.offset ps.toList dflt x.toInt = dflt) (ht : (pc : Int) + dflt = (tgt : Int))
    (k : zG E K fin A σ tgt lv st) : zG E K fin A σ pc lv (.inl x :: st) := by
  intro hX w1 w2 w3 H locs ls hR ho hh
  exact lv_lookup hk.1 hk.2.1 hd hp hx ht (k hX w1 w2 w3 H locs ls hR ho hh)
theorem z_ne_toInt {x c : Int32} {n : Int} (hx : ¬ x = c) (hc : c.toInt = n) : x.toInt ≠ n := fun e => hx (Int32.toInt_inj.mp (e.trans hc.symm))
theorem zS_of (hk : zk E K own cc nL h) {locs : List Loc} (w1 : zN (c0 K) ≤ zN σ) (hR : zRp E σ H) (ho : ∀ q ∈ locs, zB E ≤ q.base) : va_S (zold E) (cS K).heap H locs := by
  have r3 := (zcR hk).2.2
  refine ⟨by rw [hR.1, r3.1]; omega, fun q h1 h2 => ?_, fun q hq => ho q hq⟩
  have h3 : q < zB E := Nat.not_le.mp h2
  rw [hR.2.1 q h3, r3.2.1 q h3]
theorem zkeep (hk : zk E K own cc nL h) : ∀ a : Nat, a < (eS E).heap.size → ¬ zold E a → (cS K).heap[a]? = (eS E).heap[a]? := fun a h1 _ => (zcR hk).2.2.2.1 a h1
theorem z_gsB (hk : zk E K own cc nL h) {index : Nat} (hd : decode cc pc = .ok (.getstatic index, 3)) (hl : Cond.fieldLinkNest own index "LotSales" "FIRST_BOUNDS" "[I" "LotSales" ∈ lw_tbl) (k : zG E K fin X σ (pc + 3) lv (.inr (.inl 1) :: st)) : zG E K fin X σ pc lv st := by
  intro hX w1 w2 w3 H locs ls hR ho hh
  have hF := zk_F hk
  have hZ := (hF.2.2.2.2.2.2.1.1.kept (zkeep hk)).moved hk.2.2.2.2.2.1.alike
  refine va_getsN hk.1 hk.2.1 hZ (zS_of hk w1 hR ho) hk.2.2.2.1 (va_Nw.use rfl (va_Nw.warmF hk.2.2.2.2.2.1 (hF.2.1 _ hl))) (fun _ h => h) hd ?_
  have := k hX w1 w2 w3 H locs ls hR ho hh
  have ev : zv E (.inr (.inl 1)) = .ref (eA E 1) := zrv_ref (by decide)
  simp only [List.map_cons, ev] at this
  exact this
theorem z_gsI (hk : zk E K own cc nL h) {index : Nat} (hd : decode cc pc = .ok (.getstatic index, 3)) (hl : Cond.fieldLinkNest own index "LotSales" "FIRST_INCREMENTS" "[I" "LotSales" ∈ lw_tbl) (k : zG E K fin X σ (pc + 3) lv (.inr (.inl 2) :: st)) : zG E K fin X σ pc lv st := by
  intro hX w1 w2 w3 H locs ls hR ho hh
  have hF := zk_F hk
  have hZ := (hF.2.2.2.2.2.2.1.2.kept (zkeep hk)).moved hk.2.2.2.2.2.1.alike
  refine va_getsN hk.1 hk.2.1 hZ (zS_of hk w1 hR ho) hk.2.2.2.1 (va_Nw.use rfl (va_Nw.warmF hk.2.2.2.2.2.1 (hF.2.1 _ hl))) (fun _ h => h) hd ?_
  have := k hX w1 w2 w3 H locs ls hR ho hh
  have ev : zv E (.inr (.inl 2)) = .ref (eA E 2) := zrv_ref (by decide)
  simp only [List.map_cons, ev] at this
  exact this
theorem z_copy (hk : zk E K own cc nL h) {index : Nat} {r0 r1 : Nat} {sp dp n : Int32} {c : zW → Option α} (hd : decode cc pc = .ok (.invokestatic index, 3)) (hl : Cond.methodLink own index arraycopyName ∈ lw_tbl) (hnat : Cond.native arraycopyName ∈ lw_tbl) (hs : Cond.static arraycopyName ∈ lw_tbl) (hi : Cond.initialized "java/lang/System" ∈ lw_tbl)
    (hh1 : 2 ≤ h) (hst : st.length ≤ 8) (kk : ∀ σ1, zG E K fin (c σ1) σ1 (pc + 3) lv st) : zG E K fin (zcp σ r0 sp r1 dp n c) σ pc lv (.inl n :: .inl dp :: .inr (.inl r1) :: .inl sp :: .inr (.inl r0) :: st) := by
  intro hX w1 w2 w3 H locs ls hR ho hh
  unfold zcp at hX
  split at hX
  · next hc =>
    obtain ⟨⟨hc0, hc1⟩, ⟨h1, h2, h3⟩, h4, h5⟩ := hc
    have h0 : zK σ r0 ≠ 0 := by rcases hc0 with e | e <;> rw [e] <;> decide
    have h01 : zK σ r1 ≠ 0 := by rw [hc1]; decide
    have h21 : zK σ r1 ≠ 21 := by rw [hc1]; decide
    have hP0 := zR_at hR h0
    have hP1 := zR_at hR h01
    rw [zent_i (by rcases hc0 with e | e <;> simp [e]), show eC E (zK σ r0) = eC E 20 by rcases hc0 with e | e <;> rw [e]; exact (zk_F hk).2.2.2.1] at hP0
    rw [zent_i (by simp [hc1]), hc1] at hP1
    have hKK := zK_of hk
    have hcat := zcatst (E := E) hst
    show zWw E K H locs _ _ (F0 _ _ _ (.int n :: .int dp :: zrv E r1 :: .int sp :: zrv E r0 :: _))
    rw [zrv_ref (zR_ob hR h0).1, zrv_ref (zR_ob hR h01).1]
    have nn : ∀ z : Int32, 0 ≤ z → z.toInt = (z.toNatClampNeg : Int) := by
      intro z hz
      have hz0 : (0 : Int) ≤ z.toInt := by simpa using Int32.le_iff_toInt_le.mp hz
      show z.toInt = ((z.toInt.toNat : Nat) : Int)
      omega
    intro T hT X
    have hc0 : H[eA E r0]? = some (vp_cell (eC E 20) (zL σ r0, .inl (zI σ r0))) := hP0 0 _ rfl
    have hc1' : H[eA E r1]? = some (vp_cell (eC E 20) (zL σ r1, .inl (zI σ r1))) := hP1 0 _ rfl
    obtain ⟨-, k0, hk0, cm0, hkk0⟩ := (hKK.2 0 _ rfl).1 (zL σ r0) (fun j => .int (zI σ r0 j))
    obtain ⟨-, k1, hk1, cm1, hkk1⟩ := (hKK.2 0 _ rfl).1 (zL σ r1) (fun j => .int (zI σ r1 j))
    obtain ⟨vm', X', step⟩ := X.arraycopy hk.1 hk.2.2.2.1 (zw hk hl rfl) (zw hk hnat rfl) (zw hk hs rfl) (zw hk hi rfl) (src := eA E r0) (dst := eA E r1) (cs := vp_cell (eC E 20) (zL σ r0, .inl (zI σ r0))) (cd := vp_cell (eC E 20) (zL σ r1, .inl (zI σ r1))) (srcPos := sp) (destPos := dp) (n := n) (by rw [hT]; exact hc0) (by rw [hT]; exact hc1')
      (fun _ h => by cases h) (fun _ h => by cases h) (fun h => by cases h) (fun h => by cases h) hk0 hk1 hkk0 hkk1 (by simp [refKind]) (Int32.not_lt.mpr h1) (Int32.not_lt.mpr h2) (Int32.not_lt.mpr h3)
      (by rw [nn sp h1, nn n h3]; show ¬ _ > ((arrV (eC E 20) (zL σ r0) (fun j => .int (zI σ r0 j))).slots.size : Int); rw [arrV_size]; omega)
      (by rw [nn dp h2, nn n h3]; show ¬ _ > ((arrV (eC E 20) (zL σ r1) (fun j => .int (zI σ r1 j))).slots.size : Int); rw [arrV_size]; omega)
      (fun vm₁ _ i hi => by
        have e : (vp_cell (eC E 20) (zL σ r0, .inl (zI σ r0))).slots.getD (sp.toNatClampNeg + i) .null = .int (zI σ r0 (sp.toNatClampNeg + i)) := by
          show (arrV (eC E 20) (zL σ r0) (fun j => .int (zI σ r0 j))).slots.getD _ _ = _
          rw [Array.getD_eq_getD_getElem?, arrV_read _ _ (by omega)]
          rfl
        refine ⟨?_, ?_⟩
        · rw [e]
          rfl
        · rw [e]
          exact trivial)
      (g := F0 (cM K) pc ls (.int n :: .int dp :: .ref (eA E r1) :: .int sp :: .ref (eA E r0) :: st.map (zv E))) rfl hh.1 (rest := st.map (zv E)) rfl (by rw [hk.2.1]; exact hd) (by have := zhf hk; omega) (by
        have e8 := zhl hk
        have e9 : nativeFrameWords "java/lang/System" "arraycopy" 5 + 11 ≤ 100 := by decide +kernel
        show 2 * 0 + _ + _ ≤ _
        omega)
    have e1 : copied (vp_cell (eC E 20) (zL σ r0, .inl (zI σ r0))) (vp_cell (eC E 20) (zL σ r1, .inl (zI σ r1))) sp dp n = vp_cell (eC E 20) (zL σ r1, .inl (va_cpy (zI σ r0) (zI σ r1) sp.toNatClampNeg dp.toNatClampNeg n.toNatClampNeg)) := va_copied (fun z => .int z) (eC E 20) (eC E 20) (zI σ r0) (zI σ r1) h4
    rw [e1] at X' step
    have hl9 : eA E r1 < H.size := (Array.getElem?_eq_some_iff.mp hc1').1
    have hheap : ((T.setVm vm').setCell (eA E r1) (vp_cell (eC E 20) (zL σ r1, .inl (va_cpy (zI σ r0) (zI σ r1) sp.toNatClampNeg dp.toNatClampNeg n.toNatClampNeg)))).heap = H.setIfInBounds (eA E r1) (vp_cell (eC E 20) (zL σ r1, .inl (va_cpy (zI σ r0) (zI σ r1) sp.toNatClampNeg dp.toNatClampNeg n.toNatClampNeg))) := by rw [← hT]; rfl
    have oq : ∀ q : Nat, q ≠ eA E r1 → (H.setIfInBounds (eA E r1) (vp_cell (eC E 20) (zL σ r1, .inl (va_cpy (zI σ r0) (zI σ r1) sp.toNatClampNeg dp.toNatClampNeg n.toNatClampNeg))))[q]? = H[q]? := fun q hq => by simp [Array.getElem?_setIfInBounds, Ne.symm hq]
    have es : (H.setIfInBounds (eA E r1) (vp_cell (eC E 20) (zL σ r1, .inl (va_cpy (zI σ r0) (zI σ r1) sp.toNatClampNeg dp.toNatClampNeg n.toNatClampNeg))))[eA E r1]? = some (vp_cell (eC E 20) (zL σ r1, .inl (va_cpy (zI σ r0) (zI σ r1) sp.toNatClampNeg dp.toNatClampNeg n.toNatClampNeg))) := by simp [Array.getElem?_setIfInBounds, hl9]
    obtain ⟨t, a1, b1⟩ := kk _ hX w1 w2 w3 _ _ ls (zRp_upd (zk_F hk) hR h01 h21 rfl rfl rfl (fun o' h => zent_stA h) (by simp) oq (by rw [es, hc1']; simp [vp_cell_i, arrV_size]) (by
        rw [zent_i (σ := stA σ r1 _) (by left; exact hc1), show zK (stA σ r1 _) r1 = 20 from hc1]
        show (H.setIfInBounds _ _)[eA E r1]? = some (vp_cell _ _)
        rw [es]
        simp [stA, zI, zL, va_up])) (fun q hq => by
        rcases List.mem_append.mp hq with h | h
        · exact ho q h
        · obtain ⟨z, -, hz⟩ := List.mem_map.mp h
          rw [← hz]
          exact zA_new (zk_F hk) hR h01 h21) hh _ hheap X'
    exact ⟨t, step t a1, b1⟩
  · exact z_none hX
end ZL
end
section
/-! METHODS: what a method answers, and how it is called -/
def zPc (E : zE) (av : List zV) (σ : zW) : Array Value → State → Prop := fun a U => a = (av.map (zv E)).toArray ∧ (eS E).WarmedH U.vm ∧ zRp E σ U.heap
def zrm (h : Nat) (σ : zW) : Room := { frames := h, cells := 603072 - zN σ, slots := 7219305 - zS σ, locals := 100 * h }
def zfree (E : zE) : Addr → Prop := fun q => zB E ≤ q
def zQr (E : zE) (rv : Option Value) (σ' : zW) : Array Value → State → Outcome → State → Prop := fun _ _ o t => o = .returned rv ∧ zRp E σ' t.heap
def zQx (E : zE) (res : zO) : Array Value → State → Outcome → State → Prop := fun _ _ o t => ∃ rv, res.1 = .inl rv ∧ o = .returned rv ∧ zRp E res.2 t.heap
def zXC (E : zE) (res : zO) : String → State → State → Prop := fun n _ t => ∃ k, res.1 = .inr k ∧ 1 ≤ k ∧ k ≤ 6 ∧ n = zxn k ∧ zRp E res.2 t.heap
/-- it returns rv, and the world is σ' -/
def zM (E : zE) (y : MethodName) (cc : ByteArray) (maxL : Nat) (ret : Option FieldType) (h : Nat) (av : List zV) (σ : zW) (rv : Option Value) (σ' : zW) : Prop :=
  Met (eL E) y [Cond.code y cc maxL ret] (zrm h σ) (zPc E av σ) (zQr E rv σ') (603072 - zN σ) (7219305 - zS σ) (zfree E)
/-- it returns or throws, and the world is res.2 -/
def zMX (E : zE) (y : MethodName) (w : Cond) (h : Nat) (av : List zV) (σ : zW) (res : zO) : Prop :=
  vx_Met (eL E) y [w] (zrm h σ) (zPc E av σ) (zQx E res) (zXC E res) (603072 - zN σ) (7219305 - zS σ) (zfree E)
/-- how a body ends -/
def zend (E : zE) (K : zC) (ret : Option FieldType) (nm : String) : Prop :=
  (cMe K).sig.returnType = ret ∧ (cMe K).name = nm ∧ ∀ (rv : Option Value) (σ' : zW), cO K = (.inl rv, σ') → ∀ (H : Heap) (locs : List Loc) (cells slots : Nat) (g : JFrame),
    W (cP K) (eL E) (cE K) (cR K) (cS K) (cM K) (cA K) (cB K) (cMe K) (cCo K) H locs cells slots (MQ (cB K) (zQr E rv σ') (cA K) (cS K) (cR K).cells (cR K).slots (zfree E)) g → zWw E K H locs cells slots g
def zthr (E : zE) (K : zC) : Prop := (∀ x ∈ (cCo K).exceptionTable.toList, False) ∧ cQ K = vx_MQ (cB K) (zQx E (cO K)) (zXC E (cO K)) (cA K) (cS K) (cR K).cells (cR K).slots (zfree E)
def zlv0 (av : List zV) (n : Nat) : zLV := av.map some ++ List.replicate (n - av.length) none
section ZE
variable {E : zE} {K : zC} {own : String} {cc : ByteArray} {nL h : Nat} {α : Type} {fin : α → zO} {X A B : Option α} {σ σ1 : zW} {pc : Nat} {lv : zLV} {st : List zV} {H H1 : Heap}
theorem zMQ_mono {below : List Frame} {Q1 Q2 : Array Value → State → Outcome → State → Prop} {a : Array Value} {s t : State} {mc ms : Nat} {free : Addr → Prop} (h : ∀ o t, Q1 a s o t → Q2 a s o t) (hq : MQ below Q1 a s mc ms free t) : MQ below Q2 a s mc ms free t := by
  obtain ⟨o, h1, h2, h3, h4⟩ := hq
  exact ⟨o, h1, h2, h _ _ h3, h4⟩
theorem zW_mono {p : Program} {l : Launch} {e : Env} {R : Room} {s : State} {m : MethodId} {args : Array Value} {below : List Frame} {meth : Method} {c : Code} {locs : List Loc} {cells slots : Nat} {Q Q' : State → Prop} {g : JFrame} (h : ∀ t, Q t → Q' t) (k : W p l e R s m args below meth c H locs cells slots Q g) : W p l e R s m args below meth c H locs cells slots Q' g := by
  intro T hT X
  obtain ⟨t, a, b⟩ := k T hT X
  exact ⟨t, a, h t b⟩
theorem zcat1 {v : zV} (h : zwide (some v) = false) : (zv E v).category = 1 := zv_wide h
theorem zsl : ∀ (av : List zV), (∀ v ∈ av, zwide (some v) = false) → lg_sl (av.map (zv E)) = (av.map (zv E)).map Slot.val ∧ ∀ i, lv_args i (av.map (zv E)) = zlv E i (av.map some)
  | [], _ => ⟨rfl, fun _ => rfl⟩
  | a :: t, h => by
    obtain ⟨h1, h2⟩ := zsl t (fun v hv => h v (List.mem_cons_of_mem _ hv))
    have hc := zcat1 (E := E) (h a List.mem_cons_self)
    refine ⟨?_, fun i => ?_⟩
    · show lg_sl (zv E a :: t.map (zv E)) = Slot.val (zv E a) :: (t.map (zv E)).map Slot.val
      rw [← h1]
      unfold lg_sl
      rw [List.flatMap_cons, hc]
      rfl
    · show lv_args i (zv E a :: t.map (zv E)) = (i, zv E a) :: zlv E (i + 1) (t.map some)
      rw [← h2 (i + 1)]
      simp only [lv_args, hc]
      rfl
theorem zlv_app : ∀ (a : zLV) (i n : Nat), zlv E i (a ++ List.replicate n none) = zlv E i a
  | [], i, 0 => rfl
  | [], i, n + 1 => zlv_app [] (i + 1) n
  | none :: t, i, n => zlv_app t (i + 1) n
  | some v :: t, i, n => congrArg (fun l => (i, zv E v) :: l) (zlv_app t (i + 1) n)
theorem zlv0_len {av : List zV} {n : Nat} (h : av.length ≤ n) : (zlv0 av n).length = n := by
  unfold zlv0
  rw [List.length_append, List.length_map, List.length_replicate]
  omega
/-- where a body begins -/
theorem z_open {av : List zV} {lv0 : zLV} (hav : ∀ v ∈ av, zwide (some v) = false) (hlen : av.length ≤ nL) (hlv : zlv0 av nL = lv0) (hmlx : (cCo K).maxLocals = nL) (hR : zRp E σ H) (hσ : c0 K = σ) (hX : ∃ o, X = some o ∧ fin o = cO K)
    (hcs : (cR K).cells = 603072 - zN σ ∧ (cR K).slots = 7219305 - zS σ) (ha : cA K = (av.map (zv E)).toArray) (k : zG E K fin X σ 0 lv0 []) : zWw E K H [] 0 0 (entryFrame (cM K) (cA K) nL) := by
  obtain ⟨e1, e2⟩ := zsl (E := E) av hav
  have hle : (lg_sl (av.map (zv E))).length ≤ nL := by rw [e1]; simpa using hlen
  have hl := lv_entry (av.map (zv E)) (n := nL) hle
  rw [ha, lg_entry_eq]
  rw [e2 0, ← zlv_app (E := E) (av.map some) 0 (nL - av.length)] at hl
  have hl : lv_has _ nL (zlv E 0 (zlv0 av nL)) := hl
  rw [hlv] at hl
  refine W.widen (k := (cR K).cells) (n := (cR K).slots) (Nat.zero_le _) (Nat.zero_le _) ?_
  exact k hX (by rw [hσ]; exact Nat.le_refl _) (by rw [hσ]; exact Nat.le_refl _) (by rw [hmlx, ← hlv, zlv0_len hlen]; exact Nat.le_refl _) H [] _ hR (fun q h => by cases h) (by rw [hmlx]; exact hl)
/-- a method that returns -/
theorem zM_of {y : MethodName} {ret : Option FieldType} {av : List zV} {rv : Option Value} {σ' : zW} {o : α} {lv0 : zLV} (hF : zFx E) (hy : plainName y.cls = true) (hav : av.all (fun v => !zwide (some v)) = true) (hlen : av.length ≤ nL) (hlv : zlv0 av nL = lv0) (hX : X = some o) (hfo : fin o = (.inl rv, σ'))
    (body : ∀ K, zk E K y.cls cc nL h → zend E K ret y.name → zG E K fin X σ 0 lv0 []) : zM E y cc nL ret h av σ rv σ' := by
  refine Met.ofW (cc := cc) (maxL := nL) (ret := ret) hy rfl ?_
  intro p e s m args below meth c s₁ B hml hv
  obtain ⟨ha, hW, hR⟩ := hv
  have hown : s.vm.findClass y.cls = some m.cls := findClass_of_methodNamed B.named
  have hname : meth.name = y.name := (name_of_methodNamed B.named B.method).1
  refine z_open (E := E) (K := ((p, e, zrm h σ, s, m, args, below), (meth, c, MQ below (zQr E rv σ') args s (603072 - zN σ) (7219305 - zS σ) (zfree E)), σ, (.inl rv, σ'))) (fin := fin) (X := X) (fun v hv => by have := List.all_eq_true.mp hav v hv; simpa using this) hlen hlv hml hR rfl ⟨o, hX, hfo⟩ ⟨rfl, rfl⟩ ha (body _ ⟨B.exec, B.bytes, hml, hown, B.notSynchronized, hW, hF, rfl, rfl, Nat.le_refl _, Nat.le_refl _, hR⟩ ⟨B.returns, hname, fun rv2 σ2 he H locs cells slots g k => ?_⟩)
  have he' : ((.inl rv, σ') : zO) = (.inl rv2, σ2) := he
  cases he'
  exact k
/-- a method that returns or throws, without handlers -/
theorem zMX_of {y : MethodName} {ret : Option FieldType} {av : List zV} {res : zO} {o : α} {lv0 : zLV} (hF : zFx E) (hy : plainName y.cls = true) (hav : av.all (fun v => !zwide (some v)) = true) (hlen : av.length ≤ nL) (hlv : zlv0 av nL = lv0) (hX : X = some o) (hfo : fin o = res)
    (body : ∀ K, zk E K y.cls cc nL h → zend E K ret y.name → zthr E K → zG E K fin X σ 0 lv0 []) : zMX E y (Cond.code y cc nL ret) h av σ res := by
  refine vx_ofW (cc := cc) (maxL := nL) (ret := ret) hy rfl ?_
  intro p e s m args below meth c s₁ B hml htab hv
  obtain ⟨ha, hW, hR⟩ := hv
  have hown : s.vm.findClass y.cls = some m.cls := findClass_of_methodNamed B.named
  have hname : meth.name = y.name := (name_of_methodNamed B.named B.method).1
  refine z_open (E := E) (K := ((p, e, zrm h σ, s, m, args, below), (meth, c, vx_MQ below (zQx E res) (zXC E res) args s (603072 - zN σ) (7219305 - zS σ) (zfree E)), σ, res)) (fin := fin) (X := X) (fun v hv => by have := List.all_eq_true.mp hav v hv; simpa using this) hlen hlv hml hR rfl ⟨o, hX, hfo⟩ ⟨rfl, rfl⟩ ha (body _ ⟨B.exec, B.bytes, hml, hown, B.notSynchronized, hW, hF, rfl, rfl, Nat.le_refl _, Nat.le_refl _, hR⟩ ⟨B.returns, hname, fun rv2 σ2 he H locs cells slots g k => ?_⟩ ⟨htab, rfl⟩)
  have he' : res = (.inl rv2, σ2) := he
  exact vx_ret (zW_mono (fun t ht => zMQ_mono (fun o t h => ⟨rv2, by rw [he'], h.1, by rw [he']; exact h.2⟩) ht) k)
/-! returns -/
theorem z_iret (hk : zk E K own cc nL h) {nm : String} (he : zend E K (some .int) nm) {v : Int32} {o : α} (hd : decode cc pc = .ok (.ireturn, 1)) (hf : fin o = (.inl (some (.int v)), σ)) : zG E K fin (some o) σ pc lv [.inl v] := by
  rintro ⟨o', h1, h2⟩ w1 w2 w3 H locs ls hR ho hh
  cases h1
  exact he.2.2 _ _ (h2.symm.trans hf) H locs _ _ _ (W.iret (v := v) hk.1 hk.2.1 he.1 (fun t ht _ => ⟨rfl, by rw [ht]; exact hR⟩) ho hd hk.2.2.2.2.1)
theorem z_zret (hk : zk E K own cc nL h) {nm : String} (he : zend E K (some .boolean) nm) {v : Int32} {o : α} (hd : decode cc pc = .ok (.ireturn, 1)) (hf : fin o = (.inl (some (.int v)), σ)) : zG E K fin (if v = 0 ∨ v = 1 then some o else none) σ pc lv [.inl v] := by
  intro hX w1 w2 w3 H locs ls hR ho hh
  split at hX
  · next hv =>
    obtain ⟨o', h1, h2⟩ := hX
    cases h1
    exact he.2.2 _ _ (h2.symm.trans hf) H locs _ _ _ (W.zret (v := v) hk.1 hk.2.1 he.1 (by rcases hv with e | e <;> rw [e] <;> rfl) (fun t ht _ => ⟨rfl, by rw [ht]; exact hR⟩) ho hd hk.2.2.2.2.1)
  · exact z_none hX
theorem z_vret (hk : zk E K own cc nL h) {nm : String} (he : zend E K none nm) {o : α} (hd : decode cc pc = .ok (.return_, 1)) (hf : fin o = (.inl none, σ)) : zG E K fin (some o) σ pc lv [] := by
  rintro ⟨o', h1, h2⟩ w1 w2 w3 H locs ls hR ho hh
  cases h1
  exact he.2.2 _ _ (h2.symm.trans hf) H locs _ _ _ (W.vret hk.1 hk.2.1 he.1 (fun t ht _ => ⟨rfl, by rw [ht]; exact hR⟩) ho hd hk.2.2.2.2.1)
theorem z_dret (hk : zk E K own cc nL h) {nm : String} (he : zend E K (some .double) nm) {v : UInt64} {o : α} (hd : decode cc pc = .ok (.dreturn, 1)) (hf : fin o = (.inl (some (.double v)), σ)) : zG E K fin (some o) σ pc lv [.inr (.inr (.inr (.inl v)))] := by
  rintro ⟨o', h1, h2⟩ w1 w2 w3 H locs ls hR ho hh
  cases h1
  exact he.2.2 _ _ (h2.symm.trans hf) H locs _ _ _ (W.dret (v := v) hk.1 hk.2.1 he.1 (fun t ht _ => ⟨rfl, by rw [ht]; exact hR⟩) ho hd hk.2.2.2.2.1)
/-! calls -/
theorem z_mono {s T : State} {σ0 σ' : zW} {p : Program} {l : Launch} {e : Env} {R : Room} {m : MethodId} {args : Array Value} {below : List Frame} {meth : Method} {c : Code} {locs : List Loc} {cells slots : Nat} (h0 : zRp E σ0 s.heap) (h : zRp E σ' T.heap) (X : Stand p l e R s m args below meth c T locs cells slots) : zN σ0 ≤ zN σ' ∧ zS σ0 ≤ zS σ' := by
  obtain ⟨e1, e2, e3, e4, e5, e6⟩ := X.same
  have hh : (T.setVm s.vm).heap = T.heap := rfl
  rw [hh] at e2 e6
  have h1 := h.1
  have h2 := h0.1
  refine ⟨by omega, ?_⟩
  have hb : zB E ≤ s.heap.size := by omega
  have s1 := zsum_split (H := T.heap) hb
  have s2 := zsum_split (H := s.heap) hb
  have s3 : zsum s.heap.size s.heap = 0 := by
    unfold zsum
    rw [List.drop_eq_nil_of_le (by simp)]
    rfl
  have s4 : ((T.heap.toList.drop (zB E)).take (s.heap.size - zB E)).map (fun (c : Cell) => c.slots.size) = ((s.heap.toList.drop (zB E)).take (s.heap.size - zB E)).map (fun (c : Cell) => c.slots.size) := by
    apply List.ext_getElem?
    intro i
    simp only [List.getElem?_map, List.getElem?_take, List.getElem?_drop, Array.getElem?_toList]
    by_cases hi : i < s.heap.size - zB E
    · rw [if_pos hi, if_pos hi]
      have hl : zB E + i < s.heap.size := by omega
      obtain ⟨c', g1, -, g3, -⟩ := e6 (zB E + i) _ (Array.getElem?_eq_getElem hl)
      rw [g1, Array.getElem?_eq_getElem hl]
      simp [g3]
    · rw [if_neg hi, if_neg hi]
  rw [s4] at s1
  have h3 : zsum (zB E) T.heap = zS σ' := h.2.2.1
  have h4 : zsum (zB E) s.heap = zS σ0 := h0.2.2.1
  omega
/-- behind a call that returned -/
theorem z_after (hk : zk E K own cc nL h) {rv : Option Value} {rst : List zV} {σ' : zW} {locs : List Loc} {ls : Array Slot} {st0 rest : List Value} (w1 : zN (c0 K) ≤ zN σ) (w2 : zS (c0 K) ≤ zS σ) (w3 : lv.length ≤ (cCo K).maxLocals) (hR : zRp E σ H) (ho : ∀ q ∈ locs, zB E ≤ q.base) (hh : lv_has ls (cCo K).maxLocals (zlv E 0 lv))
    (hr : va_Run (cP K) (eL E) (cE K) (cR K) (cS K) (cM K) (cA K) (cB K) (cMe K) (cCo K) H locs (zN σ - zN (c0 K)) (zS σ - zS (c0 K)) (603072 - zN σ) (7219305 - zS σ) (F0 (cM K) pc ls st0) rest (fun _ o t => o = .returned rv ∧ zRp E σ' t.heap) (zfree E))
    (hst : rv.toList ++ rest = rst.map (zv E)) (hX : ∃ o, X = some o ∧ fin o = cO K) (k : zG E K fin X σ' (pc + 3) lv rst) : zWw E K H locs (zN σ - zN (c0 K)) (zS σ - zS (c0 K)) (F0 (cM K) pc ls st0) := by
  intro T hT X9
  obtain ⟨v, st₀, t, T', L, g1, X', g2, g3, g4, ⟨g5, g6⟩, g7⟩ := hr T hT X9
  cases g5
  rw [← g3] at g6
  obtain ⟨r1, r2, r3⟩ := zcR hk
  have hb1 := hR.2.2.2.1
  have hb2 := hR.2.2.2.2.1
  obtain ⟨m1, m2⟩ := z_mono r3 g6 X'
  have X'' := stand_widen (k := (cR K).cells) (n := (cR K).slots) X' (by rw [r1]; omega) (by rw [r2]; omega)
  obtain ⟨t2, a1, b1⟩ := k hX m1 m2 w3 T'.heap (locs ++ L) ls g6 (fun q hq => (List.mem_append.mp hq).elim (ho q) (g2 q)) hh T' rfl X''
  rw [← hst] at a1
  exact ⟨t2, g7 t2 a1, b1⟩
theorem zPc_blind (av : List zV) : FrameBlind (zPc E av σ) := fun _ _ _ _ h => h
theorem zPre (hk : zk E K own cc nL h) {av : List zV} (hR : zRp E σ H) : ∀ U : State, U.heap = H → (cS K).WarmedH U.vm → zPc E av σ (av.map (zv E)).toArray U := fun U hU hW => ⟨rfl, State.WarmedH.trans hk.2.2.2.2.2.1 hW, by rw [hU]; exact hR⟩
theorem zCB (hk : zk E K own cc nL h) {y : MethodName} {cy : ByteArray} {maxL n index h' : Nat} {ret : Option FieldType} {σ : zW} (hl : Cond.methodLink own index y ∈ lw_tbl) (hini : Cond.initialized y.cls ∈ lw_tbl) (hcd : Cond.code y cy maxL ret ∈ lw_tbl) (hd2 : y.cls ≠ "java/lang/invoke/MethodHandle" ∧ y.cls ≠ "java/lang/invoke/VarHandle" ∧ (parseMethodDescriptor y.desc).map (fun d => d.parameters.length) = some n) (hroom : h' + 1 ≤ h ∧ maxL ≤ 81) :
    CallB (cR K) (cS K) (cA K) own index y cy maxL ret [Cond.code y cy maxL ret] (zrm h' σ) (603072 - zN σ) (7219305 - zS σ) n := by
  have hts : ∀ w ∈ [Cond.code y cy maxL ret], w.before (cA K) (cS K) = true := fun w hw => by rw [List.mem_singleton.mp hw]; exact zw hk hcd rfl
  refine callB_of n hts (fun w hw => ⟨hw, by rw [List.mem_singleton.mp hw]; exact good_of_word rfl⟩) rfl rfl rfl (zw hk hini rfl) (zw hk hl rfl) hd2 ⟨?_, ?_⟩
  · exact Nat.le_trans hroom.1 (zhf hk)
  · have := zhl hk
    show 8 + (maxL + 11) + 100 * h' ≤ (cR K).locals
    omega
theorem zcell (hk : zk E K own cc nL h) {ci r : Nat} {q : vw_C} (hc : zcl[ci]? = some q) (hR : zRp E σ H) (hκ : zK σ r = ci + 1) : ∃ cell : Cell, H[eA E r]? = some cell ∧ cell.vm.isStatics = false ∧ (cS K).vm.findClass q.1 = some cell.cls := by
  have hci : ci < 9 := (List.getElem?_eq_some_iff.mp hc).1
  have hP := zR_at hR (o := r) (by omega)
  rw [zent_ob hκ hci] at hP
  exact va_recv (zK_of hk) hP hc (q0 := 0) rfl
/-- the words of a call, and what stands at it -/
theorem zrest8 (hst : st.length ≤ 4) : 2 * (F0 (cM K) pc #[] []).monitorRoom + ((st.map (zv E)).map fun v => v.category).sum ≤ 8 := by
  have := zcatsum (st.map (zv E))
  rw [List.length_map] at this
  show 2 * 0 + _ ≤ 8
  omega
/-- a virtual call of a method that returns -/
theorem z_cv (hk : zk E K own cc nL h) {y : MethodName} {cy : ByteArray} {maxL n index h' ci r : Nat} {ret : Option FieldType} {q : vw_C} {As : List zV} {rv : Option Value} {σ' : zW} {rst : List zV} (hd : decode cc pc = .ok (.invokevirtual index, 3)) (hl : Cond.methodLink own index y ∈ lw_tbl) (hin : Cond.instanceMethod y ∈ lw_tbl) (hsel : Cond.selects y.cls y y ∈ lw_tbl) (hini : Cond.initialized y.cls ∈ lw_tbl) (hcd : Cond.code y cy maxL ret ∈ lw_tbl)
    (hd2 : y.cls ≠ "java/lang/invoke/MethodHandle" ∧ y.cls ≠ "java/lang/invoke/VarHandle" ∧ (parseMethodDescriptor y.desc).map (fun d => d.parameters.length) = some n) (hroom : h' + 1 ≤ h ∧ maxL ≤ 81) (hc : zcl[ci]? = some q) (hq : q.1 = y.cls) (hκ : zK σ r = ci + 1) (hn : As.length = n) (hM : zM E y cy maxL ret h' (.inr (.inl r) :: As) σ rv σ')
    (hst8 : st.length ≤ 4) (hst : rv.toList ++ st.map (zv E) = rst.map (zv E)) (k : zG E K fin X σ' (pc + 3) lv rst) : zG E K fin X σ pc lv (As.reverse ++ .inr (.inl r) :: st) := by
  intro hX w1 w2 w3 H locs ls hR ho hh
  obtain ⟨r1, r2, r3⟩ := zcR hk
  have hb1 := hR.2.2.2.1
  have hb2 := hR.2.2.2.2.1
  have hr0 : r ≠ 0 := (zR_ob hR (o := r) (by omega)).1
  have er : zrv E r = .ref (eA E r) := zrv_ref hr0
  refine z_tight (k := zN σ - zN (c0 K)) (n := zS σ - zS (c0 K)) r3 hR (by omega) (by omega) ?_
  refine z_after hk w1 w2 w3 hR ho hh (rv := rv) (rst := rst) (rest := st.map (zv E)) ?_ hst hX k
  have hcell := zcell hk hc hR hκ
  rw [hq] at hcell
  have e0 : (As.reverse ++ .inr (.inl r) :: st).map (zv E) = (As.map (zv E)).reverse ++ .ref (eA E r) :: st.map (zv E) := by
    rw [List.map_append, List.map_reverse, List.map_cons]
    show _ ++ zrv E r :: _ = _
    rw [er]
  rw [e0]
  have hpre := zPre hk (av := .inr (.inl r) :: As) hR
  have e1 : ((.inr (.inl r) :: As : List zV).map (zv E)) = Value.ref (eA E r) :: As.map (zv E) := by
    show zrv E r :: _ = _
    rw [er]
  rw [e1] at hpre
  exact va_runV (Ts := []) (C := y.cls) ⟨hk.1, hk.2.1, hk.2.2.1, hk.2.2.2.1, fun w h => by cases h⟩ hM ⟨zCB hk hl hini hcd hd2 hroom, zw hk hin rfl, zw hk hsel rfl⟩ ⟨zPc_blind _, hcell, hpre⟩ rfl (by rw [List.length_map]; exact hn) (by rw [← hk.2.2.1]; exact hh.1) rfl (zrest8 (K := K) (pc := pc) hst8) hd ⟨by rw [r1]; omega, by rw [r2]; omega⟩
/-- a static call of a method that returns -/
theorem z_cs (hk : zk E K own cc nL h) {y : MethodName} {cy : ByteArray} {maxL n index h' : Nat} {ret : Option FieldType} {As : List zV} {rv : Option Value} {σ' : zW} {rst : List zV} (hd : decode cc pc = .ok (.invokestatic index, 3)) (hl : Cond.methodLink own index y ∈ lw_tbl) (hin : Cond.static y ∈ lw_tbl) (hini : Cond.initialized y.cls ∈ lw_tbl) (hcd : Cond.code y cy maxL ret ∈ lw_tbl)
    (hd2 : y.cls ≠ "java/lang/invoke/MethodHandle" ∧ y.cls ≠ "java/lang/invoke/VarHandle" ∧ (parseMethodDescriptor y.desc).map (fun d => d.parameters.length) = some n) (hroom : h' + 1 ≤ h ∧ maxL ≤ 81) (hn : As.length = n) (hM : zM E y cy maxL ret h' As σ rv σ')
    (hst8 : st.length ≤ 4) (hst : rv.toList ++ st.map (zv E) = rst.map (zv E)) (k : zG E K fin X σ' (pc + 3) lv rst) : zG E K fin X σ pc lv (As.reverse ++ st) := by
  intro hX w1 w2 w3 H locs ls hR ho hh
  obtain ⟨r1, r2, r3⟩ := zcR hk
  have hb1 := hR.2.2.2.1
  have hb2 := hR.2.2.2.2.1
  refine z_tight (k := zN σ - zN (c0 K)) (n := zS σ - zS (c0 K)) r3 hR (by omega) (by omega) ?_
  refine z_after hk w1 w2 w3 hR ho hh (rv := rv) (rst := rst) (rest := st.map (zv E)) ?_ hst hX k
  have e0 : (As.reverse ++ st).map (zv E) = (As.map (zv E)).reverse ++ st.map (zv E) := by
    rw [List.map_append, List.map_reverse]
  rw [e0]
  exact va_runS (Ts := []) ⟨hk.1, hk.2.1, hk.2.2.1, hk.2.2.2.1, fun w h => by cases h⟩ hM ⟨zCB hk hl hini hcd hd2 hroom, zw hk hin rfl⟩ ⟨zPc_blind _, zPre hk hR⟩ rfl (by rw [List.length_map]; exact hn) (by rw [← hk.2.2.1]; exact hh.1) rfl (zrest8 (K := K) (pc := pc) hst8) hd ⟨by rw [r1]; omega, by rw [r2]; omega⟩
end ZE
end
section
/-! MORE CALLS, THROWS -/
def zck {α : Type} (σ : zW) (κ r : Nat) (X : Option α) : Option α := if zK σ r = κ then X else none
section ZF
variable {E : zE} {K : zC} {own : String} {cc : ByteArray} {nL h : Nat} {α : Type} {fin : α → zO} {X A B : Option α} {σ σ1 : zW} {pc : Nat} {lv : zLV} {st : List zV} {H H1 : Heap}
/-- a constructor's call -/
theorem z_ci (hk : zk E K own cc nL h) {y : MethodName} {cy : ByteArray} {maxL n index h' r : Nat} {As : List zV} {σ' : zW} (hd : decode cc pc = .ok (.invokespecial index, 3)) (hl : Cond.methodLink own index y ∈ lw_tbl) (hin : Cond.instanceMethod y ∈ lw_tbl) (hini : Cond.initialized y.cls ∈ lw_tbl) (hcd : Cond.code y cy maxL none ∈ lw_tbl) (hy1 : y.name = "<init>")
    (hd2 : y.cls ≠ "java/lang/invoke/MethodHandle" ∧ y.cls ≠ "java/lang/invoke/VarHandle" ∧ (parseMethodDescriptor y.desc).map (fun d => d.parameters.length) = some n) (hroom : h' + 1 ≤ h ∧ maxL ≤ 81) (hr0 : r ≠ 0) (hn : As.length = n) (hM : zM E y cy maxL none h' (.inr (.inl r) :: As) σ none σ')
    (hst8 : st.length ≤ 4) (k : zG E K fin X σ' (pc + 3) lv st) : zG E K fin X σ pc lv (As.reverse ++ .inr (.inl r) :: st) := by
  intro hX w1 w2 w3 H locs ls hR ho hh
  obtain ⟨r1, r2, r3⟩ := zcR hk
  have hb1 := hR.2.2.2.1
  have hb2 := hR.2.2.2.2.1
  have er : zrv E r = .ref (eA E r) := zrv_ref hr0
  refine z_tight (k := zN σ - zN (c0 K)) (n := zS σ - zS (c0 K)) r3 hR (by omega) (by omega) ?_
  refine z_after hk w1 w2 w3 hR ho hh (rv := none) (rst := st) (rest := st.map (zv E)) ?_ rfl hX k
  have e0 : (As.reverse ++ .inr (.inl r) :: st).map (zv E) = (As.map (zv E)).reverse ++ .ref (eA E r) :: st.map (zv E) := by
    rw [List.map_append, List.map_reverse, List.map_cons]
    show _ ++ zrv E r :: _ = _
    rw [er]
  rw [e0]
  have hpre := zPre hk (av := .inr (.inl r) :: As) hR
  have e1 : ((.inr (.inl r) :: As : List zV).map (zv E)) = Value.ref (eA E r) :: As.map (zv E) := by
    show zrv E r :: _ = _
    rw [er]
  rw [e1] at hpre
  exact va_runI (Ts := []) ⟨hk.1, hk.2.1, hk.2.2.1, hk.2.2.2.1, fun w h => by cases h⟩ hM ⟨zCB hk hl hini hcd hd2 hroom, hy1, zw hk hin rfl⟩ ⟨zPc_blind _, hpre⟩ rfl (by rw [List.length_map]; exact hn) (by rw [← hk.2.2.1]; exact hh.1) rfl (zrest8 (K := K) (pc := pc) hst8) hd ⟨by rw [r1]; omega, by rw [r2]; omega⟩
theorem zCN (hk : zk E K own cc nL h) {y : MethodName} {cy : ByteArray} {maxL n index h' : Nat} {ret : Option FieldType} {σ : zW} {host : String} (hl : Cond.methodLinkNest own index y host ∈ lw_tbl) (hini : Cond.initialized y.cls ∈ lw_tbl) (hcd : Cond.code y cy maxL ret ∈ lw_tbl) (hd2 : y.cls ≠ "java/lang/invoke/MethodHandle" ∧ y.cls ≠ "java/lang/invoke/VarHandle" ∧ (parseMethodDescriptor y.desc).map (fun d => d.parameters.length) = some n) (hroom : h' + 1 ≤ h ∧ maxL ≤ 81) :
    va_CN (cR K) (cS K) (cA K) own index y host cy maxL ret [Cond.code y cy maxL ret] (zrm h' σ) (603072 - zN σ) (7219305 - zS σ) n := by
  have hts : ∀ w ∈ [Cond.code y cy maxL ret], w.before (cA K) (cS K) = true := fun w hw => by rw [List.mem_singleton.mp hw]; exact zw hk hcd rfl
  refine va_cnB n hts (fun w hw => ⟨hw, by rw [List.mem_singleton.mp hw]; exact good_of_word rfl⟩) rfl rfl rfl (va_Nw.warmM hk.2.2.2.2.2.1 ((zk_F hk).2.1 _ hl)) (zw hk hini rfl) hd2 ⟨?_, ?_⟩
  · exact Nat.le_trans hroom.1 (zhf hk)
  · have := zhl hk
    show 8 + (maxL + 11) + 100 * h' ≤ (cR K).locals
    omega
/-- .. a private one of a nest mate -/
theorem z_cin (hk : zk E K own cc nL h) {y : MethodName} {cy : ByteArray} {maxL n index h' r : Nat} {As : List zV} {σ' : zW} {host : String} (hd : decode cc pc = .ok (.invokespecial index, 3)) (hl : Cond.methodLinkNest own index y host ∈ lw_tbl) (hin : Cond.instanceMethod y ∈ lw_tbl) (hini : Cond.initialized y.cls ∈ lw_tbl) (hcd : Cond.code y cy maxL none ∈ lw_tbl) (hy1 : y.name = "<init>")
    (hd2 : y.cls ≠ "java/lang/invoke/MethodHandle" ∧ y.cls ≠ "java/lang/invoke/VarHandle" ∧ (parseMethodDescriptor y.desc).map (fun d => d.parameters.length) = some n) (hroom : h' + 1 ≤ h ∧ maxL ≤ 81) (hr0 : r ≠ 0) (hn : As.length = n) (hM : zM E y cy maxL none h' (.inr (.inl r) :: As) σ none σ')
    (hst8 : st.length ≤ 4) (k : zG E K fin X σ' (pc + 3) lv st) : zG E K fin X σ pc lv (As.reverse ++ .inr (.inl r) :: st) := by
  intro hX w1 w2 w3 H locs ls hR ho hh
  obtain ⟨r1, r2, r3⟩ := zcR hk
  have hb1 := hR.2.2.2.1
  have hb2 := hR.2.2.2.2.1
  have er : zrv E r = .ref (eA E r) := zrv_ref hr0
  refine z_tight (k := zN σ - zN (c0 K)) (n := zS σ - zS (c0 K)) r3 hR (by omega) (by omega) ?_
  refine z_after hk w1 w2 w3 hR ho hh (rv := none) (rst := st) (rest := st.map (zv E)) ?_ rfl hX k
  have e0 : (As.reverse ++ .inr (.inl r) :: st).map (zv E) = (As.map (zv E)).reverse ++ .ref (eA E r) :: st.map (zv E) := by
    rw [List.map_append, List.map_reverse, List.map_cons]
    show _ ++ zrv E r :: _ = _
    rw [er]
  rw [e0]
  have hpre := zPre hk (av := .inr (.inl r) :: As) hR
  have e1 : ((.inr (.inl r) :: As : List zV).map (zv E)) = Value.ref (eA E r) :: As.map (zv E) := by
    show zrv E r :: _ = _
    rw [er]
  rw [e1] at hpre
  exact va_runIN (Ts := []) ⟨hk.1, hk.2.1, hk.2.2.1, hk.2.2.2.1, fun w h => by cases h⟩ hM ⟨zCN hk hl hini hcd hd2 hroom, hy1, zw hk hin rfl⟩ ⟨zPc_blind _, hpre⟩ rfl (by rw [List.length_map]; exact hn) (by rw [← hk.2.2.1]; exact hh.1) rfl (zrest8 (K := K) (pc := pc) hst8) hd ⟨by rw [r1]; omega, by rw [r2]; omega⟩
/-- a static call of a private method of a nest mate -/
theorem z_csn (hk : zk E K own cc nL h) {y : MethodName} {cy : ByteArray} {maxL n index h' : Nat} {ret : Option FieldType} {As : List zV} {rv : Option Value} {σ' : zW} {rst : List zV} {host : String} (hd : decode cc pc = .ok (.invokestatic index, 3)) (hl : Cond.methodLinkNest own index y host ∈ lw_tbl) (hin : Cond.static y ∈ lw_tbl) (hini : Cond.initialized y.cls ∈ lw_tbl) (hcd : Cond.code y cy maxL ret ∈ lw_tbl)
    (hd2 : y.cls ≠ "java/lang/invoke/MethodHandle" ∧ y.cls ≠ "java/lang/invoke/VarHandle" ∧ (parseMethodDescriptor y.desc).map (fun d => d.parameters.length) = some n) (hroom : h' + 1 ≤ h ∧ maxL ≤ 81) (hn : As.length = n) (hM : zM E y cy maxL ret h' As σ rv σ')
    (hst8 : st.length ≤ 4) (hst : rv.toList ++ st.map (zv E) = rst.map (zv E)) (k : zG E K fin X σ' (pc + 3) lv rst) : zG E K fin X σ pc lv (As.reverse ++ st) := by
  intro hX w1 w2 w3 H locs ls hR ho hh
  obtain ⟨r1, r2, r3⟩ := zcR hk
  have hb1 := hR.2.2.2.1
  have hb2 := hR.2.2.2.2.1
  refine z_tight (k := zN σ - zN (c0 K)) (n := zS σ - zS (c0 K)) r3 hR (by omega) (by omega) ?_
  refine z_after hk w1 w2 w3 hR ho hh (rv := rv) (rst := rst) (rest := st.map (zv E)) ?_ hst hX k
  have e0 : (As.reverse ++ st).map (zv E) = (As.map (zv E)).reverse ++ st.map (zv E) := by
    rw [List.map_append, List.map_reverse]
  rw [e0]
  exact va_runSN (Ts := []) ⟨hk.1, hk.2.1, hk.2.2.1, hk.2.2.2.1, fun w h => by cases h⟩ hM ⟨zCN hk hl hini hcd hd2 hroom, zw hk hin rfl, trivial⟩ ⟨zPc_blind _, zPre hk hR⟩ rfl (by rw [List.length_map]; exact hn) (by rw [← hk.2.2.1]; exact hh.1) rfl (zrest8 (K := K) (pc := pc) hst8) hd ⟨by rw [r1]; omega, by rw [r2]; omega⟩
/-- an exception stands over the frame -/
def zT (E : zE) (K : zC) {α : Type} (fin : α → zO) (X : Option α) (kx : Nat) (σ : zW) (pc : Nat) (lv : zLV) : Prop :=
  (∃ o, X = some o ∧ fin o = cO K) → zN (c0 K) ≤ zN σ → zS (c0 K) ≤ zS σ → lv.length ≤ (cCo K).maxLocals → 1 ≤ kx → kx ≤ 6 → ∀ (H : Heap) (locs : List Loc) (ls : Array Slot) (q : Addr) (ce : Cell) (rest : List Value), zRp E σ H → (∀ q ∈ locs, zB E ≤ q.base) → lv_has ls (cCo K).maxLocals (zlv E 0 lv) →
    H[q]? = some ce → ce.vm = .none → (cS K).vm.findClass (zxn kx) = some ce.cls → vx_W (cP K) (eL E) (cE K) (cR K) (cS K) (cM K) (cA K) (cB K) (cMe K) (cCo K) H locs (cR K).cells (cR K).slots (cQ K) (F0 (cM K) pc ls rest) q
/-- it leaves the method -/
theorem z_out (hk : zk E K own cc nL h) (ht : zthr E K) {kx : Nat} {o : α} (hf : fin o = (.inr kx, σ)) : zT E K fin (some o) kx σ pc lv := by
  rintro ⟨o', h1, h2⟩ w1 w2 w3 hk1 hk6 H locs ls q ce rest hR ho hh hq hv hc
  cases h1
  have e : cO K = (.inr kx, σ) := h2.symm.trans hf
  rw [ht.2]
  exact vx_out (E := zxn kx) (fun x hx => (ht.1 x hx).elim) hk.2.2.2.2.1 hq hv hc (fun t h1 _ => ⟨kx, by rw [e], hk1, hk6, rfl, by rw [h1, e]; exact hR⟩) ho (Nat.le_refl _) (Nat.le_refl _)
/-- behind a call that returned or threw -/
theorem z_afterx (hk : zk E K own cc nL h) {res : zO} {locs : List Loc} {ls : Array Slot} {st0 : List Value} (w1 : zN (c0 K) ≤ zN σ) (w2 : zS (c0 K) ≤ zS σ) (w3 : lv.length ≤ (cCo K).maxLocals) (hR : zRp E σ H) (ho : ∀ q ∈ locs, zB E ≤ q.base) (hh : lv_has ls (cCo K).maxLocals (zlv E 0 lv))
    (hr : vx_Run (cP K) (eL E) (cE K) (cR K) (cS K) (cM K) (cA K) (cB K) (cMe K) (cCo K) H locs (zN σ - zN (c0 K)) (zS σ - zS (c0 K)) (603072 - zN σ) (7219305 - zS σ) (F0 (cM K) pc ls st0) (st.map (zv E)) (fun _ o t => ∃ rv, res.1 = .inl rv ∧ o = .returned rv ∧ zRp E res.2 t.heap) (zXC E res) (zfree E))
    (hX : ∃ o, X = some o ∧ fin o = cO K) (kr : ∀ rv, res.1 = .inl rv → ∃ rst, rv.toList ++ st.map (zv E) = rst.map (zv E) ∧ zG E K fin X res.2 (pc + 3) lv rst) (kt : ∀ kx, res.1 = .inr kx → zT E K fin X kx res.2 pc lv) : zWw E K H locs (zN σ - zN (c0 K)) (zS σ - zS (c0 K)) (F0 (cM K) pc ls st0) := by
  intro T hT X9
  obtain ⟨r1, r2, r3⟩ := zcR hk
  have hb1 := hR.2.2.2.1
  have hb2 := hR.2.2.2.2.1
  rcases hr T hT X9 with ⟨v, st₀, t, T', L, g1, X', g2, g3, g4, ⟨rv, g8, g5, g6⟩, g7⟩ | ⟨q, st₀, t, T', L, n, ce, g1, X', g2, g3, g4, ⟨kx, g8, g9, g10, g11, g6⟩, g12, g13, g14, g7⟩
  · cases g5
    rw [← g3] at g6
    obtain ⟨m1, m2⟩ := z_mono r3 g6 X'
    have X'' := stand_widen (k := (cR K).cells) (n := (cR K).slots) X' (by rw [r1]; omega) (by rw [r2]; omega)
    obtain ⟨rst, hst, k⟩ := kr _ g8
    obtain ⟨t2, a1, b1⟩ := k hX m1 m2 w3 T'.heap (locs ++ L) ls g6 (fun q hq => (List.mem_append.mp hq).elim (ho q) (g2 q)) hh T' rfl X''
    rw [← hst] at a1
    exact ⟨t2, g7 t2 a1, b1⟩
  · rw [← g3] at g6 g12
    subst g11
    obtain ⟨m1, m2⟩ := z_mono r3 g6 X'
    have X'' := stand_widen (k := (cR K).cells) (n := (cR K).slots) X' (by rw [r1]; omega) (by rw [r2]; omega)
    obtain ⟨t2, a1, b1⟩ := kt kx g8 hX m1 m2 w3 g9 g10 T'.heap (locs ++ L) ls q ce (st.map (zv E)) g6 (fun q hq => (List.mem_append.mp hq).elim (ho q) (g2 q)) hh g12 g13 g14 T' rfl X''
    exact ⟨t2, g7.trans a1, b1⟩
/-- a virtual call of a method that returns or throws -/
theorem z_cvx (hk : zk E K own cc nL h) {y : MethodName} {cy : ByteArray} {maxL n index h' ci r : Nat} {ret : Option FieldType} {q : vw_C} {As : List zV} {res : zO} (hd : decode cc pc = .ok (.invokevirtual index, 3)) (hl : Cond.methodLink own index y ∈ lw_tbl) (hin : Cond.instanceMethod y ∈ lw_tbl) (hsel : Cond.selects y.cls y y ∈ lw_tbl) (hini : Cond.initialized y.cls ∈ lw_tbl) (hcd : Cond.code y cy maxL ret ∈ lw_tbl)
    (hd2 : y.cls ≠ "java/lang/invoke/MethodHandle" ∧ y.cls ≠ "java/lang/invoke/VarHandle" ∧ (parseMethodDescriptor y.desc).map (fun d => d.parameters.length) = some n) (hroom : h' + 1 ≤ h ∧ maxL ≤ 81) (hc : zcl[ci]? = some q) (hq : q.1 = y.cls) (hκ : zK σ r = ci + 1) (hn : As.length = n) (hM : zMX E y (Cond.code y cy maxL ret) h' (.inr (.inl r) :: As) σ res)
    (hst8 : st.length ≤ 4) (kr : ∀ rv, res.1 = .inl rv → ∃ rst, rv.toList ++ st.map (zv E) = rst.map (zv E) ∧ zG E K fin X res.2 (pc + 3) lv rst) (kt : ∀ kx, res.1 = .inr kx → zT E K fin X kx res.2 pc lv) : zG E K fin X σ pc lv (As.reverse ++ .inr (.inl r) :: st) := by
  intro hX w1 w2 w3 H locs ls hR ho hh
  obtain ⟨r1, r2, r3⟩ := zcR hk
  have hb1 := hR.2.2.2.1
  have hb2 := hR.2.2.2.2.1
  have hr0 : r ≠ 0 := (zR_ob hR (o := r) (by omega)).1
  have er : zrv E r = .ref (eA E r) := zrv_ref hr0
  refine z_tight (k := zN σ - zN (c0 K)) (n := zS σ - zS (c0 K)) r3 hR (by omega) (by omega) ?_
  refine z_afterx hk w1 w2 w3 hR ho hh (res := res) (st := st) ?_ hX kr kt
  have hcell := zcell hk hc hR hκ
  rw [hq] at hcell
  have e0 : (As.reverse ++ .inr (.inl r) :: st).map (zv E) = (As.map (zv E)).reverse ++ .ref (eA E r) :: st.map (zv E) := by
    rw [List.map_append, List.map_reverse, List.map_cons]
    show _ ++ zrv E r :: _ = _
    rw [er]
  rw [e0]
  have hpre := zPre hk (av := .inr (.inl r) :: As) hR
  have e1 : ((.inr (.inl r) :: As : List zV).map (zv E)) = Value.ref (eA E r) :: As.map (zv E) := by
    show zrv E r :: _ = _
    rw [er]
  rw [e1] at hpre
  exact vx_runV (Ts := []) (C := y.cls) ⟨hk.1, hk.2.1, hk.2.2.1, hk.2.2.2.1, fun w h => by cases h⟩ hM ⟨zCB hk hl hini hcd hd2 hroom, zw hk hin rfl, zw hk hsel rfl⟩ ⟨zPc_blind _, hcell, hpre⟩ rfl (by rw [List.length_map]; exact hn) (by rw [← hk.2.2.1]; exact hh.1) rfl (zrest8 (K := K) (pc := pc) hst8) hd ⟨by rw [r1]; omega, by rw [r2]; omega⟩
/-- a static one -/
theorem z_csx (hk : zk E K own cc nL h) {y : MethodName} {cy : ByteArray} {maxL n index h' : Nat} {ret : Option FieldType} {As : List zV} {res : zO} (hd : decode cc pc = .ok (.invokestatic index, 3)) (hl : Cond.methodLink own index y ∈ lw_tbl) (hin : Cond.static y ∈ lw_tbl) (hini : Cond.initialized y.cls ∈ lw_tbl) (hcd : Cond.code y cy maxL ret ∈ lw_tbl)
    (hd2 : y.cls ≠ "java/lang/invoke/MethodHandle" ∧ y.cls ≠ "java/lang/invoke/VarHandle" ∧ (parseMethodDescriptor y.desc).map (fun d => d.parameters.length) = some n) (hroom : h' + 1 ≤ h ∧ maxL ≤ 81) (hn : As.length = n) (hM : zMX E y (Cond.code y cy maxL ret) h' As σ res)
    (hst8 : st.length ≤ 4) (kr : ∀ rv, res.1 = .inl rv → ∃ rst, rv.toList ++ st.map (zv E) = rst.map (zv E) ∧ zG E K fin X res.2 (pc + 3) lv rst) (kt : ∀ kx, res.1 = .inr kx → zT E K fin X kx res.2 pc lv) : zG E K fin X σ pc lv (As.reverse ++ st) := by
  intro hX w1 w2 w3 H locs ls hR ho hh
  obtain ⟨r1, r2, r3⟩ := zcR hk
  have hb1 := hR.2.2.2.1
  have hb2 := hR.2.2.2.2.1
  refine z_tight (k := zN σ - zN (c0 K)) (n := zS σ - zS (c0 K)) r3 hR (by omega) (by omega) ?_
  refine z_afterx hk w1 w2 w3 hR ho hh (res := res) (st := st) ?_ hX kr kt
  have e0 : (As.reverse ++ st).map (zv E) = (As.map (zv E)).reverse ++ st.map (zv E) := by
    rw [List.map_append, List.map_reverse]
  rw [e0]
  exact vx_runS (Ts := []) ⟨hk.1, hk.2.1, hk.2.2.1, hk.2.2.2.1, fun w h => by cases h⟩ hM ⟨zCB hk hl hini hcd hd2 hroom, zw hk hin rfl⟩ ⟨zPc_blind _, zPre hk hR⟩ rfl (by rw [List.length_map]; exact hn) (by rw [← hk.2.2.1]; exact hh.1) rfl (zrest8 (K := K) (pc := pc) hst8) hd ⟨by rw [r1]; omega, by rw [r2]; omega⟩
end ZF
end
section
/-! THROWS (the first two laws are the kit's own vx_throwS, vx_throwSW with the end's heap said exactly) -/
theorem goodIn_rx {big : List Cond} (ws : List Cond) (ps : List Nat) (hp : ws = ps.filterMap (fun i => big[i]?)) : ∀ w ∈ ws, w ∈ big := by
  intro w hw
  rw [hp] at hw
  obtain ⟨i, -, hi⟩ := List.mem_filterMap.mp hw
  exact List.mem_of_getElem? hi
def zg2 (w : Cond) : Bool := goodWord w || match w with
  | .castable _ _ => true
  | .declares _ => true
  | _ => false
theorem z_word2 {s S : State} {w : Cond} (hW : S.WarmedH s.vm) (h : w.before #[] S = true) (hg : zg2 w = true) (args : Array Value) : w.before args s = true := by
  unfold zg2 at hg
  rcases Bool.or_eq_true _ _ |>.mp hg with h1 | h1
  · exact word_at hW (good_of_word h1) h
  · cases w <;> first | (cases h1; done) | exact va_Nw.use rfl (va_Nw.warmC hW h) | exact va_Nw.use rfl (va_Nw.warmD hW h)
def zxs : List String := ["java/lang/RuntimeException", "java/lang/Exception"]
section
variable {p : Program} {l : Launch} {e : Env} {R : Room} {s : State} {m : MethodId} {args : Array Value} {below : List Frame} {meth : Method} {c : Code} {H : Heap} {locs : List Loc} {cells slots : Nat} {Q : State → Prop}
variable {mc ms : Nat} {free : Addr → Prop} {A0 A1 : Nat → Prop} {H0 : Heap} {a : Array Value} {ls : Array Slot} {st0 rest : List Value}
variable {Qc : Array Value → State → Outcome → State → Prop} {XC : String → State → State → Prop}

theorem zx_throwS {cc : ByteArray} {pc : Nat} (hexec : p.tables.exec = Jvm.exec) (hb : c.code = cc) (hl : l.stackTraces = false) {own cls text : String} {names : List String} {ik is ic mc ms sa : Nat} {A : Nat → Prop}
    (hown : s.vm.findClass own = some m.cls) (hcls : Bundle.fit cls = true) (hnames : ∀ n ∈ names, Bundle.fit n = true)
    (hk : (Cond.classLink own ik cls).before args s = true) (hini : (Cond.initialized cls).before args s = true) (hstr : vk_R own is text sa s) (hat : ∀ w ∈ vx_atS own ic cls names, w.before args s = true)
    (hgood : ∀ w ∈ Cond.classLink own ik cls :: Cond.initialized cls :: vx_atS own ic cls names, vx_ot w = true)
    (hU : vx_Zq Bundle.tN "UNASSIGNED_STACK" Bundle.steD A s s.heap) (hN : vx_Zq Bundle.tN "SUPPRESSED_SENTINEL" Bundle.listD A s s.heap) (hS : va_S A s.heap H locs) (hsize : ls.size = c.maxLocals)
    (d0 : decode cc pc = .ok (.new ik, 3)) (d3 : decode cc (pc + 3) = .ok (.dup, 1)) (d4 : decode cc (pc + 4) = .ok (.ldc is, 2)) (d6 : decode cc (pc + 6) = .ok (.invokespecial ic, 3)) (d9 : decode cc (pc + 9) = .ok (.athrow, 1))
    (hout : ∀ x ∈ c.exceptionTable.toList, covers x (pc + 9) = false)
    (hRframes : names.length + 3 < R.frames) (hRlocals : (rest.map fun v => v.category).sum + (13 * (names.length + 1) + 43) ≤ R.locals) (hRcells : cells + 1 ≤ R.cells) (hRslots : slots + 6 ≤ R.slots) (hlocks : meth.locks = false)
    (hx : ∀ t : State, s.vm.Alike t.vm → t.heap.size = H.size + 1 → (∀ q : Nat, q < H.size → t.heap[q]? = H[q]?) → (∃ ce, t.heap[H.size]? = some ce ∧ ce.slots.size = 6) → XC cls s t)
    (hf : ∀ z ∈ locs, free z.base) (hc : cells + 1 ≤ mc) (hs : slots + 6 ≤ ms) :
    W p l e R s m args below meth c H locs cells slots (vx_MQ below Qc XC args s mc ms free) (F0 m pc ls rest) := by
  intro T hT X
  have htr : e.platform.stackTraces = false := (show e.platform.stackTraces = l.stackTraces by rw [X.admits.platform]).trans hl
  have Y := vx_rebase X (R' := { frames := R.frames, locals := R.locals, cells := 1, slots := 6 }) (Nat.le_refl _) (Nat.le_refl _) hRcells hRslots
  obtain ⟨s', hA⟩ : ∃ z, z = (T.setVm s.vm).setFrames (.invoking m args :: below) := ⟨_, rfl⟩
  rw [← hA] at Y
  have hvm : s'.vm = s.vm := by rw [hA]; rfl
  have hhp : s'.heap = H := by rw [hA]; exact hT
  have hW0 : s.WarmedH s'.vm := by rw [hvm]; exact State.WarmedH.refl s
  have hat' : ∀ w ∈ vx_atS own ic cls names, w.before args s' = true := fun w hw => vx_ot_at hW0 hvm.symm (hgood w (List.mem_cons_of_mem _ (List.mem_cons_of_mem _ hw))) (hat w hw)
  have hk' : (Cond.classLink own ik cls).before args s' = true := vx_ot_at hW0 hvm.symm (hgood _ List.mem_cons_self) hk
  have hini' : (Cond.initialized cls).before args s' = true := vx_ot_at hW0 hvm.symm (hgood _ (List.mem_cons_of_mem _ List.mem_cons_self)) hini
  have hU' : vx_Zq Bundle.tN "UNASSIGNED_STACK" Bundle.steD A s' s'.heap := by rw [hhp]; exact vx_Zq.moved hW0.alike (hU.kept hS.2.1)
  have hN' : vx_Zq Bundle.tN "SUPPRESSED_SENTINEL" Bundle.listD A s' s'.heap := by rw [hhp]; exact vx_Zq.moved hW0.alike (hN.kept hS.2.1)
  have h : ∀ w ∈ Bundle.ownAtoms own ic cls names, w.before args s' = true := vx_own hat' (vx_isRefq hU'.1) (vx_isRefq hN'.1) hU'.2.word hN'.2.word
  have hown' : s'.vm.findClass own = some m.cls := by rw [hvm]; exact hown
  have hins : (Cond.instantiable cls 6).before args s' = true := h _ (by simp [Bundle.ownAtoms])
  obtain ⟨vm₁, cX, kX, hfX, hkX, -, -, X₁, st1⟩ := Y.newCold hexec (own := own) (C := cls) (index := ik) (n := 6) hown' hk' hins hini'
    (g := F0 m pc ls rest) rfl (by rw [hb]; exact d0) (Nat.le_refl _) (Nat.le_refl _)
  generalize hT1 : (T.setVm vm₁).pushCell { cls := cX, slots := kX.instanceTypes.map defaultValue, vm := .none } = T1 at X₁ st1
  have hcat : (Value.ref T.heap.size).category = 1 := rfl
  have hcellA : T1.heap[T.heap.size]? = some (freshCell cX kX) := by rw [← hT1]; exact State.heap_pushCell_size _ _
  have d3' : decode c.code (pc + 3) = .ok (.dup, 1) := by rw [hb]; exact d3
  have d4' : decode c.code (pc + 4) = .ok (.ldc is, 2) := by rw [hb]; exact d4
  have hstr' : vk_R own is text sa s' := vk_R.warm hW0 hstr
  obtain ⟨U, hsteps, hrun, hend, hW, hsame, ce, hce, hO⟩ := X₁.ctorThrowS hexec htr (own := own) (cls := cls) (names := names) (ic := ic) hown' hcls hnames h (fun x hx => nomatch hx) hfX hkX hcellA (by rw [hhp, hT]; exact Nat.le_refl _) (msg := .ref sa) rfl
    (g := { method := m, pc := pc + 6, locals := ls, stack := .ref sa :: .ref T.heap.size :: .ref T.heap.size :: rest, locked := none }) rfl hsize rfl rfl (rest := rest) rfl
    (by rw [hb]; exact d6) (by rw [hb]; exact d9) hout hRframes (by simp only [List.map_cons, List.sum_cons, hcat]; omega) hlocks
  obtain ⟨f1, f2⟩ := vx_frame hsame
  rw [hhp] at f1 f2
  have hWs : s.WarmedH U.vm := State.WarmedH.trans hW0 hW
  have hce6 : U.heap[H.size]? = some ce := by rw [← hT]; exact hce
  have hz6 : U.heap.size = H.size + 1 := by
    have g1 := hsame.2.2.1
    have g2 := (Array.getElem?_eq_some_iff.mp hce6).1
    have g3 : U.heap.size ≤ s'.heap.size + 1 := g1
    rw [hhp] at g3
    omega
  have hcl : s.vm.findClass cls = some ce.cls := by
    have h9 := hO.cls
    rw [hvm] at h9
    exact h9
  have hall : s.sameButNew ({ U with vm := s.vm } : State) locs mc ms := by
    subst hA
    obtain ⟨e1, e2⟩ := hsame
    rw [State.setFrames_setFrames] at e1
    have h2 : (T.setVm s.vm).sameButNew ({ U with vm := s.vm } : State) [] (0 + 1) (0 + 6) := ⟨e1, e2⟩
    have h3 := X.same.trans h2
    rw [List.append_nil] at h3
    exact h3.mono hc hs
  refine ⟨U, ?_, .threw T.heap.size, hrun, hend, Or.inr ⟨T.heap.size, rfl, cls, ce, locs, hx U hWs.alike hz6 (fun q hq => f2 q hq (fun z hz => nomatch hz)) ⟨ce, hce6, hO.size⟩, hce, hO.vm, hcl, hWs, hall, hf⟩⟩
  refine st1 _ ?_
  show Steps p.tables e below (T1.setTop { method := m, pc := pc + 3, locals := ls, stack := .ref T.heap.size :: rest, locked := none }) _
  jvm_step X₁.here [X₁.here.top, hexec, d3', Value.category]
  exact X₁.ldcString hexec (own := own) (text := text) (index := is) (a := sa) hown' hstr'.1 hstr'.2
    (g := { method := m, pc := pc + 4, locals := ls, stack := .ref T.heap.size :: .ref T.heap.size :: rest, locked := none }) rfl d4' _ hsteps
theorem zx_throwSW {cc : ByteArray} {pc : Nat} (hexec : p.tables.exec = Jvm.exec) (hb : c.code = cc) (hl : l.stackTraces = false) {own cls text : String} {names : List String} {ik is ic mc ms sa : Nat} {A : Nat → Prop}
    (hown : s.vm.findClass own = some m.cls) (hcls : Bundle.fit cls = true) (hnames : ∀ n ∈ names, Bundle.fit n = true)
    (hk : (Cond.classLink own ik cls).before args s = true) (hini : (Cond.initialized cls).before args s = true) (hstr : vk_R own is text sa s) (hat : ∀ w ∈ vx_atS own ic cls names, w.before args s = true)
    (hgood : ∀ w ∈ Cond.classLink own ik cls :: Cond.initialized cls :: vx_atS own ic cls names, vx_ot w = true)
    (hU : vx_Zq Bundle.tN "UNASSIGNED_STACK" Bundle.steD A s s.heap) (hN : vx_Zq Bundle.tN "SUPPRESSED_SENTINEL" Bundle.listD A s s.heap) (hS : va_S A s.heap H locs) (hsize : ls.size = c.maxLocals)
    (d0 : decode cc pc = .ok (.new ik, 3)) (d3 : decode cc (pc + 3) = .ok (.dup, 1)) (d4 : decode cc (pc + 4) = .ok (.ldc_w is, 3)) (d7 : decode cc (pc + 7) = .ok (.invokespecial ic, 3)) (d10 : decode cc (pc + 10) = .ok (.athrow, 1))
    (hout : ∀ x ∈ c.exceptionTable.toList, covers x (pc + 10) = false)
    (hRframes : names.length + 3 < R.frames) (hRlocals : (rest.map fun v => v.category).sum + (13 * (names.length + 1) + 43) ≤ R.locals) (hRcells : cells + 1 ≤ R.cells) (hRslots : slots + 6 ≤ R.slots) (hlocks : meth.locks = false)
    (hx : ∀ t : State, s.vm.Alike t.vm → t.heap.size = H.size + 1 → (∀ q : Nat, q < H.size → t.heap[q]? = H[q]?) → (∃ ce, t.heap[H.size]? = some ce ∧ ce.slots.size = 6) → XC cls s t)
    (hf : ∀ z ∈ locs, free z.base) (hc : cells + 1 ≤ mc) (hs : slots + 6 ≤ ms) :
    W p l e R s m args below meth c H locs cells slots (vx_MQ below Qc XC args s mc ms free) (F0 m pc ls rest) := by
  intro T hT X
  have htr : e.platform.stackTraces = false := (show e.platform.stackTraces = l.stackTraces by rw [X.admits.platform]).trans hl
  have Y := vx_rebase X (R' := { frames := R.frames, locals := R.locals, cells := 1, slots := 6 }) (Nat.le_refl _) (Nat.le_refl _) hRcells hRslots
  obtain ⟨s', hA⟩ : ∃ z, z = (T.setVm s.vm).setFrames (.invoking m args :: below) := ⟨_, rfl⟩
  rw [← hA] at Y
  have hvm : s'.vm = s.vm := by rw [hA]; rfl
  have hhp : s'.heap = H := by rw [hA]; exact hT
  have hW0 : s.WarmedH s'.vm := by rw [hvm]; exact State.WarmedH.refl s
  have hat' : ∀ w ∈ vx_atS own ic cls names, w.before args s' = true := fun w hw => vx_ot_at hW0 hvm.symm (hgood w (List.mem_cons_of_mem _ (List.mem_cons_of_mem _ hw))) (hat w hw)
  have hk' : (Cond.classLink own ik cls).before args s' = true := vx_ot_at hW0 hvm.symm (hgood _ List.mem_cons_self) hk
  have hini' : (Cond.initialized cls).before args s' = true := vx_ot_at hW0 hvm.symm (hgood _ (List.mem_cons_of_mem _ List.mem_cons_self)) hini
  have hU' : vx_Zq Bundle.tN "UNASSIGNED_STACK" Bundle.steD A s' s'.heap := by rw [hhp]; exact vx_Zq.moved hW0.alike (hU.kept hS.2.1)
  have hN' : vx_Zq Bundle.tN "SUPPRESSED_SENTINEL" Bundle.listD A s' s'.heap := by rw [hhp]; exact vx_Zq.moved hW0.alike (hN.kept hS.2.1)
  have h : ∀ w ∈ Bundle.ownAtoms own ic cls names, w.before args s' = true := vx_own hat' (vx_isRefq hU'.1) (vx_isRefq hN'.1) hU'.2.word hN'.2.word
  have hown' : s'.vm.findClass own = some m.cls := by rw [hvm]; exact hown
  have hins : (Cond.instantiable cls 6).before args s' = true := h _ (by simp [Bundle.ownAtoms])
  obtain ⟨vm₁, cX, kX, hfX, hkX, -, -, X₁, st1⟩ := Y.newCold hexec (own := own) (C := cls) (index := ik) (n := 6) hown' hk' hins hini'
    (g := F0 m pc ls rest) rfl (by rw [hb]; exact d0) (Nat.le_refl _) (Nat.le_refl _)
  generalize hT1 : (T.setVm vm₁).pushCell { cls := cX, slots := kX.instanceTypes.map defaultValue, vm := .none } = T1 at X₁ st1
  have hcat : (Value.ref T.heap.size).category = 1 := rfl
  have hcellA : T1.heap[T.heap.size]? = some (freshCell cX kX) := by rw [← hT1]; exact State.heap_pushCell_size _ _
  have d3' : decode c.code (pc + 3) = .ok (.dup, 1) := by rw [hb]; exact d3
  have d4' : decode c.code (pc + 4) = .ok (.ldc_w is, 3) := by rw [hb]; exact d4
  have hstr' : vk_R own is text sa s' := vk_R.warm hW0 hstr
  obtain ⟨U, hsteps, hrun, hend, hW, hsame, ce, hce, hO⟩ := X₁.ctorThrowS hexec htr (own := own) (cls := cls) (names := names) (ic := ic) hown' hcls hnames h (fun x hx => nomatch hx) hfX hkX hcellA (by rw [hhp, hT]; exact Nat.le_refl _) (msg := .ref sa) rfl
    (g := { method := m, pc := pc + 7, locals := ls, stack := .ref sa :: .ref T.heap.size :: .ref T.heap.size :: rest, locked := none }) rfl hsize rfl rfl (rest := rest) rfl
    (by rw [hb]; exact d7) (by rw [hb]; exact d10) hout hRframes (by simp only [List.map_cons, List.sum_cons, hcat]; omega) hlocks
  obtain ⟨f1, f2⟩ := vx_frame hsame
  rw [hhp] at f1 f2
  have hWs : s.WarmedH U.vm := State.WarmedH.trans hW0 hW
  have hce6 : U.heap[H.size]? = some ce := by rw [← hT]; exact hce
  have hz6 : U.heap.size = H.size + 1 := by
    have g1 := hsame.2.2.1
    have g2 := (Array.getElem?_eq_some_iff.mp hce6).1
    have g3 : U.heap.size ≤ s'.heap.size + 1 := g1
    rw [hhp] at g3
    omega
  have hcl : s.vm.findClass cls = some ce.cls := by
    have h9 := hO.cls
    rw [hvm] at h9
    exact h9
  have hall : s.sameButNew ({ U with vm := s.vm } : State) locs mc ms := by
    subst hA
    obtain ⟨e1, e2⟩ := hsame
    rw [State.setFrames_setFrames] at e1
    have h2 : (T.setVm s.vm).sameButNew ({ U with vm := s.vm } : State) [] (0 + 1) (0 + 6) := ⟨e1, e2⟩
    have h3 := X.same.trans h2
    rw [List.append_nil] at h3
    exact h3.mono hc hs
  refine ⟨U, ?_, .threw T.heap.size, hrun, hend, Or.inr ⟨T.heap.size, rfl, cls, ce, locs, hx U hWs.alike hz6 (fun q hq => f2 q hq (fun z hz => nomatch hz)) ⟨ce, hce6, hO.size⟩, hce, hO.vm, hcl, hWs, hall, hf⟩⟩
  refine st1 _ ?_
  show Steps p.tables e below (T1.setTop { method := m, pc := pc + 3, locals := ls, stack := .ref T.heap.size :: rest, locked := none }) _
  jvm_step X₁.here [X₁.here.top, hexec, d3', Value.category]
  exact X₁.ldcStringW hexec (own := own) (text := text) (index := is) (a := sa) hown' hstr'.1 hstr'.2
    (g := { method := m, pc := pc + 4, locals := ls, stack := .ref T.heap.size :: .ref T.heap.size :: rest, locked := none }) rfl d4' _ hsteps
end
/-- the words of an exception whose constructor passes its text on by another place than seven -/
def zown (own : String) (ic : Nat) (X Y : String) (r : List String) (fi : Nat) (fb : ByteArray) : List Cond :=
  Bundle.throwableAtoms ++ Bundle.throwableSAtoms ++ (Bundle.passSAtoms X Y fi fb ++ Bundle.chainSAtoms Y r) ++
  [.methodLink own ic (Bundle.initS X), .instantiable X 6, .castable X X, .selects X Bundle.tFill0 Bundle.tFill0, .selects X Bundle.tFill Bundle.tFill,
   .lays X Bundle.tN "cause" "Ljava/lang/Throwable;", .lays X Bundle.tN "stackTrace" Bundle.steD, .lays X Bundle.tN "suppressedExceptions" Bundle.listD, .lays X Bundle.tN "detailMessage" "Ljava/lang/String;",
   .isRef (.static Bundle.tN "UNASSIGNED_STACK" Bundle.steD), .isRef (.static Bundle.tN "SUPPRESSED_SENTINEL" Bundle.listD),
   .fieldLink Bundle.tN 198 Bundle.tN "backtrace" "Ljava/lang/Object;", .lays Bundle.tN Bundle.tN "backtrace" "Ljava/lang/Object;", .lays X Bundle.tN "backtrace" "Ljava/lang/Object;"]
section
variable {p : Program} {l : Launch} {e : Env} {R : Room} {s : State} {m₀ : MethodId} {args : Array Value} {below : List Frame} {meth : Method} {c : Code} {W9 : State} {locs : List Loc} {cells slots : Nat}
set_option maxHeartbeats 2000000 in
/-- its constructor and the throw behind it (as the library's law for place seven, of which it says less) -/
theorem zx_ctor (X : Stand p l e R s m₀ args below meth c W9 locs cells slots) (hexec : p.tables.exec = Jvm.exec) (htr : e.platform.stackTraces = false) {own cls Y0 : String} {r0 : List String} {ic fi : Nat} {fb : ByteArray}
    (hf0 : decode fb 0 = .ok (.aload_n 0, 1)) (hf1 : decode fb 1 = .ok (.aload_n 1, 1)) (hf2 : decode fb 2 = .ok (.invokespecial fi, 3)) (hf5 : decode fb 5 = .ok (.return_, 1))
    (hown : s.vm.findClass own = some m₀.cls) (hcls : Bundle.fit cls = true) (hY0 : Bundle.fit Y0 = true) (hnames : ∀ n ∈ r0, Bundle.fit n = true)
    (h : ∀ a ∈ zown own ic cls Y0 r0 fi fb, a.before args s = true)
    {a : Addr} {cX : ClassId} {kX : Class} (hfoundX : s.vm.findClass cls = some cX) (hkX : s.vm.classes[cX]? = some kX) (hcell : W9.heap[a]? = some (freshCell cX kX)) (hnew : s.heap.size ≤ a) (hlocs : locs = [])
    {msg : Value} (hmsg : msg.isRef = true)
    {g : JFrame} (hg : g.method = m₀) (hsize : g.locals.size = c.maxLocals) (hlocked : g.locked = none) (hentered : g.entered = []) {rest : List Value} (hstack : g.stack = msg :: .ref a :: .ref a :: rest)
    (hd6 : decode c.code g.pc = .ok (.invokespecial ic, 3)) (hd9 : decode c.code (g.pc + 3) = .ok (.athrow, 1)) (hout : ∀ x ∈ c.exceptionTable.toList, covers x (g.pc + 3) = false)
    (hRframes : r0.length + 4 < R.frames) (hRlocals : 2 * g.monitorRoom + ((Value.ref a :: rest).map fun v => v.category).sum + (13 * (r0.length + 2) + 42) ≤ R.locals) (hlocks : meth.locks = false) :
    ∃ U : State, Steps p.tables e below (W9.setTop g) U ∧ U.status = .running ∧ Ended U below (.threw a) ∧ s.WarmedH U.vm ∧ s.sameButNew ({ U with vm := s.vm } : State) locs cells slots ∧
      ∃ ce, U.heap[a]? = some ce ∧ s.vm.findClass cls = some ce.cls ∧ ce.vm = .none ∧ ce.slots.size = 6 := by
  subst hlocs
  have howns : e.platform.frameOwnsMonitors = true := by rw [X.admits.platform]
  have hfin : e.platform.finalization = false := by rw [X.admits.platform]
  have hpl : e.platform.magicAccessors = ({} : Platform).magicAccessors := by rw [X.admits.platform]
  have hh : ∀ x, x ∈ zown own ic cls Y0 r0 fi fb → x.holds args s none s [] = true := fun x hx => h x hx
  obtain ⟨T, Z0, L, -, Y⟩ := ThrowableC.of_atoms (args := args) howns hfin hpl (fun x hx => h x (by simp [zown, hx]))
  obtain ⟨Z, M, LZ, LM, hnZ⟩ := Init0T.ofS_atoms (args := args) hpl L Y (fun x hx => h x (by simp [zown, hx]))
  obtain ⟨P1, L1, hP1m, hP1s⟩ := PassC.ofS_atoms (args := args) (s := s) hpl (X := cls) (Y := Y0) (Bundle.fit_spec hcls).1 (Bundle.fit_spec hY0).2 hf0 hf1 hf2 hf5 (fun x hx => h x (by simp [zown, hx]))
  obtain ⟨P2, Ps, hlen, L2, hL, hP2m, hlink2, hlink⟩ := Bundle.chainS (args := args) hpl hnZ r0 Y0 hY0 hnames (fun x hx => h x (by simp [zown, hx]))
  have hlink1 : P1.sup = P2.m := Option.some.inj (hP1s.symm.trans hP2m)
  have hfound : s.vm.findClass cls = some P1.m.cls := findClass_of_methodNamed hP1m
  cases Option.some.inj (hfoundX.symm.trans hfound)
  obtain ⟨c1, kX', hc1, hk, hord, -, -, hn6⟩ := Cond.instantiable_spec (hh (.instantiable cls 6) (by simp [zown]))
  cases Option.some.inj (hc1.symm.trans hfound)
  cases Option.some.inj (hkX.symm.trans hk)
  have hsel0 : selectMethod e.platform s.vm P1.m.cls T.fill0 = .method T.fill0 := by
    obtain ⟨c2, r2, m2, q1, q2, q3, q4, -⟩ := Cond.selects_spec (hh (.selects cls Bundle.tFill0 Bundle.tFill0) (by simp [zown]))
    cases Option.some.inj (q1.symm.trans hfound)
    cases Option.some.inj (q2.symm.trans (State.methodFound?_of_named Y.fill0 (by decide)))
    cases Option.some.inj (q3.symm.trans Y.fill0)
    rw [Launch.admits_selectMethod X.admits]; exact q4
  have hselF : selectMethod e.platform s.vm P1.m.cls T.fill = .method T.fill := by
    obtain ⟨c2, r2, m2, q1, q2, q3, q4, -⟩ := Cond.selects_spec (hh (.selects cls Bundle.tFill Bundle.tFill) (by simp [zown]))
    cases Option.some.inj (q1.symm.trans hfound)
    cases Option.some.inj (q2.symm.trans (State.methodFound?_of_named Y.fill (by decide)))
    cases Option.some.inj (q3.symm.trans Y.fill)
    rw [Launch.admits_selectMethod X.admits]; exact q4
  obtain ⟨cellS0, hcS0, hiss⟩ := Y.statics
  obtain ⟨u0, hu0⟩ := Cond.staticRefV Y.unassigned L.unassignedStatic L.statics hcS0 hiss (hh (.isRef (.static Bundle.tN "UNASSIGNED_STACK" Bundle.steD)) (by simp [zown]))
  obtain ⟨sen, hsen⟩ := Cond.staticRefV Y.sentinel L.sentinelStatic L.statics hcS0 hiss (hh (.isRef (.static Bundle.tN "SUPPRESSED_SENTINEL" Bundle.listD)) (by simp [zown]))
  obtain ⟨ci198, i198, fB, hk198, hg198, ha198, hsB, -, hnB, htB, hffB⟩ := Cond.ownField (t := .object "java/lang/Object") Y.found L.cls (by decide +kernel) (hh (.fieldLink Bundle.tN 198 Bundle.tN "backtrace" "Ljava/lang/Object;") (by simp [zown])) (hh (.lays Bundle.tN Bundle.tN "backtrace" "Ljava/lang/Object;") (by simp [zown])) e.platform hpl
  obtain ⟨cellS, hcS', heS, -, hkeep⟩ := X.same.2.2.2.2.2 T.aS cellS0 hcS0
  have hcellS : W9.heap[T.aS]? = some cellS := hcS'
  have hknownS : cellS.vm ≠ .unknown := by
    rw [heS]; intro hu
    rw [show cellS0.vm = .unknown from hu] at hiss
    cases hiss
  have hneS : T.aS ≠ a := Nat.ne_of_lt (Nat.lt_of_lt_of_le (Array.getElem?_eq_some_iff.mp hcS0).1 hnew)
  obtain ⟨iM, hffM⟩ := Y.msg
  obtain ⟨tyC, dC, hdC, hdnC⟩ := Cond.laysAt hfound hk Y.cause (hh (.lays cls Bundle.tN "cause" "Ljava/lang/Throwable;") (by simp [zown]))
  obtain ⟨tyS, dS, hdS, hdnS⟩ := Cond.laysAt hfound hk Y.stack (hh (.lays cls Bundle.tN "stackTrace" Bundle.steD) (by simp [zown]))
  obtain ⟨tyP, dP, hdP, hdnP⟩ := Cond.laysAt hfound hk Y.supp (hh (.lays cls Bundle.tN "suppressedExceptions" Bundle.listD) (by simp [zown]))
  obtain ⟨tyM, dM, hdM, hdnM⟩ := Cond.laysAt hfound hk hffM (hh (.lays cls Bundle.tN "detailMessage" "Ljava/lang/String;") (by simp [zown]))
  obtain ⟨tyB, dB, hdB, hdnB⟩ := Cond.laysAt hfound hk hffB (hh (.lays cls Bundle.tN "backtrace" "Ljava/lang/Object;") (by simp [zown]))
  have bC := Cond.laysApart hdB hdC hdnB hdnC (by rw [hnB, Y.causeName]; decide)
  have bS := Cond.laysApart hdB hdS hdnB hdnS (by rw [hnB, Y.stackName]; decide)
  have bP := Cond.laysApart hdB hdP hdnB hdnP (by rw [hnB, Y.suppName]; decide)
  have hskip : SkipFacts T e.platform s (fun u => u) u0 ((preparedCellV T.toThrowableT (freshCell P1.m.cls kX) a u0 sen).withEntry W9.cur) :=
    ⟨{ ci198 := ci198, i198 := i198, fBack := fB }, ⟨hk198, hg198, ha198, hsB⟩, by
      have := fresh_default (c := P1.m.cls) tyB
      rw [htB] at this
      simpa [preparedCellV, Cell.setSlot, Cell.withEntry, Array.getElem?_setIfInBounds, bC, bS, bP, bC.symm, bS.symm, bP.symm, defaultValue] using this, fun _ _ => rfl⟩
  obtain ⟨tm, methC, cdC, kC, vm₁, hnC, -, -, -, -, -, -, -, hW₁, st1⟩ := Steps.initColdS (tb := p.tables) (e := e) (below := below) (s := s) (U := W9) X.here hexec X.warmed hpl hown (t := Bundle.initS cls) rfl rfl (Bundle.fit_spec hcls).2
    (hh (.methodLink own ic (Bundle.initS cls)) (by simp [zown])) (h (.instanceMethod (Bundle.initS cls)) (by simp [zown, Bundle.passSAtoms])) (bytes := fb) (maxL := 2) (h (.code (Bundle.initS cls) fb 2 none) (by simp [zown, Bundle.passSAtoms]))
    (f := g) hg (a := a) (msg := msg) (rest := .ref a :: rest) hstack hd6
  cases Option.some.inj (hnC.symm.trans hP1m)
  have X₁ := X.noted hW₁
  obtain ⟨vm₂, X₂, st2⟩ := X₁.ctorMessageOffV hexec (g := { g with stack := .ref a :: rest }) hg hsize T L Z LZ M LM (P1 :: P2 :: Ps)
    (fun P hP => by
      rcases List.mem_cons.mp hP with rfl | hP
      · exact L1
      · rcases List.mem_cons.mp hP with rfl | hP
        · exact L2
        · exact hL P hP) ⟨hlink1, ⟨hlink2, hlink⟩⟩ (u0 := u0) (sen := sen) (self := a) hmsg (cell := freshCell P1.m.cls kX) (cellS := cellS)
    hcell (fun _ => by simp) (by simp) rfl rfl hsel0 hselF hcellS hneS hknownS (by rw [hkeep _ (by simp)]; exact hu0) (by rw [hkeep _ (by simp)]; exact hsen)
    (Takes.of_laid hk hord tyC (by rw [Y.causeType]; rfl)) (Takes.of_laid hk hord tyS (by rw [Y.stackType]; exact fits_refV_array _ u0)) (Takes.of_laid hk hord tyP (by rw [Y.suppType]; exact fits_refV_object _ sen))
    (Takes.of_laid hk hord tyM (by rw [Y.msgType]; exact fits_refV_object _ ⟨msg, hmsg⟩)) Y.objLocals hskip htr [] hd6
    (by simp only [List.length_cons, hlen]; omega) (by simp only [List.length_cons, hlen]; omega)
  obtain ⟨hwalk, hrun, hended, hWU, hsame⟩ := X₂.athrowLeaves hexec (g := { g with stack := .ref a :: rest, pc := g.pc + 3 }) hg hlocked hentered hout (a := a) (rest := rest) rfl hd9
  have hlt : a < ((W9.setVm vm₁).setVm vm₂).heap.size := (Array.getElem?_eq_some_iff.mp hcell).1
  have hU := heapAt_setCell_self (s := (W9.setVm vm₁).setVm vm₂) (plainBareV T.toThrowableT (freshCell P1.m.cls kX) a u0 sen msg) hlt
  refine ⟨_, st1 _ (fun acts => ?_), hrun, hended, hWU, hsame.weaken (fun y hy hlt' => ?_) (Nat.le_refl _) (Nat.le_refl _), _, hU, hfound, rfl, by simp [plainBareV, preparedCellV, Cell.setSlot, hn6]⟩
  · rw [doInvoke_state]
    exact st2 _ hwalk
  · rcases List.mem_append.mp hy with h1 | h1
    · exact h1
    · exfalso
      have hb : y.base = a := by
        simp only [List.mem_cons, List.not_mem_nil, or_false] at h1
        rcases h1 with rfl | rfl | rfl | rfl | rfl <;> rfl
      rw [hb] at hlt'
      exact Nat.not_lt.mpr hnew hlt'
end
def zatN (own : String) (ic : Nat) (X Y : String) (r : List String) (fi : Nat) (fb : ByteArray) : List Cond := (zown own ic X Y r fi fb).filter vx_no
section
variable {p : Program} {l : Launch} {e : Env} {R : Room} {s : State} {m : MethodId} {args : Array Value} {below : List Frame} {meth : Method} {c : Code} {H : Heap} {locs : List Loc} {cells slots : Nat} {Q : State → Prop}
variable {mc ms : Nat} {free : Addr → Prop} {A0 A1 : Nat → Prop} {H0 : Heap} {a : Array Value} {ls : Array Slot} {st0 rest : List Value}
variable {Qc : Array Value → State → Outcome → State → Prop} {XC : String → State → State → Prop}

theorem zx_throwN {cc : ByteArray} {pc : Nat} (hexec : p.tables.exec = Jvm.exec) (hb : c.code = cc) (hl : l.stackTraces = false) {own cls text : String} {Y0 : String} {r0 : List String} {fb : ByteArray} {ik is ic mc ms sa fi : Nat} {A : Nat → Prop}
    (hown : s.vm.findClass own = some m.cls) (hcls : Bundle.fit cls = true) (hY0 : Bundle.fit Y0 = true) (hnames : ∀ n ∈ r0, Bundle.fit n = true) (hf0 : decode fb 0 = .ok (.aload_n 0, 1)) (hf1 : decode fb 1 = .ok (.aload_n 1, 1)) (hf2 : decode fb 2 = .ok (.invokespecial fi, 3)) (hf5 : decode fb 5 = .ok (.return_, 1))
    (hk : (Cond.classLink own ik cls).before args s = true) (hini : (Cond.initialized cls).before args s = true) (hstr : vk_R own is text sa s) (hat : ∀ w ∈ zatN own ic cls Y0 r0 fi fb, w.before args s = true)
    (hgood : ∀ w ∈ Cond.classLink own ik cls :: Cond.initialized cls :: zatN own ic cls Y0 r0 fi fb, vx_ot w = true)
    (hU : vx_Zq Bundle.tN "UNASSIGNED_STACK" Bundle.steD A s s.heap) (hN : vx_Zq Bundle.tN "SUPPRESSED_SENTINEL" Bundle.listD A s s.heap) (hS : va_S A s.heap H locs) (hsize : ls.size = c.maxLocals)
    (d0 : decode cc pc = .ok (.new ik, 3)) (d3 : decode cc (pc + 3) = .ok (.dup, 1)) (d4 : decode cc (pc + 4) = .ok (.ldc is, 2)) (d6 : decode cc (pc + 6) = .ok (.invokespecial ic, 3)) (d9 : decode cc (pc + 9) = .ok (.athrow, 1))
    (hout : ∀ x ∈ c.exceptionTable.toList, covers x (pc + 9) = false)
    (hRframes : r0.length + 4 < R.frames) (hRlocals : (rest.map fun v => v.category).sum + (13 * (r0.length + 2) + 43) ≤ R.locals) (hRcells : cells + 1 ≤ R.cells) (hRslots : slots + 6 ≤ R.slots) (hlocks : meth.locks = false)
    (hx : ∀ t : State, s.vm.Alike t.vm → t.heap.size = H.size + 1 → (∀ q : Nat, q < H.size → t.heap[q]? = H[q]?) → (∃ ce, t.heap[H.size]? = some ce ∧ ce.slots.size = 6) → XC cls s t)
    (hf : ∀ z ∈ locs, free z.base) (hc : cells + 1 ≤ mc) (hs : slots + 6 ≤ ms) :
    W p l e R s m args below meth c H locs cells slots (vx_MQ below Qc XC args s mc ms free) (F0 m pc ls rest) := by
  intro T hT X
  have htr : e.platform.stackTraces = false := (show e.platform.stackTraces = l.stackTraces by rw [X.admits.platform]).trans hl
  have Y := vx_rebase X (R' := { frames := R.frames, locals := R.locals, cells := 1, slots := 6 }) (Nat.le_refl _) (Nat.le_refl _) hRcells hRslots
  obtain ⟨s', hA⟩ : ∃ z, z = (T.setVm s.vm).setFrames (.invoking m args :: below) := ⟨_, rfl⟩
  rw [← hA] at Y
  have hvm : s'.vm = s.vm := by rw [hA]; rfl
  have hhp : s'.heap = H := by rw [hA]; exact hT
  have hW0 : s.WarmedH s'.vm := by rw [hvm]; exact State.WarmedH.refl s
  have hat' : ∀ w ∈ zatN own ic cls Y0 r0 fi fb, w.before args s' = true := fun w hw => vx_ot_at hW0 hvm.symm (hgood w (List.mem_cons_of_mem _ (List.mem_cons_of_mem _ hw))) (hat w hw)
  have hk' : (Cond.classLink own ik cls).before args s' = true := vx_ot_at hW0 hvm.symm (hgood _ List.mem_cons_self) hk
  have hini' : (Cond.initialized cls).before args s' = true := vx_ot_at hW0 hvm.symm (hgood _ (List.mem_cons_of_mem _ List.mem_cons_self)) hini
  have hU' : vx_Zq Bundle.tN "UNASSIGNED_STACK" Bundle.steD A s' s'.heap := by rw [hhp]; exact vx_Zq.moved hW0.alike (hU.kept hS.2.1)
  have hN' : vx_Zq Bundle.tN "SUPPRESSED_SENTINEL" Bundle.listD A s' s'.heap := by rw [hhp]; exact vx_Zq.moved hW0.alike (hN.kept hS.2.1)
  have h : ∀ w ∈ zown own ic cls Y0 r0 fi fb, w.before args s' = true := vx_own hat' (vx_isRefq hU'.1) (vx_isRefq hN'.1) hU'.2.word hN'.2.word
  have hown' : s'.vm.findClass own = some m.cls := by rw [hvm]; exact hown
  have hins : (Cond.instantiable cls 6).before args s' = true := h _ (by simp [zown])
  obtain ⟨vm₁, cX, kX, hfX, hkX, -, -, X₁, st1⟩ := Y.newCold hexec (own := own) (C := cls) (index := ik) (n := 6) hown' hk' hins hini'
    (g := F0 m pc ls rest) rfl (by rw [hb]; exact d0) (Nat.le_refl _) (Nat.le_refl _)
  generalize hT1 : (T.setVm vm₁).pushCell { cls := cX, slots := kX.instanceTypes.map defaultValue, vm := .none } = T1 at X₁ st1
  have hcat : (Value.ref T.heap.size).category = 1 := rfl
  have hcellA : T1.heap[T.heap.size]? = some (freshCell cX kX) := by rw [← hT1]; exact State.heap_pushCell_size _ _
  have d3' : decode c.code (pc + 3) = .ok (.dup, 1) := by rw [hb]; exact d3
  have d4' : decode c.code (pc + 4) = .ok (.ldc is, 2) := by rw [hb]; exact d4
  have hstr' : vk_R own is text sa s' := vk_R.warm hW0 hstr
  obtain ⟨U, hsteps, hrun, hend, hW, hsame, ce, hce, hO1, hO2, hO3⟩ := zx_ctor X₁ hexec htr (own := own) (cls := cls) (Y0 := Y0) (r0 := r0) (ic := ic) (fi := fi) (fb := fb) hf0 hf1 hf2 hf5 hown' hcls hY0 hnames h hfX hkX hcellA (by rw [hhp, hT]; exact Nat.le_refl _) rfl (msg := .ref sa) rfl
    (g := { method := m, pc := pc + 6, locals := ls, stack := .ref sa :: .ref T.heap.size :: .ref T.heap.size :: rest, locked := none }) rfl hsize rfl rfl (rest := rest) rfl
    (by rw [hb]; exact d6) (by rw [hb]; exact d9) hout hRframes (by simp only [List.map_cons, List.sum_cons, hcat]; omega) hlocks
  obtain ⟨f1, f2⟩ := vx_frame hsame
  rw [hhp] at f1 f2
  have hWs : s.WarmedH U.vm := State.WarmedH.trans hW0 hW
  have hce6 : U.heap[H.size]? = some ce := by rw [← hT]; exact hce
  have hz6 : U.heap.size = H.size + 1 := by
    have g1 := hsame.2.2.1
    have g2 := (Array.getElem?_eq_some_iff.mp hce6).1
    have g3 : U.heap.size ≤ s'.heap.size + 1 := g1
    rw [hhp] at g3
    omega
  have hcl : s.vm.findClass cls = some ce.cls := by
    have h9 := hO1
    rw [hvm] at h9
    exact h9
  have hall : s.sameButNew ({ U with vm := s.vm } : State) locs mc ms := by
    subst hA
    obtain ⟨e1, e2⟩ := hsame
    rw [State.setFrames_setFrames] at e1
    have h2 : (T.setVm s.vm).sameButNew ({ U with vm := s.vm } : State) [] (0 + 1) (0 + 6) := ⟨e1, e2⟩
    have h3 := X.same.trans h2
    rw [List.append_nil] at h3
    exact h3.mono hc hs
  refine ⟨U, ?_, .threw T.heap.size, hrun, hend, Or.inr ⟨T.heap.size, rfl, cls, ce, locs, hx U hWs.alike hz6 (fun q hq => f2 q hq (fun z hz => nomatch hz)) ⟨ce, hce6, hO3⟩, hce, hO2, hcl, hWs, hall, hf⟩⟩
  refine st1 _ ?_
  show Steps p.tables e below (T1.setTop { method := m, pc := pc + 3, locals := ls, stack := .ref T.heap.size :: rest, locked := none }) _
  jvm_step X₁.here [X₁.here.top, hexec, d3', Value.category]
  exact X₁.ldcString hexec (own := own) (text := text) (index := is) (a := sa) hown' hstr'.1 hstr'.2
    (g := { method := m, pc := pc + 4, locals := ls, stack := .ref T.heap.size :: .ref T.heap.size :: rest, locked := none }) rfl d4' _ hsteps
theorem zx_throwNW {cc : ByteArray} {pc : Nat} (hexec : p.tables.exec = Jvm.exec) (hb : c.code = cc) (hl : l.stackTraces = false) {own cls text : String} {Y0 : String} {r0 : List String} {fb : ByteArray} {ik is ic mc ms sa fi : Nat} {A : Nat → Prop}
    (hown : s.vm.findClass own = some m.cls) (hcls : Bundle.fit cls = true) (hY0 : Bundle.fit Y0 = true) (hnames : ∀ n ∈ r0, Bundle.fit n = true) (hf0 : decode fb 0 = .ok (.aload_n 0, 1)) (hf1 : decode fb 1 = .ok (.aload_n 1, 1)) (hf2 : decode fb 2 = .ok (.invokespecial fi, 3)) (hf5 : decode fb 5 = .ok (.return_, 1))
    (hk : (Cond.classLink own ik cls).before args s = true) (hini : (Cond.initialized cls).before args s = true) (hstr : vk_R own is text sa s) (hat : ∀ w ∈ zatN own ic cls Y0 r0 fi fb, w.before args s = true)
    (hgood : ∀ w ∈ Cond.classLink own ik cls :: Cond.initialized cls :: zatN own ic cls Y0 r0 fi fb, vx_ot w = true)
    (hU : vx_Zq Bundle.tN "UNASSIGNED_STACK" Bundle.steD A s s.heap) (hN : vx_Zq Bundle.tN "SUPPRESSED_SENTINEL" Bundle.listD A s s.heap) (hS : va_S A s.heap H locs) (hsize : ls.size = c.maxLocals)
    (d0 : decode cc pc = .ok (.new ik, 3)) (d3 : decode cc (pc + 3) = .ok (.dup, 1)) (d4 : decode cc (pc + 4) = .ok (.ldc_w is, 3)) (d7 : decode cc (pc + 7) = .ok (.invokespecial ic, 3)) (d10 : decode cc (pc + 10) = .ok (.athrow, 1))
    (hout : ∀ x ∈ c.exceptionTable.toList, covers x (pc + 10) = false)
    (hRframes : r0.length + 4 < R.frames) (hRlocals : (rest.map fun v => v.category).sum + (13 * (r0.length + 2) + 43) ≤ R.locals) (hRcells : cells + 1 ≤ R.cells) (hRslots : slots + 6 ≤ R.slots) (hlocks : meth.locks = false)
    (hx : ∀ t : State, s.vm.Alike t.vm → t.heap.size = H.size + 1 → (∀ q : Nat, q < H.size → t.heap[q]? = H[q]?) → (∃ ce, t.heap[H.size]? = some ce ∧ ce.slots.size = 6) → XC cls s t)
    (hf : ∀ z ∈ locs, free z.base) (hc : cells + 1 ≤ mc) (hs : slots + 6 ≤ ms) :
    W p l e R s m args below meth c H locs cells slots (vx_MQ below Qc XC args s mc ms free) (F0 m pc ls rest) := by
  intro T hT X
  have htr : e.platform.stackTraces = false := (show e.platform.stackTraces = l.stackTraces by rw [X.admits.platform]).trans hl
  have Y := vx_rebase X (R' := { frames := R.frames, locals := R.locals, cells := 1, slots := 6 }) (Nat.le_refl _) (Nat.le_refl _) hRcells hRslots
  obtain ⟨s', hA⟩ : ∃ z, z = (T.setVm s.vm).setFrames (.invoking m args :: below) := ⟨_, rfl⟩
  rw [← hA] at Y
  have hvm : s'.vm = s.vm := by rw [hA]; rfl
  have hhp : s'.heap = H := by rw [hA]; exact hT
  have hW0 : s.WarmedH s'.vm := by rw [hvm]; exact State.WarmedH.refl s
  have hat' : ∀ w ∈ zatN own ic cls Y0 r0 fi fb, w.before args s' = true := fun w hw => vx_ot_at hW0 hvm.symm (hgood w (List.mem_cons_of_mem _ (List.mem_cons_of_mem _ hw))) (hat w hw)
  have hk' : (Cond.classLink own ik cls).before args s' = true := vx_ot_at hW0 hvm.symm (hgood _ List.mem_cons_self) hk
  have hini' : (Cond.initialized cls).before args s' = true := vx_ot_at hW0 hvm.symm (hgood _ (List.mem_cons_of_mem _ List.mem_cons_self)) hini
  have hU' : vx_Zq Bundle.tN "UNASSIGNED_STACK" Bundle.steD A s' s'.heap := by rw [hhp]; exact vx_Zq.moved hW0.alike (hU.kept hS.2.1)
  have hN' : vx_Zq Bundle.tN "SUPPRESSED_SENTINEL" Bundle.listD A s' s'.heap := by rw [hhp]; exact vx_Zq.moved hW0.alike (hN.kept hS.2.1)
  have h : ∀ w ∈ zown own ic cls Y0 r0 fi fb, w.before args s' = true := vx_own hat' (vx_isRefq hU'.1) (vx_isRefq hN'.1) hU'.2.word hN'.2.word
  have hown' : s'.vm.findClass own = some m.cls := by rw [hvm]; exact hown
  have hins : (Cond.instantiable cls 6).before args s' = true := h _ (by simp [zown])
  obtain ⟨vm₁, cX, kX, hfX, hkX, -, -, X₁, st1⟩ := Y.newCold hexec (own := own) (C := cls) (index := ik) (n := 6) hown' hk' hins hini'
    (g := F0 m pc ls rest) rfl (by rw [hb]; exact d0) (Nat.le_refl _) (Nat.le_refl _)
  generalize hT1 : (T.setVm vm₁).pushCell { cls := cX, slots := kX.instanceTypes.map defaultValue, vm := .none } = T1 at X₁ st1
  have hcat : (Value.ref T.heap.size).category = 1 := rfl
  have hcellA : T1.heap[T.heap.size]? = some (freshCell cX kX) := by rw [← hT1]; exact State.heap_pushCell_size _ _
  have d3' : decode c.code (pc + 3) = .ok (.dup, 1) := by rw [hb]; exact d3
  have d4' : decode c.code (pc + 4) = .ok (.ldc_w is, 3) := by rw [hb]; exact d4
  have hstr' : vk_R own is text sa s' := vk_R.warm hW0 hstr
  obtain ⟨U, hsteps, hrun, hend, hW, hsame, ce, hce, hO1, hO2, hO3⟩ := zx_ctor X₁ hexec htr (own := own) (cls := cls) (Y0 := Y0) (r0 := r0) (ic := ic) (fi := fi) (fb := fb) hf0 hf1 hf2 hf5 hown' hcls hY0 hnames h hfX hkX hcellA (by rw [hhp, hT]; exact Nat.le_refl _) rfl (msg := .ref sa) rfl
    (g := { method := m, pc := pc + 7, locals := ls, stack := .ref sa :: .ref T.heap.size :: .ref T.heap.size :: rest, locked := none }) rfl hsize rfl rfl (rest := rest) rfl
    (by rw [hb]; exact d7) (by rw [hb]; exact d10) hout hRframes (by simp only [List.map_cons, List.sum_cons, hcat]; omega) hlocks
  obtain ⟨f1, f2⟩ := vx_frame hsame
  rw [hhp] at f1 f2
  have hWs : s.WarmedH U.vm := State.WarmedH.trans hW0 hW
  have hce6 : U.heap[H.size]? = some ce := by rw [← hT]; exact hce
  have hz6 : U.heap.size = H.size + 1 := by
    have g1 := hsame.2.2.1
    have g2 := (Array.getElem?_eq_some_iff.mp hce6).1
    have g3 : U.heap.size ≤ s'.heap.size + 1 := g1
    rw [hhp] at g3
    omega
  have hcl : s.vm.findClass cls = some ce.cls := by
    have h9 := hO1
    rw [hvm] at h9
    exact h9
  have hall : s.sameButNew ({ U with vm := s.vm } : State) locs mc ms := by
    subst hA
    obtain ⟨e1, e2⟩ := hsame
    rw [State.setFrames_setFrames] at e1
    have h2 : (T.setVm s.vm).sameButNew ({ U with vm := s.vm } : State) [] (0 + 1) (0 + 6) := ⟨e1, e2⟩
    have h3 := X.same.trans h2
    rw [List.append_nil] at h3
    exact h3.mono hc hs
  refine ⟨U, ?_, .threw T.heap.size, hrun, hend, Or.inr ⟨T.heap.size, rfl, cls, ce, locs, hx U hWs.alike hz6 (fun q hq => f2 q hq (fun z hz => nomatch hz)) ⟨ce, hce6, hO3⟩, hce, hO2, hcl, hWs, hall, hf⟩⟩
  refine st1 _ ?_
  show Steps p.tables e below (T1.setTop { method := m, pc := pc + 3, locals := ls, stack := .ref T.heap.size :: rest, locked := none }) _
  jvm_step X₁.here [X₁.here.top, hexec, d3', Value.category]
  exact X₁.ldcStringW hexec (own := own) (text := text) (index := is) (a := sa) hown' hstr'.1 hstr'.2
    (g := { method := m, pc := pc + 4, locals := ls, stack := .ref T.heap.size :: .ref T.heap.size :: rest, locked := none }) rfl d4' _ hsteps
end
def zthl : List Cond := [(Jvm.Cond.initialized "java/lang/Throwable"), (Jvm.Cond.initialized "java/lang/Exception"), (Jvm.Cond.initialized "java/lang/RuntimeException"), (Jvm.Cond.initialized "java/lang/IllegalArgumentException"), (Jvm.Cond.initialized "java/lang/IllegalStateException"), (Jvm.Cond.initialized "java/lang/IndexOutOfBoundsException"), (Jvm.Cond.initialized "java/util/NoSuchElementException"), (Jvm.Cond.initialized "java/lang/UnsupportedOperationException"), (Jvm.Cond.initialized "java/lang/ArithmeticException"), (Jvm.Cond.methodLink "LotSales" (1 : Nat) ({ cls := "java/lang/Object", name := "<init>", desc := "()V" } : Jvm.MethodName)), (Jvm.Cond.instanceMethod ({ cls := "java/lang/Object", name := "<init>", desc := "()V" } : Jvm.MethodName)), (Jvm.Cond.code ({ cls := "java/lang/Object", name := "<init>", desc := "()V" } : Jvm.MethodName) object_method_1_code (1 : Nat) (Option.none : Option Jvm.ClassFile.FieldType)), (Jvm.Cond.methodLink "LotSales$Sale" (3 : Nat) ({ cls := "java/lang/Object", name := "<init>", desc := "()V" } : Jvm.MethodName)), (Jvm.Cond.methodLink "LotSales$Table" (3 : Nat) ({ cls := "java/lang/Object", name := "<init>", desc := "()V" } : Jvm.MethodName)), (Jvm.Cond.superclass "LotSales$Table" "java/lang/Object"), (Jvm.Cond.methodLink "LotSales$Ledger" (3 : Nat) ({ cls := "java/lang/Object", name := "<init>", desc := "()V" } : Jvm.MethodName)), (Jvm.Cond.superclass "LotSales$Ledger" "java/lang/Object"), (Jvm.Cond.methodLink "LotSales$Lot" (3 : Nat) ({ cls := "java/lang/Object", name := "<init>", desc := "()V" } : Jvm.MethodName)), (Jvm.Cond.superclass "LotSales$Lot" "java/lang/Object"), (Jvm.Cond.superclass "LotSales$Sale" "java/lang/Object"), (Jvm.Cond.methodLink "LotSales$Standing" (3 : Nat) ({ cls := "java/lang/Object", name := "<init>", desc := "()V" } : Jvm.MethodName)), (Jvm.Cond.superclass "LotSales$Standing" "java/lang/Object"), (Jvm.Cond.methodLink "LotSales$History" (3 : Nat) ({ cls := "java/lang/Object", name := "<init>", desc := "()V" } : Jvm.MethodName)), (Jvm.Cond.superclass "LotSales$History" "java/lang/Object"), (Jvm.Cond.methodLink "LotSales$Text" (3 : Nat) ({ cls := "java/lang/Object", name := "<init>", desc := "()V" } : Jvm.MethodName)), (Jvm.Cond.superclass "LotSales$Text" "java/lang/Object"), (Jvm.Cond.superclass "LotSales" "java/lang/Object"), (Jvm.Cond.classLink "LotSalesLaw" (13 : Nat) "java/lang/IllegalArgumentException"), (Jvm.Cond.classLink "LotSalesLaw" (15 : Nat) "java/lang/IllegalStateException"), (Jvm.Cond.classLink "LotSales" (112 : Nat) "java/lang/IllegalArgumentException"), (Jvm.Cond.instantiable "java/lang/IllegalArgumentException" (6 : Nat)), (Jvm.Cond.castable "java/lang/IllegalArgumentException" "java/lang/IllegalArgumentException"), (Jvm.Cond.declares ({ cls := "java/lang/RuntimeException", name := "<init>", desc := "()V" } : Jvm.MethodName)), (Jvm.Cond.declares ({ cls := "java/lang/RuntimeException", name := "<init>", desc := "(Ljava/lang/String;)V" } : Jvm.MethodName)), (Jvm.Cond.declares ({ cls := "java/lang/Exception", name := "<init>", desc := "()V" } : Jvm.MethodName)), (Jvm.Cond.declares ({ cls := "java/lang/Exception", name := "<init>", desc := "(Ljava/lang/String;)V" } : Jvm.MethodName)), (Jvm.Cond.declares ({ cls := "java/lang/Throwable", name := "<init>", desc := "()V" } : Jvm.MethodName)), (Jvm.Cond.declares ({ cls := "java/lang/Throwable", name := "<init>", desc := "(Ljava/lang/String;)V" } : Jvm.MethodName)), (Jvm.Cond.selects "java/lang/IllegalArgumentException" ({ cls := "java/lang/Throwable", name := "fillInStackTrace", desc := "(I)Ljava/lang/Throwable;" } : Jvm.MethodName) ({ cls := "java/lang/Throwable", name := "fillInStackTrace", desc := "(I)Ljava/lang/Throwable;" } : Jvm.MethodName)), (Jvm.Cond.selects "java/lang/IllegalArgumentException" ({ cls := "java/lang/Throwable", name := "fillInStackTrace", desc := "()Ljava/lang/Throwable;" } : Jvm.MethodName) ({ cls := "java/lang/Throwable", name := "fillInStackTrace", desc := "()Ljava/lang/Throwable;" } : Jvm.MethodName)), (Jvm.Cond.lays "java/lang/IllegalArgumentException" "java/lang/Throwable" "cause" "Ljava/lang/Throwable;"), (Jvm.Cond.lays "java/lang/Throwable" "java/lang/Throwable" "cause" "Ljava/lang/Throwable;"), (Jvm.Cond.lays "java/lang/IllegalArgumentException" "java/lang/Throwable" "stackTrace" "[Ljava/lang/StackTraceElement;"), (Jvm.Cond.lays "java/lang/Throwable" "java/lang/Throwable" "stackTrace" "[Ljava/lang/StackTraceElement;"), (Jvm.Cond.lays "java/lang/IllegalArgumentException" "java/lang/Throwable" "suppressedExceptions" "Ljava/util/List;"), (Jvm.Cond.lays "java/lang/Throwable" "java/lang/Throwable" "suppressedExceptions" "Ljava/util/List;"), (Jvm.Cond.lays "java/lang/IllegalArgumentException" "java/lang/Throwable" "detailMessage" "Ljava/lang/String;"), (Jvm.Cond.lays "java/lang/Throwable" "java/lang/Throwable" "detailMessage" "Ljava/lang/String;"), (Jvm.Cond.lays "java/lang/IllegalArgumentException" "java/lang/Throwable" "backtrace" "Ljava/lang/Object;"), (Jvm.Cond.lays "java/lang/Throwable" "java/lang/Throwable" "backtrace" "Ljava/lang/Object;"), (Jvm.Cond.fieldLink "java/lang/Throwable" (198 : Nat) "java/lang/Throwable" "backtrace" "Ljava/lang/Object;"), (Jvm.Cond.superclass "java/lang/Throwable" "java/lang/Object"), (Jvm.Cond.instanceMethod ({ cls := "java/lang/Throwable", name := "<init>", desc := "()V" } : Jvm.MethodName)), (Jvm.Cond.code ({ cls := "java/lang/Throwable", name := "<init>", desc := "()V" } : Jvm.MethodName) prog_22_method_1_code (1 : Nat) (Option.none : Option Jvm.ClassFile.FieldType)), (Jvm.Cond.methodLink "java/lang/Throwable" (1 : Nat) ({ cls := "java/lang/Object", name := "<init>", desc := "()V" } : Jvm.MethodName)), (Jvm.Cond.fieldLink "java/lang/Throwable" (13 : Nat) "java/lang/Throwable" "UNASSIGNED_STACK" "[Ljava/lang/StackTraceElement;"), (Jvm.Cond.laysStatic "java/lang/Throwable" "UNASSIGNED_STACK" "[Ljava/lang/StackTraceElement;"), (Jvm.Cond.fieldLink "java/lang/Throwable" (20 : Nat) "java/lang/Throwable" "SUPPRESSED_SENTINEL" "Ljava/util/List;"), (Jvm.Cond.laysStatic "java/lang/Throwable" "SUPPRESSED_SENTINEL" "Ljava/util/List;"), (Jvm.Cond.methodLink "java/lang/Throwable" (27 : Nat) ({ cls := "java/lang/Throwable", name := "fillInStackTrace", desc := "()Ljava/lang/Throwable;" } : Jvm.MethodName)), (Jvm.Cond.instanceMethod ({ cls := "java/lang/Throwable", name := "fillInStackTrace", desc := "()Ljava/lang/Throwable;" } : Jvm.MethodName)), (Jvm.Cond.sameMethod "java/lang/Throwable" "java/lang/Throwable" "fillInStackTrace" "()Ljava/lang/Throwable;"), (Jvm.Cond.selects "java/lang/ArithmeticException" ({ cls := "java/lang/Throwable", name := "fillInStackTrace", desc := "()Ljava/lang/Throwable;" } : Jvm.MethodName) ({ cls := "java/lang/Throwable", name := "fillInStackTrace", desc := "()Ljava/lang/Throwable;" } : Jvm.MethodName)), (Jvm.Cond.selects "java/lang/ArrayIndexOutOfBoundsException" ({ cls := "java/lang/Throwable", name := "fillInStackTrace", desc := "()Ljava/lang/Throwable;" } : Jvm.MethodName) ({ cls := "java/lang/Throwable", name := "fillInStackTrace", desc := "()Ljava/lang/Throwable;" } : Jvm.MethodName)), (Jvm.Cond.selects "java/lang/IllegalStateException" ({ cls := "java/lang/Throwable", name := "fillInStackTrace", desc := "()Ljava/lang/Throwable;" } : Jvm.MethodName) ({ cls := "java/lang/Throwable", name := "fillInStackTrace", desc := "()Ljava/lang/Throwable;" } : Jvm.MethodName)), (Jvm.Cond.selects "java/lang/IndexOutOfBoundsException" ({ cls := "java/lang/Throwable", name := "fillInStackTrace", desc := "()Ljava/lang/Throwable;" } : Jvm.MethodName) ({ cls := "java/lang/Throwable", name := "fillInStackTrace", desc := "()Ljava/lang/Throwable;" } : Jvm.MethodName)), (Jvm.Cond.selects "java/lang/UnsupportedOperationException" ({ cls := "java/lang/Throwable", name := "fillInStackTrace", desc := "()Ljava/lang/Throwable;" } : Jvm.MethodName) ({ cls := "java/lang/Throwable", name := "fillInStackTrace", desc := "()Ljava/lang/Throwable;" } : Jvm.MethodName)), (Jvm.Cond.selects "java/util/NoSuchElementException" ({ cls := "java/lang/Throwable", name := "fillInStackTrace", desc := "()Ljava/lang/Throwable;" } : Jvm.MethodName) ({ cls := "java/lang/Throwable", name := "fillInStackTrace", desc := "()Ljava/lang/Throwable;" } : Jvm.MethodName)), (Jvm.Cond.codeSync ({ cls := "java/lang/Throwable", name := "fillInStackTrace", desc := "()Ljava/lang/Throwable;" } : Jvm.MethodName) prog_22_method_18_code (1 : Nat) (Option.some (Jvm.ClassFile.FieldType.object "java/lang/Throwable"))), (Jvm.Cond.methodLink "java/lang/Throwable" (202 : Nat) ({ cls := "java/lang/Throwable", name := "fillInStackTrace", desc := "(I)Ljava/lang/Throwable;" } : Jvm.MethodName)), (Jvm.Cond.privateMethod ({ cls := "java/lang/Throwable", name := "fillInStackTrace", desc := "(I)Ljava/lang/Throwable;" } : Jvm.MethodName)), (Jvm.Cond.instanceMethod ({ cls := "java/lang/Throwable", name := "fillInStackTrace", desc := "(I)Ljava/lang/Throwable;" } : Jvm.MethodName)), (Jvm.Cond.instantiable "java/lang/Throwable" (6 : Nat)), (Jvm.Cond.native ({ cls := "java/lang/Throwable", name := "fillInStackTrace", desc := "(I)Ljava/lang/Throwable;" } : Jvm.MethodName)), (Jvm.Cond.methodLink "LotSales" (116 : Nat) ({ cls := "java/lang/IllegalArgumentException", name := "<init>", desc := "(Ljava/lang/String;)V" } : Jvm.MethodName)), (Jvm.Cond.instanceMethod ({ cls := "java/lang/IllegalArgumentException", name := "<init>", desc := "(Ljava/lang/String;)V" } : Jvm.MethodName)), (Jvm.Cond.code ({ cls := "java/lang/IllegalArgumentException", name := "<init>", desc := "(Ljava/lang/String;)V" } : Jvm.MethodName) prog_15_method_2_code (2 : Nat) (Option.none : Option Jvm.ClassFile.FieldType)), (Jvm.Cond.methodLink "java/lang/IllegalArgumentException" (7 : Nat) ({ cls := "java/lang/RuntimeException", name := "<init>", desc := "(Ljava/lang/String;)V" } : Jvm.MethodName)), (Jvm.Cond.instanceMethod ({ cls := "java/lang/RuntimeException", name := "<init>", desc := "(Ljava/lang/String;)V" } : Jvm.MethodName)), (Jvm.Cond.code ({ cls := "java/lang/RuntimeException", name := "<init>", desc := "(Ljava/lang/String;)V" } : Jvm.MethodName) prog_19_method_2_code (2 : Nat) (Option.none : Option Jvm.ClassFile.FieldType)), (Jvm.Cond.methodLink "java/lang/RuntimeException" (7 : Nat) ({ cls := "java/lang/Exception", name := "<init>", desc := "(Ljava/lang/String;)V" } : Jvm.MethodName)), (Jvm.Cond.instanceMethod ({ cls := "java/lang/Exception", name := "<init>", desc := "(Ljava/lang/String;)V" } : Jvm.MethodName)), (Jvm.Cond.code ({ cls := "java/lang/Exception", name := "<init>", desc := "(Ljava/lang/String;)V" } : Jvm.MethodName) prog_14_method_2_code (2 : Nat) (Option.none : Option Jvm.ClassFile.FieldType)), (Jvm.Cond.methodLink "java/lang/Exception" (7 : Nat) ({ cls := "java/lang/Throwable", name := "<init>", desc := "(Ljava/lang/String;)V" } : Jvm.MethodName)), (Jvm.Cond.instanceMethod ({ cls := "java/lang/Throwable", name := "<init>", desc := "(Ljava/lang/String;)V" } : Jvm.MethodName)), (Jvm.Cond.code ({ cls := "java/lang/Throwable", name := "<init>", desc := "(Ljava/lang/String;)V" } : Jvm.MethodName) prog_22_method_2_code (2 : Nat) (Option.none : Option Jvm.ClassFile.FieldType)), (Jvm.Cond.fieldLink "java/lang/Throwable" (198 : Nat) "java/lang/Throwable" "backtrace" "Ljava/lang/Object;"), (Jvm.Cond.fieldLink "java/lang/Throwable" (31 : Nat) "java/lang/Throwable" "detailMessage" "Ljava/lang/String;"), (Jvm.Cond.fieldLink "java/lang/Throwable" (7 : Nat) "java/lang/Throwable" "cause" "Ljava/lang/Throwable;"), (Jvm.Cond.fieldLink "java/lang/Throwable" (17 : Nat) "java/lang/Throwable" "stackTrace" "[Ljava/lang/StackTraceElement;"), (Jvm.Cond.fieldLink "java/lang/Throwable" (24 : Nat) "java/lang/Throwable" "suppressedExceptions" "Ljava/util/List;"), (Jvm.Cond.soleField "java/lang/Throwable" "backtrace"), (Jvm.Cond.soleField "java/lang/Throwable" "detailMessage"), (Jvm.Cond.soleField "java/lang/Throwable" "cause"), (Jvm.Cond.soleField "java/lang/Throwable" "stackTrace"), (Jvm.Cond.lays "java/lang/IllegalArgumentException" "java/lang/Throwable" "depth" "I"), (Jvm.Cond.soleField "java/lang/Throwable" "depth"), (Jvm.Cond.soleField "java/lang/Throwable" "suppressedExceptions"), (Jvm.Cond.superclass "java/lang/IllegalArgumentException" "java/lang/RuntimeException"), (Jvm.Cond.classLink "LotSales" (117 : Nat) "java/lang/IllegalStateException"), (Jvm.Cond.instantiable "java/lang/IllegalStateException" (6 : Nat)), (Jvm.Cond.castable "java/lang/IllegalStateException" "java/lang/IllegalStateException"), (Jvm.Cond.selects "java/lang/IllegalStateException" ({ cls := "java/lang/Throwable", name := "fillInStackTrace", desc := "(I)Ljava/lang/Throwable;" } : Jvm.MethodName) ({ cls := "java/lang/Throwable", name := "fillInStackTrace", desc := "(I)Ljava/lang/Throwable;" } : Jvm.MethodName)), (Jvm.Cond.lays "java/lang/IllegalStateException" "java/lang/Throwable" "cause" "Ljava/lang/Throwable;"), (Jvm.Cond.lays "java/lang/IllegalStateException" "java/lang/Throwable" "stackTrace" "[Ljava/lang/StackTraceElement;"), (Jvm.Cond.lays "java/lang/IllegalStateException" "java/lang/Throwable" "suppressedExceptions" "Ljava/util/List;"), (Jvm.Cond.lays "java/lang/IllegalStateException" "java/lang/Throwable" "detailMessage" "Ljava/lang/String;"), (Jvm.Cond.lays "java/lang/IllegalStateException" "java/lang/Throwable" "backtrace" "Ljava/lang/Object;"), (Jvm.Cond.methodLink "LotSales" (121 : Nat) ({ cls := "java/lang/IllegalStateException", name := "<init>", desc := "(Ljava/lang/String;)V" } : Jvm.MethodName)), (Jvm.Cond.instanceMethod ({ cls := "java/lang/IllegalStateException", name := "<init>", desc := "(Ljava/lang/String;)V" } : Jvm.MethodName)), (Jvm.Cond.code ({ cls := "java/lang/IllegalStateException", name := "<init>", desc := "(Ljava/lang/String;)V" } : Jvm.MethodName) prog_16_method_2_code (2 : Nat) (Option.none : Option Jvm.ClassFile.FieldType)), (Jvm.Cond.methodLink "java/lang/IllegalStateException" (7 : Nat) ({ cls := "java/lang/RuntimeException", name := "<init>", desc := "(Ljava/lang/String;)V" } : Jvm.MethodName)), (Jvm.Cond.lays "java/lang/IllegalStateException" "java/lang/Throwable" "depth" "I"), (Jvm.Cond.superclass "java/lang/IllegalStateException" "java/lang/RuntimeException"), (Jvm.Cond.classLink "LotSalesLaw" (21 : Nat) "java/lang/IndexOutOfBoundsException"), (Jvm.Cond.methodLink "java/lang/ArrayIndexOutOfBoundsException" (7 : Nat) ({ cls := "java/lang/IndexOutOfBoundsException", name := "<init>", desc := "(Ljava/lang/String;)V" } : Jvm.MethodName)), (Jvm.Cond.instanceMethod ({ cls := "java/lang/IndexOutOfBoundsException", name := "<init>", desc := "(Ljava/lang/String;)V" } : Jvm.MethodName)), (Jvm.Cond.code ({ cls := "java/lang/IndexOutOfBoundsException", name := "<init>", desc := "(Ljava/lang/String;)V" } : Jvm.MethodName) prog_17_method_2_code (2 : Nat) (Option.none : Option Jvm.ClassFile.FieldType)), (Jvm.Cond.methodLink "java/lang/IndexOutOfBoundsException" (7 : Nat) ({ cls := "java/lang/RuntimeException", name := "<init>", desc := "(Ljava/lang/String;)V" } : Jvm.MethodName)), (Jvm.Cond.lays "java/lang/ArrayIndexOutOfBoundsException" "java/lang/Throwable" "backtrace" "Ljava/lang/Object;"), (Jvm.Cond.lays "java/lang/ArrayIndexOutOfBoundsException" "java/lang/Throwable" "detailMessage" "Ljava/lang/String;"), (Jvm.Cond.lays "java/lang/ArrayIndexOutOfBoundsException" "java/lang/Throwable" "cause" "Ljava/lang/Throwable;"), (Jvm.Cond.lays "java/lang/ArrayIndexOutOfBoundsException" "java/lang/Throwable" "stackTrace" "[Ljava/lang/StackTraceElement;"), (Jvm.Cond.lays "java/lang/ArrayIndexOutOfBoundsException" "java/lang/Throwable" "depth" "I"), (Jvm.Cond.lays "java/lang/ArrayIndexOutOfBoundsException" "java/lang/Throwable" "suppressedExceptions" "Ljava/util/List;"), (Jvm.Cond.superclass "java/lang/ArrayIndexOutOfBoundsException" "java/lang/IndexOutOfBoundsException"), (Jvm.Cond.declares ({ cls := "java/lang/IndexOutOfBoundsException", name := "<init>", desc := "()V" } : Jvm.MethodName)), (Jvm.Cond.declares ({ cls := "java/lang/IndexOutOfBoundsException", name := "<init>", desc := "(Ljava/lang/String;)V" } : Jvm.MethodName)), (Jvm.Cond.selects "java/lang/ArrayIndexOutOfBoundsException" ({ cls := "java/lang/Throwable", name := "fillInStackTrace", desc := "(I)Ljava/lang/Throwable;" } : Jvm.MethodName) ({ cls := "java/lang/Throwable", name := "fillInStackTrace", desc := "(I)Ljava/lang/Throwable;" } : Jvm.MethodName)), (Jvm.Cond.classLink "LotSales" (101 : Nat) "java/lang/IndexOutOfBoundsException"), (Jvm.Cond.instantiable "java/lang/IndexOutOfBoundsException" (6 : Nat)), (Jvm.Cond.castable "java/lang/IndexOutOfBoundsException" "java/lang/IndexOutOfBoundsException"), (Jvm.Cond.selects "java/lang/IndexOutOfBoundsException" ({ cls := "java/lang/Throwable", name := "fillInStackTrace", desc := "(I)Ljava/lang/Throwable;" } : Jvm.MethodName) ({ cls := "java/lang/Throwable", name := "fillInStackTrace", desc := "(I)Ljava/lang/Throwable;" } : Jvm.MethodName)), (Jvm.Cond.lays "java/lang/IndexOutOfBoundsException" "java/lang/Throwable" "cause" "Ljava/lang/Throwable;"), (Jvm.Cond.lays "java/lang/IndexOutOfBoundsException" "java/lang/Throwable" "stackTrace" "[Ljava/lang/StackTraceElement;"), (Jvm.Cond.lays "java/lang/IndexOutOfBoundsException" "java/lang/Throwable" "suppressedExceptions" "Ljava/util/List;"), (Jvm.Cond.lays "java/lang/IndexOutOfBoundsException" "java/lang/Throwable" "detailMessage" "Ljava/lang/String;"), (Jvm.Cond.lays "java/lang/IndexOutOfBoundsException" "java/lang/Throwable" "backtrace" "Ljava/lang/Object;"), (Jvm.Cond.methodLink "LotSales" (105 : Nat) ({ cls := "java/lang/IndexOutOfBoundsException", name := "<init>", desc := "(Ljava/lang/String;)V" } : Jvm.MethodName)), (Jvm.Cond.lays "java/lang/IndexOutOfBoundsException" "java/lang/Throwable" "depth" "I"), (Jvm.Cond.superclass "java/lang/IndexOutOfBoundsException" "java/lang/RuntimeException"), (Jvm.Cond.classLink "LotSalesLaw" (45 : Nat) "java/lang/UnsupportedOperationException"), (Jvm.Cond.classLink "LotSales" (161 : Nat) "java/util/NoSuchElementException"), (Jvm.Cond.instantiable "java/util/NoSuchElementException" (6 : Nat)), (Jvm.Cond.castable "java/util/NoSuchElementException" "java/util/NoSuchElementException"), (Jvm.Cond.selects "java/util/NoSuchElementException" ({ cls := "java/lang/Throwable", name := "fillInStackTrace", desc := "(I)Ljava/lang/Throwable;" } : Jvm.MethodName) ({ cls := "java/lang/Throwable", name := "fillInStackTrace", desc := "(I)Ljava/lang/Throwable;" } : Jvm.MethodName)), (Jvm.Cond.lays "java/util/NoSuchElementException" "java/lang/Throwable" "cause" "Ljava/lang/Throwable;"), (Jvm.Cond.lays "java/util/NoSuchElementException" "java/lang/Throwable" "stackTrace" "[Ljava/lang/StackTraceElement;"), (Jvm.Cond.lays "java/util/NoSuchElementException" "java/lang/Throwable" "suppressedExceptions" "Ljava/util/List;"), (Jvm.Cond.lays "java/util/NoSuchElementException" "java/lang/Throwable" "detailMessage" "Ljava/lang/String;"), (Jvm.Cond.lays "java/util/NoSuchElementException" "java/lang/Throwable" "backtrace" "Ljava/lang/Object;"), (Jvm.Cond.methodLink "LotSales" (165 : Nat) ({ cls := "java/util/NoSuchElementException", name := "<init>", desc := "(Ljava/lang/String;)V" } : Jvm.MethodName)), (Jvm.Cond.instanceMethod ({ cls := "java/util/NoSuchElementException", name := "<init>", desc := "(Ljava/lang/String;)V" } : Jvm.MethodName)), (Jvm.Cond.code ({ cls := "java/util/NoSuchElementException", name := "<init>", desc := "(Ljava/lang/String;)V" } : Jvm.MethodName) prog_24_method_4_code (2 : Nat) (Option.none : Option Jvm.ClassFile.FieldType)), (Jvm.Cond.methodLink "java/util/NoSuchElementException" (13 : Nat) ({ cls := "java/lang/RuntimeException", name := "<init>", desc := "(Ljava/lang/String;)V" } : Jvm.MethodName)), (Jvm.Cond.lays "java/util/NoSuchElementException" "java/lang/Throwable" "depth" "I"), (Jvm.Cond.superclass "java/util/NoSuchElementException" "java/lang/RuntimeException"), (Jvm.Cond.classLink "LotSales" (409 : Nat) "java/lang/UnsupportedOperationException"), (Jvm.Cond.instantiable "java/lang/UnsupportedOperationException" (6 : Nat)), (Jvm.Cond.castable "java/lang/UnsupportedOperationException" "java/lang/UnsupportedOperationException"), (Jvm.Cond.selects "java/lang/UnsupportedOperationException" ({ cls := "java/lang/Throwable", name := "fillInStackTrace", desc := "(I)Ljava/lang/Throwable;" } : Jvm.MethodName) ({ cls := "java/lang/Throwable", name := "fillInStackTrace", desc := "(I)Ljava/lang/Throwable;" } : Jvm.MethodName)), (Jvm.Cond.lays "java/lang/UnsupportedOperationException" "java/lang/Throwable" "cause" "Ljava/lang/Throwable;"), (Jvm.Cond.lays "java/lang/UnsupportedOperationException" "java/lang/Throwable" "stackTrace" "[Ljava/lang/StackTraceElement;"), (Jvm.Cond.lays "java/lang/UnsupportedOperationException" "java/lang/Throwable" "suppressedExceptions" "Ljava/util/List;"), (Jvm.Cond.lays "java/lang/UnsupportedOperationException" "java/lang/Throwable" "detailMessage" "Ljava/lang/String;"), (Jvm.Cond.lays "java/lang/UnsupportedOperationException" "java/lang/Throwable" "backtrace" "Ljava/lang/Object;"), (Jvm.Cond.methodLink "LotSales" (413 : Nat) ({ cls := "java/lang/UnsupportedOperationException", name := "<init>", desc := "(Ljava/lang/String;)V" } : Jvm.MethodName)), (Jvm.Cond.instanceMethod ({ cls := "java/lang/UnsupportedOperationException", name := "<init>", desc := "(Ljava/lang/String;)V" } : Jvm.MethodName)), (Jvm.Cond.code ({ cls := "java/lang/UnsupportedOperationException", name := "<init>", desc := "(Ljava/lang/String;)V" } : Jvm.MethodName) prog_23_method_2_code (2 : Nat) (Option.none : Option Jvm.ClassFile.FieldType)), (Jvm.Cond.methodLink "java/lang/UnsupportedOperationException" (7 : Nat) ({ cls := "java/lang/RuntimeException", name := "<init>", desc := "(Ljava/lang/String;)V" } : Jvm.MethodName)), (Jvm.Cond.lays "java/lang/UnsupportedOperationException" "java/lang/Throwable" "depth" "I"), (Jvm.Cond.superclass "java/lang/UnsupportedOperationException" "java/lang/RuntimeException"), (Jvm.Cond.classLink "LotSalesLaw" (50 : Nat) "java/util/NoSuchElementException"), (Jvm.Cond.classLink "LotSalesLaw" (119 : Nat) "java/lang/ArithmeticException"), (Jvm.Cond.instantiable "java/lang/ArithmeticException" (6 : Nat)), (Jvm.Cond.instanceMethod ({ cls := "java/lang/ArithmeticException", name := "<init>", desc := "(Ljava/lang/String;)V" } : Jvm.MethodName)), (Jvm.Cond.code ({ cls := "java/lang/ArithmeticException", name := "<init>", desc := "(Ljava/lang/String;)V" } : Jvm.MethodName) prog_12_method_2_code (2 : Nat) (Option.none : Option Jvm.ClassFile.FieldType)), (Jvm.Cond.methodLink "java/lang/ArithmeticException" (7 : Nat) ({ cls := "java/lang/RuntimeException", name := "<init>", desc := "(Ljava/lang/String;)V" } : Jvm.MethodName)), (Jvm.Cond.lays "java/lang/ArithmeticException" "java/lang/Throwable" "backtrace" "Ljava/lang/Object;"), (Jvm.Cond.lays "java/lang/ArithmeticException" "java/lang/Throwable" "detailMessage" "Ljava/lang/String;"), (Jvm.Cond.lays "java/lang/ArithmeticException" "java/lang/Throwable" "cause" "Ljava/lang/Throwable;"), (Jvm.Cond.lays "java/lang/ArithmeticException" "java/lang/Throwable" "stackTrace" "[Ljava/lang/StackTraceElement;"), (Jvm.Cond.lays "java/lang/ArithmeticException" "java/lang/Throwable" "depth" "I"), (Jvm.Cond.lays "java/lang/ArithmeticException" "java/lang/Throwable" "suppressedExceptions" "Ljava/util/List;"), (Jvm.Cond.superclass "java/lang/ArithmeticException" "java/lang/RuntimeException"), (Jvm.Cond.castable "java/lang/ArithmeticException" "java/lang/ArithmeticException"), (Jvm.Cond.selects "java/lang/ArithmeticException" ({ cls := "java/lang/Throwable", name := "fillInStackTrace", desc := "(I)Ljava/lang/Throwable;" } : Jvm.MethodName) ({ cls := "java/lang/Throwable", name := "fillInStackTrace", desc := "(I)Ljava/lang/Throwable;" } : Jvm.MethodName)), (Jvm.Cond.classLink "LotSales" (323 : Nat) "java/lang/ArithmeticException"), (Jvm.Cond.methodLink "LotSales" (327 : Nat) ({ cls := "java/lang/ArithmeticException", name := "<init>", desc := "(Ljava/lang/String;)V" } : Jvm.MethodName)), (Jvm.Cond.methodLink "LotSalesModel" (7 : Nat) ({ cls := "java/lang/Object", name := "<init>", desc := "()V" } : Jvm.MethodName)), (Jvm.Cond.superclass "LotSalesModel" "java/lang/Object"), (Jvm.Cond.sameMethod "java/lang/Throwable" "java/lang/Throwable" "fillInStackTrace" "(I)Ljava/lang/Throwable;"), (Jvm.Cond.castable "java/lang/ArrayIndexOutOfBoundsException" "java/lang/IndexOutOfBoundsException"), (Jvm.Cond.castable "LotSales" "java/lang/Object"), (Jvm.Cond.castable "LotSales$Sale" "java/lang/Object"), (Jvm.Cond.castable "LotSales$Table" "java/lang/Object"), (Jvm.Cond.castable "LotSales$Ledger" "java/lang/Object"), (Jvm.Cond.castable "LotSales$Lot" "java/lang/Object"), (Jvm.Cond.castable "LotSales$Standing" "java/lang/Object"), (Jvm.Cond.castable "LotSales$History" "java/lang/Object"), (Jvm.Cond.castable "LotSales$Text" "java/lang/Object"), (Jvm.Cond.castable "LotSalesModel" "java/lang/Object"), (Jvm.Cond.castable "java/lang/IllegalArgumentException" "java/lang/Object"), (Jvm.Cond.castable "java/lang/IllegalStateException" "java/lang/Object"), (Jvm.Cond.castable "java/lang/ArrayIndexOutOfBoundsException" "java/lang/Object"), (Jvm.Cond.castable "java/lang/IndexOutOfBoundsException" "java/lang/Object"), (Jvm.Cond.castable "java/util/NoSuchElementException" "java/lang/Object"), (Jvm.Cond.castable "java/lang/UnsupportedOperationException" "java/lang/Object"), (Jvm.Cond.castable "java/lang/ArithmeticException" "java/lang/Object"), (Jvm.Cond.castable "java/lang/Throwable" "java/lang/Object"), (Jvm.Cond.castable "java/lang/String" "java/lang/Object")]
theorem zthl_in : ∀ w ∈ zthl, w ∈ lw_tbl := (goodIn_rx zthl [70, 71, 72, 73, 74, 76, 79, 80, 81, 87, 88, 89, 95, 101, 121, 130, 155, 160, 218, 247, 253, 277, 283, 296, 302, 325, 348, 403, 404, 412, 413, 414, 415, 416, 417, 418, 419, 420, 421, 422, 423, 424, 425, 426, 427, 428, 429, 430, 431, 432, 433, 434, 435, 436, 437, 438, 439, 440, 441, 442, 443, 444, 445, 446, 447, 448, 449, 450, 451, 452, 453, 454, 455, 456, 458, 459, 460, 461, 462, 463, 464, 465, 466, 467, 468, 469, 470, 471, 472, 473, 474, 475, 476, 477, 478, 479, 480, 481, 482, 489, 490, 491, 492, 493, 494, 495, 496, 497, 499, 500, 501, 502, 503, 504, 541, 545, 546, 547, 548, 549, 550, 551, 552, 553, 554, 555, 557, 558, 559, 574, 575, 576, 577, 578, 579, 580, 581, 582, 584, 585, 586, 669, 704, 705, 706, 707, 708, 709, 710, 711, 712, 714, 715, 716, 717, 718, 719, 720, 721, 722, 723, 724, 725, 726, 727, 728, 730, 731, 732, 733, 734, 735, 739, 1056, 1057, 1058, 1059, 1060, 1061, 1062, 1063, 1064, 1065, 1066, 1067, 1068, 1069, 1078, 1080, 1180, 1235, 1607, 1608, 1609, 1610, 1611, 1612, 1613, 1614, 1615, 1616, 1617, 1618, 1619, 1620, 1621, 1622, 1623, 1624, 1625, 1626] (by decide +kernel))
theorem zthw_1 : (vx_atS "LotSales" 105 "java/lang/IndexOutOfBoundsException" zxs).all (fun w => decide (w ∈ zthl) && zg2 w) = true := by decide +kernel
theorem zthx_1 : ∀ w ∈ Cond.classLink "LotSales" 101 "java/lang/IndexOutOfBoundsException" :: Cond.initialized "java/lang/IndexOutOfBoundsException" :: vx_atS "LotSales" 105 "java/lang/IndexOutOfBoundsException" zxs, vx_ot w = true := by decide +kernel
theorem zthw_2 : (vx_atS "LotSales" 116 "java/lang/IllegalArgumentException" zxs).all (fun w => decide (w ∈ zthl) && zg2 w) = true := by decide +kernel
theorem zthx_2 : ∀ w ∈ Cond.classLink "LotSales" 112 "java/lang/IllegalArgumentException" :: Cond.initialized "java/lang/IllegalArgumentException" :: vx_atS "LotSales" 116 "java/lang/IllegalArgumentException" zxs, vx_ot w = true := by decide +kernel
theorem zthw_3 : (vx_atS "LotSales" 121 "java/lang/IllegalStateException" zxs).all (fun w => decide (w ∈ zthl) && zg2 w) = true := by decide +kernel
theorem zthx_3 : ∀ w ∈ Cond.classLink "LotSales" 117 "java/lang/IllegalStateException" :: Cond.initialized "java/lang/IllegalStateException" :: vx_atS "LotSales" 121 "java/lang/IllegalStateException" zxs, vx_ot w = true := by decide +kernel
def zatn : List Cond := zatN "LotSales" 165 "java/util/NoSuchElementException" "java/lang/RuntimeException" ["java/lang/Exception"] 13 prog_24_method_4_code
theorem zthw_4 : zatn.all (fun w => decide (w ∈ zthl) && zg2 w) = true := by decide +kernel
theorem zthx_4 : ∀ w ∈ Cond.classLink "LotSales" 161 "java/util/NoSuchElementException" :: Cond.initialized "java/util/NoSuchElementException" :: zatn, vx_ot w = true := by decide +kernel
theorem zthw_5 : (vx_atS "LotSales" 413 "java/lang/UnsupportedOperationException" zxs).all (fun w => decide (w ∈ zthl) && zg2 w) = true := by decide +kernel
theorem zthx_5 : ∀ w ∈ Cond.classLink "LotSales" 409 "java/lang/UnsupportedOperationException" :: Cond.initialized "java/lang/UnsupportedOperationException" :: vx_atS "LotSales" 413 "java/lang/UnsupportedOperationException" zxs, vx_ot w = true := by decide +kernel
theorem zthw_6 : (vx_atS "LotSales" 327 "java/lang/ArithmeticException" zxs).all (fun w => decide (w ∈ zthl) && zg2 w) = true := by decide +kernel
theorem zthx_6 : ∀ w ∈ Cond.classLink "LotSales" 323 "java/lang/ArithmeticException" :: Cond.initialized "java/lang/ArithmeticException" :: vx_atS "LotSales" 327 "java/lang/ArithmeticException" zxs, vx_ot w = true := by decide +kernel
/-- where each exception's words stand -/
def zic : Nat → Nat
  | 1 => 105
  | 2 => 116
  | 3 => 121
  | 4 => 165
  | 5 => 413
  | _ => 327
def zik : Nat → Nat
  | 1 => 101
  | 2 => 112
  | 3 => 117
  | 4 => 161
  | 5 => 409
  | _ => 323
theorem zthwa : ∀ k, 1 ≤ k → k ≤ 6 → k ≠ 4 → ∀ w ∈ vx_atS "LotSales" (zic k) (zxn k) zxs, w ∈ lw_tbl ∧ zg2 w = true := by
  have key : ∀ l : List Cond, l.all (fun w => decide (w ∈ zthl) && zg2 w) = true → ∀ w ∈ l, w ∈ lw_tbl ∧ zg2 w = true := by
    intro l h w hw
    have := List.all_eq_true.mp h w hw
    simp only [Bool.and_eq_true, decide_eq_true_eq] at this
    exact ⟨zthl_in w this.1, this.2⟩
  intro k h1 h6 h4
  match k, h1, h6, h4 with
  | 1, _, _, _ => exact key _ zthw_1
  | 2, _, _, _ => exact key _ zthw_2
  | 3, _, _, _ => exact key _ zthw_3
  | 4, _, _, h4 => exact absurd rfl h4
  | 5, _, _, _ => exact key _ zthw_5
  | 6, _, _, _ => exact key _ zthw_6
theorem zthxa : ∀ k, 1 ≤ k → k ≤ 6 → k ≠ 4 → ∀ w ∈ Cond.classLink "LotSales" (zik k) (zxn k) :: Cond.initialized (zxn k) :: vx_atS "LotSales" (zic k) (zxn k) zxs, vx_ot w = true := by
  intro k h1 h6 h4
  match k, h1, h6, h4 with
  | 1, _, _, _ => exact zthx_1
  | 2, _, _, _ => exact zthx_2
  | 3, _, _, _ => exact zthx_3
  | 4, _, _, h4 => exact absurd rfl h4
  | 5, _, _, _ => exact zthx_5
  | 6, _, _, _ => exact zthx_6
theorem zthwn : ∀ w ∈ zatn, w ∈ lw_tbl ∧ zg2 w = true := by
  intro w hw
  have := List.all_eq_true.mp zthw_4 w hw
  simp only [Bool.and_eq_true, decide_eq_true_eq] at this
  exact ⟨zthl_in w this.1, this.2⟩
def zth {α : Type} (σ : zW) (c : zW → Option α) : Option α := if zN σ + 1 ≤ 603072 ∧ zS σ + 6 ≤ 7219305 then c (nwX σ) else none
section ZTH
variable {E : zE} {K : zC} {cc : ByteArray} {nL h : Nat} {α : Type} {fin : α → zO} {σ : zW} {pc : Nat} {lv : zLV} {st : List zV} {H H1 : Heap}
theorem zRp_nwX (hF : zFx E) (hR : zRp E σ H) (hs : H1.size = H.size + 1) (hq : ∀ q : Nat, q < H.size → H1[q]? = H[q]?) (hx : ∃ x : Cell, H1[H.size]? = some x ∧ x.slots.size = 6) (hn : zN σ + 1 ≤ 603072 ∧ zS σ + 6 ≤ 7219305) : zRp E (nwX σ) H1 := by
  obtain ⟨x, hx, hz⟩ := hx
  have hsz := hR.1
  refine ⟨by rw [hs, hsz]; rfl, fun q hlt => by rw [hq q (by omega)]; exact hR.2.1 q hlt, ?_, hn.1, hn.2, fun o h0 => ?_⟩
  · rw [zsum_push (by omega) hs hq hx, hR.2.2.1, hz]
    rfl
  · obtain ⟨f1, f2, f3, f4⟩ := zR_ob hR (o := o) h0
    exact ⟨f1, by show _ < zN σ + 1 + 4; omega, f3, f4.kept (hq _ f4.lt)⟩
/-- throw new E("text") in the class -/
theorem z_throw (hk : zk E K "LotSales" cc nL h) (ht : zthr E K) {kx is : Nat} {text : String} {c : zW → Option α} {o : zW → α} (h1 : 1 ≤ kx) (h6 : kx ≤ 6) (h4 : kx ≠ 4) (hc : ∀ σ', c σ' = some (o σ')) (hf : ∀ σ', fin (o σ') = (.inr kx, σ')) (hs : Cond.stringRef "LotSales" is text ∈ lw_tbl) (hk1 : Cond.classLink "LotSales" (zik kx) (zxn kx) ∈ lw_tbl) (hini : Cond.initialized (zxn kx) ∈ lw_tbl) (hfit : Bundle.fit (zxn kx) = true)
    (d0 : decode cc pc = .ok (.new (zik kx), 3)) (d3 : decode cc (pc + 3) = .ok (.dup, 1)) (d4 : decode cc (pc + 4) = .ok (.ldc is, 2)) (d6 : decode cc (pc + 6) = .ok (.invokespecial (zic kx), 3)) (d9 : decode cc (pc + 9) = .ok (.athrow, 1)) (hh6 : 6 ≤ h) (hst : st.length ≤ 4) : zG E K fin (zth σ c) σ pc lv st := by
  intro hX w1 w2 w3 H locs ls hR ho hh
  unfold zth at hX
  split at hX
  · next hn =>
    rw [hc] at hX
    obtain ⟨o', e1, e2⟩ := hX
    cases e1
    have e : cO K = (.inr kx, nwX σ) := e2.symm.trans (hf _)
    obtain ⟨r1, r2, r3⟩ := zcR hk
    have hF := zk_F hk
    have hW := hk.2.2.2.2.2.1
    have hcat := zcatsum (st.map (zv E))
    rw [List.length_map] at hcat
    obtain ⟨sa, hsa⟩ := hF.2.2.2.2.2.2.2.2.1 is text hs
    refine z_tight (k := zN σ - zN (c0 K)) (n := zS σ - zS (c0 K)) r3 hR (by omega) (by omega) ?_

    rw [ht.2]
    refine zx_throwS (A := zold E) (names := zxs) hk.1 hk.2.1 hF.1 hk.2.2.2.1 hfit (by decide +kernel) (zw hk hk1 rfl) (zw hk hini rfl) (vk_R.warm hW hsa) (fun w hw => z_word2 hW (hF.2.1 w (zthwa kx h1 h6 h4 w hw).1) (zthwa kx h1 h6 h4 w hw).2 _) (zthxa kx h1 h6 h4)
      ((hF.2.2.2.2.2.2.2.1.1.kept (zkeep hk)).moved hW.alike) ((hF.2.2.2.2.2.2.2.1.2.kept (zkeep hk)).moved hW.alike) (zS_of hk w1 hR ho) hh.1 d0 d3 d4 d6 d9 (fun x hx => (ht.1 x hx).elim) (by have := zhf hk; show 2 + 3 < (cR K).frames; omega) (by have := zhl hk; show _ + (13 * (2 + 1) + 43) ≤ _; omega) (by rw [r1]; omega) (by rw [r2]; omega) hk.2.2.2.2.1
      (fun t ha g1 g2 g3 => ⟨kx, by rw [e], h1, h6, rfl, by rw [e]; exact zRp_nwX hF hR g1 g2 g3 hn⟩) ho (by rw [r1]; omega) (by rw [r2]; omega)
  · exact z_none hX
theorem z_throwW (hk : zk E K "LotSales" cc nL h) (ht : zthr E K) {kx is : Nat} {text : String} {c : zW → Option α} {o : zW → α} (h1 : 1 ≤ kx) (h6 : kx ≤ 6) (h4 : kx ≠ 4) (hc : ∀ σ', c σ' = some (o σ')) (hf : ∀ σ', fin (o σ') = (.inr kx, σ')) (hs : Cond.stringRef "LotSales" is text ∈ lw_tbl) (hk1 : Cond.classLink "LotSales" (zik kx) (zxn kx) ∈ lw_tbl) (hini : Cond.initialized (zxn kx) ∈ lw_tbl) (hfit : Bundle.fit (zxn kx) = true)
    (d0 : decode cc pc = .ok (.new (zik kx), 3)) (d3 : decode cc (pc + 3) = .ok (.dup, 1)) (d4 : decode cc (pc + 4) = .ok (.ldc_w is, 3)) (d7 : decode cc (pc + 7) = .ok (.invokespecial (zic kx), 3)) (d10 : decode cc (pc + 10) = .ok (.athrow, 1)) (hh6 : 6 ≤ h) (hst : st.length ≤ 4) : zG E K fin (zth σ c) σ pc lv st := by
  intro hX w1 w2 w3 H locs ls hR ho hh
  unfold zth at hX
  split at hX
  · next hn =>
    rw [hc] at hX
    obtain ⟨o', e1, e2⟩ := hX
    cases e1
    have e : cO K = (.inr kx, nwX σ) := e2.symm.trans (hf _)
    obtain ⟨r1, r2, r3⟩ := zcR hk
    have hF := zk_F hk
    have hW := hk.2.2.2.2.2.1
    have hcat := zcatsum (st.map (zv E))
    rw [List.length_map] at hcat
    obtain ⟨sa, hsa⟩ := hF.2.2.2.2.2.2.2.2.1 is text hs
    refine z_tight (k := zN σ - zN (c0 K)) (n := zS σ - zS (c0 K)) r3 hR (by omega) (by omega) ?_

    rw [ht.2]
    refine zx_throwSW (A := zold E) (names := zxs) hk.1 hk.2.1 hF.1 hk.2.2.2.1 hfit (by decide +kernel) (zw hk hk1 rfl) (zw hk hini rfl) (vk_R.warm hW hsa) (fun w hw => z_word2 hW (hF.2.1 w (zthwa kx h1 h6 h4 w hw).1) (zthwa kx h1 h6 h4 w hw).2 _) (zthxa kx h1 h6 h4)
      ((hF.2.2.2.2.2.2.2.1.1.kept (zkeep hk)).moved hW.alike) ((hF.2.2.2.2.2.2.2.1.2.kept (zkeep hk)).moved hW.alike) (zS_of hk w1 hR ho) hh.1 d0 d3 d4 d7 d10 (fun x hx => (ht.1 x hx).elim) (by have := zhf hk; show 2 + 3 < (cR K).frames; omega) (by have := zhl hk; show _ + (13 * (2 + 1) + 43) ≤ _; omega) (by rw [r1]; omega) (by rw [r2]; omega) hk.2.2.2.2.1
      (fun t ha g1 g2 g3 => ⟨kx, by rw [e], h1, h6, rfl, by rw [e]; exact zRp_nwX hF hR g1 g2 g3 hn⟩) ho (by rw [r1]; omega) (by rw [r2]; omega)
  · exact z_none hX
/-- throw new E("text") in the class -/
theorem z_throw4 (hk : zk E K "LotSales" cc nL h) (ht : zthr E K) {is : Nat} {text : String} {c : zW → Option α} {o : zW → α} (hc : ∀ σ', c σ' = some (o σ')) (hf : ∀ σ', fin (o σ') = (.inr 4, σ')) (hs : Cond.stringRef "LotSales" is text ∈ lw_tbl) (hk1 : Cond.classLink "LotSales" (zik 4) (zxn 4) ∈ lw_tbl) (hini : Cond.initialized (zxn 4) ∈ lw_tbl) (hfit : Bundle.fit (zxn 4) = true)
    (d0 : decode cc pc = .ok (.new (zik 4), 3)) (d3 : decode cc (pc + 3) = .ok (.dup, 1)) (d4 : decode cc (pc + 4) = .ok (.ldc is, 2)) (d6 : decode cc (pc + 6) = .ok (.invokespecial (zic 4), 3)) (d9 : decode cc (pc + 9) = .ok (.athrow, 1)) (hh6 : 6 ≤ h) (hst : st.length ≤ 4) : zG E K fin (zth σ c) σ pc lv st := by
  intro hX w1 w2 w3 H locs ls hR ho hh
  unfold zth at hX
  split at hX
  · next hn =>
    rw [hc] at hX
    obtain ⟨o', e1, e2⟩ := hX
    cases e1
    have e : cO K = (.inr 4, nwX σ) := e2.symm.trans (hf _)
    obtain ⟨r1, r2, r3⟩ := zcR hk
    have hF := zk_F hk
    have hW := hk.2.2.2.2.2.1
    have hcat := zcatsum (st.map (zv E))
    rw [List.length_map] at hcat
    obtain ⟨sa, hsa⟩ := hF.2.2.2.2.2.2.2.2.1 is text hs
    refine z_tight (k := zN σ - zN (c0 K)) (n := zS σ - zS (c0 K)) r3 hR (by omega) (by omega) ?_

    rw [ht.2]
    refine zx_throwN (A := zold E) (Y0 := "java/lang/RuntimeException") (r0 := ["java/lang/Exception"]) (fi := 13) (fb := prog_24_method_4_code) hk.1 hk.2.1 hF.1 hk.2.2.2.1 hfit (by decide +kernel) (by decide +kernel) (by decide +kernel) (by decide +kernel) (by decide +kernel) (by decide +kernel) (zw hk hk1 rfl) (zw hk hini rfl) (vk_R.warm hW hsa) (fun w hw => z_word2 hW (hF.2.1 w (zthwn w hw).1) (zthwn w hw).2 _) zthx_4
      ((hF.2.2.2.2.2.2.2.1.1.kept (zkeep hk)).moved hW.alike) ((hF.2.2.2.2.2.2.2.1.2.kept (zkeep hk)).moved hW.alike) (zS_of hk w1 hR ho) hh.1 d0 d3 d4 d6 d9 (fun x hx => (ht.1 x hx).elim) (by have := zhf hk; show 1 + 4 < (cR K).frames; omega) (by have := zhl hk; show _ + (13 * (1 + 2) + 43) ≤ _; omega) (by rw [r1]; omega) (by rw [r2]; omega) hk.2.2.2.2.1
      (fun t ha g1 g2 g3 => ⟨4, by rw [e], by decide, by decide, rfl, by rw [e]; exact zRp_nwX hF hR g1 g2 g3 hn⟩) ho (by rw [r1]; omega) (by rw [r2]; omega)
  · exact z_none hX
theorem z_throw4W (hk : zk E K "LotSales" cc nL h) (ht : zthr E K) {is : Nat} {text : String} {c : zW → Option α} {o : zW → α} (hc : ∀ σ', c σ' = some (o σ')) (hf : ∀ σ', fin (o σ') = (.inr 4, σ')) (hs : Cond.stringRef "LotSales" is text ∈ lw_tbl) (hk1 : Cond.classLink "LotSales" (zik 4) (zxn 4) ∈ lw_tbl) (hini : Cond.initialized (zxn 4) ∈ lw_tbl) (hfit : Bundle.fit (zxn 4) = true)
    (d0 : decode cc pc = .ok (.new (zik 4), 3)) (d3 : decode cc (pc + 3) = .ok (.dup, 1)) (d4 : decode cc (pc + 4) = .ok (.ldc_w is, 3)) (d7 : decode cc (pc + 7) = .ok (.invokespecial (zic 4), 3)) (d10 : decode cc (pc + 10) = .ok (.athrow, 1)) (hh6 : 6 ≤ h) (hst : st.length ≤ 4) : zG E K fin (zth σ c) σ pc lv st := by
  intro hX w1 w2 w3 H locs ls hR ho hh
  unfold zth at hX
  split at hX
  · next hn =>
    rw [hc] at hX
    obtain ⟨o', e1, e2⟩ := hX
    cases e1
    have e : cO K = (.inr 4, nwX σ) := e2.symm.trans (hf _)
    obtain ⟨r1, r2, r3⟩ := zcR hk
    have hF := zk_F hk
    have hW := hk.2.2.2.2.2.1
    have hcat := zcatsum (st.map (zv E))
    rw [List.length_map] at hcat
    obtain ⟨sa, hsa⟩ := hF.2.2.2.2.2.2.2.2.1 is text hs
    refine z_tight (k := zN σ - zN (c0 K)) (n := zS σ - zS (c0 K)) r3 hR (by omega) (by omega) ?_

    rw [ht.2]
    refine zx_throwNW (A := zold E) (Y0 := "java/lang/RuntimeException") (r0 := ["java/lang/Exception"]) (fi := 13) (fb := prog_24_method_4_code) hk.1 hk.2.1 hF.1 hk.2.2.2.1 hfit (by decide +kernel) (by decide +kernel) (by decide +kernel) (by decide +kernel) (by decide +kernel) (by decide +kernel) (zw hk hk1 rfl) (zw hk hini rfl) (vk_R.warm hW hsa) (fun w hw => z_word2 hW (hF.2.1 w (zthwn w hw).1) (zthwn w hw).2 _) zthx_4
      ((hF.2.2.2.2.2.2.2.1.1.kept (zkeep hk)).moved hW.alike) ((hF.2.2.2.2.2.2.2.1.2.kept (zkeep hk)).moved hW.alike) (zS_of hk w1 hR ho) hh.1 d0 d3 d4 d7 d10 (fun x hx => (ht.1 x hx).elim) (by have := zhf hk; show 1 + 4 < (cR K).frames; omega) (by have := zhl hk; show _ + (13 * (1 + 2) + 43) ≤ _; omega) (by rw [r1]; omega) (by rw [r2]; omega) hk.2.2.2.2.1
      (fun t ha g1 g2 g3 => ⟨4, by rw [e], by decide, by decide, rfl, by rw [e]; exact zRp_nwX hF hR g1 g2 g3 hn⟩) ho (by rw [r1]; omega) (by rw [r2]; omega)
  · exact z_none hX
end ZTH
end
section
/-! BODIES WITH HANDLERS -/
section ZH
variable {E : zE} {K : zC} {own : String} {cc : ByteArray} {nL h : Nat} {α : Type} {fin : α → zO} {X A B : Option α} {σ σ1 : zW} {pc : Nat} {lv : zLV} {st : List zV} {H H1 : Heap} {hh : List (Nat × Nat × Nat × Nat)}
/-- a method with handlers -/
theorem zMX_ofH {y : MethodName} {ret : Option FieldType} {av : List zV} {res : zO} {o : α} {lv0 : zLV} (hF : zFx E) (hy : plainName y.cls = true) (hav : av.all (fun v => !zwide (some v)) = true) (hlen : av.length ≤ nL) (hlv : zlv0 av nL = lv0) (hX : X = some o) (hfo : fin o = res)
    (body : ∀ K, zk E K y.cls cc nL h → zend E K ret y.name → (cCo K).exceptionTable.toList = tableOf hh → zG E K fin X σ 0 lv0 []) : zMX E y (Cond.codeWith y cc nL ret hh) h av σ res := by
  refine vx_ofWH (cc := cc) (maxL := nL) (ret := ret) (hh := hh) hy rfl ?_
  intro p e s m args below meth c s₁ B hml hv
  obtain ⟨ha, hW, hR⟩ := hv
  have htab := vx_table (x := y) B (atoms_spec (ws := [Cond.codeWith y cc nL ret hh]) B.pre _ List.mem_cons_self)
  have hown : s.vm.findClass y.cls = some m.cls := findClass_of_methodNamed B.named
  have hname : meth.name = y.name := (name_of_methodNamed B.named B.method).1
  refine z_open (E := E) (K := ((p, e, zrm h σ, s, m, args, below), (meth, c, vx_MQ below (zQx E res) (zXC E res) args s (603072 - zN σ) (7219305 - zS σ) (zfree E)), σ, res)) (fin := fin) (X := X) (fun v hv => by have := List.all_eq_true.mp hav v hv; simpa using this) hlen hlv hml hR rfl ⟨o, hX, hfo⟩ ⟨rfl, rfl⟩ ha (body _ ⟨B.exec, B.bytes, hml, hown, B.notSynchronized, hW, hF, rfl, rfl, Nat.le_refl _, Nat.le_refl _, hR⟩ ⟨B.returns, hname, fun rv2 σ2 he H locs cells slots g k => ?_⟩ htab)
  have he' : res = (.inl rv2, σ2) := he
  exact vx_ret (zW_mono (fun t ht => zMQ_mono (fun o t h => ⟨rv2, by rw [he'], h.1, by rw [he']; exact h.2⟩) ht) k)
/-- the handlers ahead of the i-th don't take it -/
def zTi (E : zE) (K : zC) (own : String) {α : Type} (fin : α → zO) (X : Option α) (kx : Nat) (σ : zW) (pc : Nat) (lv : zLV) (i : Nat) : Prop :=
  (∀ z ∈ (cCo K).exceptionTable.toList.take i, covers z pc = false ∨ (z.catchType ≠ 0 ∧ ∃ nm : String, (Cond.classLink own z.catchType nm).before (cA K) (cS K) = true ∧ va_Nc (zxn kx) nm (cS K))) → zT E K fin X kx σ pc lv
theorem z_cat0 {kx : Nat} (k : zTi E K own fin X kx σ pc lv 0) : zT E K fin X kx σ pc lv := k (fun z hz => by simp at hz)
theorem z_catN {kx i : Nat} : zTi E K own fin (none : Option α) kx σ pc lv i := by
  intro _ hX
  exact z_none hX
theorem z_catI (hk : zk E K own cc nL h) (htab : (cCo K).exceptionTable.toList = tableOf hh) {i k1 kx hp : Nat} {x : ExceptionTableEntry} (hx : (tableOf hh)[i]? = some x) (hcov : covers x pc = true) (h0 : x.catchType ≠ 0) (hhp : x.handlerPc = hp) (hl : Cond.classLink own x.catchType (zxn k1) ∈ lw_tbl) (hca : Cond.castable (zxn k1) (zxn k1) ∈ lw_tbl) (h1 : 1 ≤ k1) (h6 : k1 ≤ 6)
    (kt : ∀ q : Addr, zG E K fin A σ hp lv [.inr (.inr (.inr (.inr q)))]) (kf : zTi E K own fin B kx σ pc lv (i + 1)) : zTi E K own fin (if kx = k1 then A else B) kx σ pc lv i := by
  intro hpass hX w1 w2 w3 hk1 hk6 H locs ls q ce rest hR ho hh2 hq hv hc
  have hW := hk.2.2.2.2.2.1
  have hF := zk_F hk
  have hi := (List.getElem?_eq_some_iff.mp hx)
  obtain ⟨hlt, hxe⟩ := hi
  by_cases hkx : kx = k1
  · rw [if_pos hkx] at hX
    subst hkx
    have hsplit : (cCo K).exceptionTable.toList = (tableOf hh).take i ++ x :: (tableOf hh).drop (i + 1) := by
      rw [htab, ← hxe, ← List.drop_eq_getElem_cons hlt, List.take_append_drop]
    rw [htab] at hpass
    refine vx_catch (E := zxn kx) hk.2.2.2.1 _ x _ hsplit hpass hcov h0 (zw hk hl rfl) (va_Nw.use rfl (va_Nw.warmC hW (hF.2.1 _ hca))) hq hv hc ?_
    rw [hhp]
    exact kt q hX w1 w2 w3 H locs ls hR ho hh2
  · rw [if_neg hkx] at hX
    refine kf (fun z hz => ?_) hX w1 w2 w3 hk1 hk6 H locs ls q ce rest hR ho hh2 hq hv hc
    rw [htab] at hpass hz
    rw [List.take_succ, hx] at hz
    rcases List.mem_append.mp hz with g | g
    · exact hpass z g
    · have e : z = x := by simpa using g
      subst e
      exact Or.inr ⟨h0, _, zw hk hl rfl, va_Nc.moved hW.alike (hF.2.2.2.2.2.2.2.2.2 kx k1 hk1 hk6 h1 h6 hkx)⟩
/-- a static call of a method with handlers, that returns -/
theorem z_csw (hk : zk E K own cc nL h) {y : MethodName} {cy : ByteArray} {maxL n index h' : Nat} {ret : Option FieldType} {As : List zV} {rv : Option Value} {σ' : zW} {rst : List zV} (hd : decode cc pc = .ok (.invokestatic index, 3)) (hl : Cond.methodLink own index y ∈ lw_tbl) (hin : Cond.static y ∈ lw_tbl) (hini : Cond.initialized y.cls ∈ lw_tbl) (hcd : Cond.codeWith y cy maxL ret hh ∈ lw_tbl)
    (hd2 : y.cls ≠ "java/lang/invoke/MethodHandle" ∧ y.cls ≠ "java/lang/invoke/VarHandle" ∧ (parseMethodDescriptor y.desc).map (fun d => d.parameters.length) = some n) (hroom : h' + 1 ≤ h ∧ maxL ≤ 81) (hn : As.length = n) (hM : zMX E y (Cond.codeWith y cy maxL ret hh) h' As σ (.inl rv, σ'))
    (hst8 : st.length ≤ 4) (hst : rv.toList ++ st.map (zv E) = rst.map (zv E)) (k : zG E K fin X σ' (pc + 3) lv rst) : zG E K fin X σ pc lv (As.reverse ++ st) := by
  intro hX w1 w2 w3 H locs ls hR ho hh2
  obtain ⟨r1, r2, r3⟩ := zcR hk
  have hb1 := hR.2.2.2.1
  have hb2 := hR.2.2.2.2.1
  refine z_tight (k := zN σ - zN (c0 K)) (n := zS σ - zS (c0 K)) r3 hR (by omega) (by omega) ?_
  refine z_afterx hk w1 w2 w3 hR ho hh2 (res := (.inl rv, σ')) (st := st) ?_ hX (fun rv2 h2 => ?_) (fun kx h2 => by cases h2)
  · have e0 : (As.reverse ++ st).map (zv E) = (As.map (zv E)).reverse ++ st.map (zv E) := by
      rw [List.map_append, List.map_reverse]
    rw [e0]
    have hts : ∀ w ∈ [Cond.codeWith y cy maxL ret hh], w.before (cA K) (cS K) = true := fun w hw => by rw [List.mem_singleton.mp hw]; exact zw hk hcd rfl
    have hgd : GoodIn [Cond.codeWith y cy maxL ret hh] [Cond.codeWith y cy maxL ret hh] := fun w hw => ⟨hw, by have e := List.mem_singleton.mp hw; subst e; exact good_of_word rfl⟩
    refine vx_runSX (Ts := []) ⟨hk.1, hk.2.1, hk.2.2.1, hk.2.2.2.1, fun w h => by cases h⟩ hM ⟨⟨rfl, rfl, ?_, ?_, pay_in hts hgd, List.mem_cons_self⟩, zw hk hcd rfl, zw hk hini rfl, ⟨hd2.1, hd2.2.1⟩, fun sig hs => ?_, zw hk hl rfl, zw hk hin rfl⟩ ⟨zPc_blind _, zPre hk hR⟩ rfl (by rw [List.length_map]) (by rw [← hk.2.2.1]; exact hh2.1) rfl (zrest8 (K := K) (pc := pc) hst8) hd ⟨by rw [r1]; omega, by rw [r2]; omega⟩
    · exact Nat.le_trans hroom.1 (zhf hk)
    · have := zhl hk
      show 8 + (maxL + 11) + 100 * h' ≤ (cR K).locals
      omega
    · have h2 := hd2.2.2
      rw [hs] at h2
      exact hn.trans (Option.some.inj h2).symm
  · cases h2
    exact ⟨rst, hst, k⟩
end ZH
end
section
/-! CALLS BY WHAT THE CALLEE GIVES: R a number and the same world, W a number and a world, V a world, D a double and a world; T, U, E: the same or an exception's number -/
def zfR (σ : zW) : Int32 → zO := fun v => (.inl (some (.int v)), σ)
def zfW : Int32 × zW → zO := fun p => (.inl (some (.int p.1)), p.2)
def zfV : zW → zO := fun σ => (.inl none, σ)
def zfD : UInt64 × zW → zO := fun p => (.inl (some (.double p.1)), p.2)
def zfT : (Int32 ⊕ Nat) × zW → zO := fun p => (match p.1 with | .inl v => .inl (some (.int v)) | .inr k => .inr k, p.2)
def zfU : (Unit ⊕ Nat) × zW → zO := fun p => (match p.1 with | .inl _ => .inl none | .inr k => .inr k, p.2)
def zfE : (UInt64 ⊕ Nat) × zW → zO := fun p => (match p.1 with | .inl v => .inl (some (.double v)) | .inr k => .inr k, p.2)
def zb {β α : Type} (o : Option β) (c : β → Option α) : Option α := match o with
  | some b => c b
  | none => none
def zb2 {β α : Type} (o : Option (β × zW)) (c : β → zW → Option α) : Option α := match o with
  | some p => c p.1 p.2
  | none => none
def zbx {β α : Type} (o : Option ((β ⊕ Nat) × zW)) (c : β → zW → Option α) (t : Nat → zW → Option α) : Option α := match o with
  | some (.inl v, σ) => c v σ
  | some (.inr k, σ) => t k σ
  | none => none
section ZWR
variable {E : zE} {K : zC} {own : String} {cc : ByteArray} {nL h : Nat} {α : Type} {fin : α → zO} {σ : zW} {pc : Nat} {lv : zLV} {st : List zV}
variable {y : MethodName} {cy : ByteArray} {maxL n index h' ci r : Nat} {ret : Option FieldType} {q : vw_C} {As : List zV} {host : String} {hh : List (Nat × Nat × Nat × Nat)}

theorem z_vR (hk : zk E K own cc nL h) (hd : decode cc pc = .ok (.invokevirtual index, 3)) (hl : Cond.methodLink own index y ∈ lw_tbl) (hin : Cond.instanceMethod y ∈ lw_tbl) (hsel : Cond.selects y.cls y y ∈ lw_tbl) (hini : Cond.initialized y.cls ∈ lw_tbl) (hcd : Cond.code y cy maxL ret ∈ lw_tbl) (hd2 : y.cls ≠ "java/lang/invoke/MethodHandle" ∧ y.cls ≠ "java/lang/invoke/VarHandle" ∧ (parseMethodDescriptor y.desc).map (fun d => d.parameters.length) = some n) (hroom : h' + 1 ≤ h ∧ maxL ≤ 81) (hc : zcl[ci]? = some q) (hq : q.1 = y.cls) (hn : As.length = n) {f : Option Int32} {c : Int32 → Option α}
    (hM : ∀ v, f = some v → zM E y cy maxL ret h' (.inr (.inl r) :: As) σ (some (.int v)) σ) (hst8 : st.length ≤ 4) (k : ∀ v, zG E K fin (c v) σ (pc + 3) lv (.inl v :: st)) : zG E K fin (zck σ (ci + 1) r (zb f c)) σ pc lv (As.reverse ++ .inr (.inl r) :: st) := by
  by_cases hκ : zK σ r = ci + 1
  · rw [show zck σ (ci + 1) r (zb f c) = zb f c from if_pos hκ]
    cases hf : f with
    | none => intro hX; exact z_none hX
    | some v => exact z_cv hk hd hl hin hsel hini hcd hd2 hroom hc hq hκ hn (hM v hf) hst8 rfl (k v)
  · rw [show zck σ (ci + 1) r (zb f c) = none from if_neg hκ]
    intro hX
    exact z_none hX
theorem z_qR (hk : zk E K own cc nL h) (hd : decode cc pc = .ok (.invokestatic index, 3)) (hl : Cond.methodLink own index y ∈ lw_tbl) (hin : Cond.static y ∈ lw_tbl) (hini : Cond.initialized y.cls ∈ lw_tbl) (hcd : Cond.code y cy maxL ret ∈ lw_tbl) (hd2 : y.cls ≠ "java/lang/invoke/MethodHandle" ∧ y.cls ≠ "java/lang/invoke/VarHandle" ∧ (parseMethodDescriptor y.desc).map (fun d => d.parameters.length) = some n) (hroom : h' + 1 ≤ h ∧ maxL ≤ 81) (hn : As.length = n) {f : Option Int32} {c : Int32 → Option α}
    (hM : ∀ v, f = some v → zM E y cy maxL ret h' As σ (some (.int v)) σ) (hst8 : st.length ≤ 4) (k : ∀ v, zG E K fin (c v) σ (pc + 3) lv (.inl v :: st)) : zG E K fin (zb f c) σ pc lv (As.reverse ++ st) := by
  cases hf : f with
  | none => intro hX; exact z_none hX
  | some v => exact z_cs hk hd hl hin hini hcd hd2 hroom hn (hM v hf) hst8 rfl (k v)
theorem z_qnR (hk : zk E K own cc nL h) (hd : decode cc pc = .ok (.invokestatic index, 3)) (hl : Cond.methodLinkNest own index y host ∈ lw_tbl) (hin : Cond.static y ∈ lw_tbl) (hini : Cond.initialized y.cls ∈ lw_tbl) (hcd : Cond.code y cy maxL ret ∈ lw_tbl) (hd2 : y.cls ≠ "java/lang/invoke/MethodHandle" ∧ y.cls ≠ "java/lang/invoke/VarHandle" ∧ (parseMethodDescriptor y.desc).map (fun d => d.parameters.length) = some n) (hroom : h' + 1 ≤ h ∧ maxL ≤ 81) (hn : As.length = n) {f : Option Int32} {c : Int32 → Option α}
    (hM : ∀ v, f = some v → zM E y cy maxL ret h' As σ (some (.int v)) σ) (hst8 : st.length ≤ 4) (k : ∀ v, zG E K fin (c v) σ (pc + 3) lv (.inl v :: st)) : zG E K fin (zb f c) σ pc lv (As.reverse ++ st) := by
  cases hf : f with
  | none => intro hX; exact z_none hX
  | some v => exact z_csn hk hd hl hin hini hcd hd2 hroom hn (hM v hf) hst8 rfl (k v)
theorem z_vW (hk : zk E K own cc nL h) (hd : decode cc pc = .ok (.invokevirtual index, 3)) (hl : Cond.methodLink own index y ∈ lw_tbl) (hin : Cond.instanceMethod y ∈ lw_tbl) (hsel : Cond.selects y.cls y y ∈ lw_tbl) (hini : Cond.initialized y.cls ∈ lw_tbl) (hcd : Cond.code y cy maxL ret ∈ lw_tbl) (hd2 : y.cls ≠ "java/lang/invoke/MethodHandle" ∧ y.cls ≠ "java/lang/invoke/VarHandle" ∧ (parseMethodDescriptor y.desc).map (fun d => d.parameters.length) = some n) (hroom : h' + 1 ≤ h ∧ maxL ≤ 81) (hc : zcl[ci]? = some q) (hq : q.1 = y.cls) (hn : As.length = n) {f : Option (Int32 × zW)} {c : Int32 → zW → Option α}
    (hM : ∀ p, f = some p → zM E y cy maxL ret h' (.inr (.inl r) :: As) σ (some (.int p.1)) p.2) (hst8 : st.length ≤ 4) (k : ∀ v s, zG E K fin (c v s) s (pc + 3) lv (.inl v :: st)) : zG E K fin (zck σ (ci + 1) r (zb2 f c)) σ pc lv (As.reverse ++ .inr (.inl r) :: st) := by
  by_cases hκ : zK σ r = ci + 1
  · rw [show zck σ (ci + 1) r (zb2 f c) = zb2 f c from if_pos hκ]
    cases hf : f with
    | none => intro hX; exact z_none hX
    | some p => exact z_cv hk hd hl hin hsel hini hcd hd2 hroom hc hq hκ hn (hM p hf) hst8 rfl (k p.1 p.2)
  · rw [show zck σ (ci + 1) r (zb2 f c) = none from if_neg hκ]
    intro hX
    exact z_none hX
theorem z_qW (hk : zk E K own cc nL h) (hd : decode cc pc = .ok (.invokestatic index, 3)) (hl : Cond.methodLink own index y ∈ lw_tbl) (hin : Cond.static y ∈ lw_tbl) (hini : Cond.initialized y.cls ∈ lw_tbl) (hcd : Cond.code y cy maxL ret ∈ lw_tbl) (hd2 : y.cls ≠ "java/lang/invoke/MethodHandle" ∧ y.cls ≠ "java/lang/invoke/VarHandle" ∧ (parseMethodDescriptor y.desc).map (fun d => d.parameters.length) = some n) (hroom : h' + 1 ≤ h ∧ maxL ≤ 81) (hn : As.length = n) {f : Option (Int32 × zW)} {c : Int32 → zW → Option α}
    (hM : ∀ p, f = some p → zM E y cy maxL ret h' As σ (some (.int p.1)) p.2) (hst8 : st.length ≤ 4) (k : ∀ v s, zG E K fin (c v s) s (pc + 3) lv (.inl v :: st)) : zG E K fin (zb2 f c) σ pc lv (As.reverse ++ st) := by
  cases hf : f with
  | none => intro hX; exact z_none hX
  | some p => exact z_cs hk hd hl hin hini hcd hd2 hroom hn (hM p hf) hst8 rfl (k p.1 p.2)
theorem z_qnW (hk : zk E K own cc nL h) (hd : decode cc pc = .ok (.invokestatic index, 3)) (hl : Cond.methodLinkNest own index y host ∈ lw_tbl) (hin : Cond.static y ∈ lw_tbl) (hini : Cond.initialized y.cls ∈ lw_tbl) (hcd : Cond.code y cy maxL ret ∈ lw_tbl) (hd2 : y.cls ≠ "java/lang/invoke/MethodHandle" ∧ y.cls ≠ "java/lang/invoke/VarHandle" ∧ (parseMethodDescriptor y.desc).map (fun d => d.parameters.length) = some n) (hroom : h' + 1 ≤ h ∧ maxL ≤ 81) (hn : As.length = n) {f : Option (Int32 × zW)} {c : Int32 → zW → Option α}
    (hM : ∀ p, f = some p → zM E y cy maxL ret h' As σ (some (.int p.1)) p.2) (hst8 : st.length ≤ 4) (k : ∀ v s, zG E K fin (c v s) s (pc + 3) lv (.inl v :: st)) : zG E K fin (zb2 f c) σ pc lv (As.reverse ++ st) := by
  cases hf : f with
  | none => intro hX; exact z_none hX
  | some p => exact z_csn hk hd hl hin hini hcd hd2 hroom hn (hM p hf) hst8 rfl (k p.1 p.2)
theorem z_hW (hk : zk E K own cc nL h) (hd : decode cc pc = .ok (.invokestatic index, 3)) (hl : Cond.methodLink own index y ∈ lw_tbl) (hin : Cond.static y ∈ lw_tbl) (hini : Cond.initialized y.cls ∈ lw_tbl) (hcd : Cond.codeWith y cy maxL ret hh ∈ lw_tbl) (hd2 : y.cls ≠ "java/lang/invoke/MethodHandle" ∧ y.cls ≠ "java/lang/invoke/VarHandle" ∧ (parseMethodDescriptor y.desc).map (fun d => d.parameters.length) = some n) (hroom : h' + 1 ≤ h ∧ maxL ≤ 81) (hn : As.length = n) {f : Option (Int32 × zW)} {c : Int32 → zW → Option α}
    (hM : ∀ p, f = some p → zMX E y (Cond.codeWith y cy maxL ret hh) h' As σ (.inl (some (.int p.1)), p.2)) (hst8 : st.length ≤ 4) (k : ∀ v s, zG E K fin (c v s) s (pc + 3) lv (.inl v :: st)) : zG E K fin (zb2 f c) σ pc lv (As.reverse ++ st) := by
  cases hf : f with
  | none => intro hX; exact z_none hX
  | some p => exact z_csw hk hd hl hin hini hcd hd2 hroom hn (hM p hf) hst8 rfl (k p.1 p.2)
theorem z_vV (hk : zk E K own cc nL h) (hd : decode cc pc = .ok (.invokevirtual index, 3)) (hl : Cond.methodLink own index y ∈ lw_tbl) (hin : Cond.instanceMethod y ∈ lw_tbl) (hsel : Cond.selects y.cls y y ∈ lw_tbl) (hini : Cond.initialized y.cls ∈ lw_tbl) (hcd : Cond.code y cy maxL ret ∈ lw_tbl) (hd2 : y.cls ≠ "java/lang/invoke/MethodHandle" ∧ y.cls ≠ "java/lang/invoke/VarHandle" ∧ (parseMethodDescriptor y.desc).map (fun d => d.parameters.length) = some n) (hroom : h' + 1 ≤ h ∧ maxL ≤ 81) (hc : zcl[ci]? = some q) (hq : q.1 = y.cls) (hn : As.length = n) {f : Option zW} {c : zW → Option α}
    (hM : ∀ s, f = some s → zM E y cy maxL ret h' (.inr (.inl r) :: As) σ (none) s) (hst8 : st.length ≤ 4) (k : ∀ s, zG E K fin (c s) s (pc + 3) lv st) : zG E K fin (zck σ (ci + 1) r (zb f c)) σ pc lv (As.reverse ++ .inr (.inl r) :: st) := by
  by_cases hκ : zK σ r = ci + 1
  · rw [show zck σ (ci + 1) r (zb f c) = zb f c from if_pos hκ]
    cases hf : f with
    | none => intro hX; exact z_none hX
    | some s => exact z_cv hk hd hl hin hsel hini hcd hd2 hroom hc hq hκ hn (hM s hf) hst8 rfl (k s)
  · rw [show zck σ (ci + 1) r (zb f c) = none from if_neg hκ]
    intro hX
    exact z_none hX
theorem z_vD (hk : zk E K own cc nL h) (hd : decode cc pc = .ok (.invokevirtual index, 3)) (hl : Cond.methodLink own index y ∈ lw_tbl) (hin : Cond.instanceMethod y ∈ lw_tbl) (hsel : Cond.selects y.cls y y ∈ lw_tbl) (hini : Cond.initialized y.cls ∈ lw_tbl) (hcd : Cond.code y cy maxL ret ∈ lw_tbl) (hd2 : y.cls ≠ "java/lang/invoke/MethodHandle" ∧ y.cls ≠ "java/lang/invoke/VarHandle" ∧ (parseMethodDescriptor y.desc).map (fun d => d.parameters.length) = some n) (hroom : h' + 1 ≤ h ∧ maxL ≤ 81) (hc : zcl[ci]? = some q) (hq : q.1 = y.cls) (hn : As.length = n) {f : Option (UInt64 × zW)} {c : UInt64 → zW → Option α}
    (hM : ∀ p, f = some p → zM E y cy maxL ret h' (.inr (.inl r) :: As) σ (some (.double p.1)) p.2) (hst8 : st.length ≤ 4) (k : ∀ v s, zG E K fin (c v s) s (pc + 3) lv (.inr (.inr (.inr (.inl v))) :: st)) : zG E K fin (zck σ (ci + 1) r (zb2 f c)) σ pc lv (As.reverse ++ .inr (.inl r) :: st) := by
  by_cases hκ : zK σ r = ci + 1
  · rw [show zck σ (ci + 1) r (zb2 f c) = zb2 f c from if_pos hκ]
    cases hf : f with
    | none => intro hX; exact z_none hX
    | some p => exact z_cv hk hd hl hin hsel hini hcd hd2 hroom hc hq hκ hn (hM p hf) hst8 rfl (k p.1 p.2)
  · rw [show zck σ (ci + 1) r (zb2 f c) = none from if_neg hκ]
    intro hX
    exact z_none hX
theorem z_qD (hk : zk E K own cc nL h) (hd : decode cc pc = .ok (.invokestatic index, 3)) (hl : Cond.methodLink own index y ∈ lw_tbl) (hin : Cond.static y ∈ lw_tbl) (hini : Cond.initialized y.cls ∈ lw_tbl) (hcd : Cond.code y cy maxL ret ∈ lw_tbl) (hd2 : y.cls ≠ "java/lang/invoke/MethodHandle" ∧ y.cls ≠ "java/lang/invoke/VarHandle" ∧ (parseMethodDescriptor y.desc).map (fun d => d.parameters.length) = some n) (hroom : h' + 1 ≤ h ∧ maxL ≤ 81) (hn : As.length = n) {f : Option (UInt64 × zW)} {c : UInt64 → zW → Option α}
    (hM : ∀ p, f = some p → zM E y cy maxL ret h' As σ (some (.double p.1)) p.2) (hst8 : st.length ≤ 4) (k : ∀ v s, zG E K fin (c v s) s (pc + 3) lv (.inr (.inr (.inr (.inl v))) :: st)) : zG E K fin (zb2 f c) σ pc lv (As.reverse ++ st) := by
  cases hf : f with
  | none => intro hX; exact z_none hX
  | some p => exact z_cs hk hd hl hin hini hcd hd2 hroom hn (hM p hf) hst8 rfl (k p.1 p.2)
theorem z_qnD (hk : zk E K own cc nL h) (hd : decode cc pc = .ok (.invokestatic index, 3)) (hl : Cond.methodLinkNest own index y host ∈ lw_tbl) (hin : Cond.static y ∈ lw_tbl) (hini : Cond.initialized y.cls ∈ lw_tbl) (hcd : Cond.code y cy maxL ret ∈ lw_tbl) (hd2 : y.cls ≠ "java/lang/invoke/MethodHandle" ∧ y.cls ≠ "java/lang/invoke/VarHandle" ∧ (parseMethodDescriptor y.desc).map (fun d => d.parameters.length) = some n) (hroom : h' + 1 ≤ h ∧ maxL ≤ 81) (hn : As.length = n) {f : Option (UInt64 × zW)} {c : UInt64 → zW → Option α}
    (hM : ∀ p, f = some p → zM E y cy maxL ret h' As σ (some (.double p.1)) p.2) (hst8 : st.length ≤ 4) (k : ∀ v s, zG E K fin (c v s) s (pc + 3) lv (.inr (.inr (.inr (.inl v))) :: st)) : zG E K fin (zb2 f c) σ pc lv (As.reverse ++ st) := by
  cases hf : f with
  | none => intro hX; exact z_none hX
  | some p => exact z_csn hk hd hl hin hini hcd hd2 hroom hn (hM p hf) hst8 rfl (k p.1 p.2)
theorem z_hD (hk : zk E K own cc nL h) (hd : decode cc pc = .ok (.invokestatic index, 3)) (hl : Cond.methodLink own index y ∈ lw_tbl) (hin : Cond.static y ∈ lw_tbl) (hini : Cond.initialized y.cls ∈ lw_tbl) (hcd : Cond.codeWith y cy maxL ret hh ∈ lw_tbl) (hd2 : y.cls ≠ "java/lang/invoke/MethodHandle" ∧ y.cls ≠ "java/lang/invoke/VarHandle" ∧ (parseMethodDescriptor y.desc).map (fun d => d.parameters.length) = some n) (hroom : h' + 1 ≤ h ∧ maxL ≤ 81) (hn : As.length = n) {f : Option (UInt64 × zW)} {c : UInt64 → zW → Option α}
    (hM : ∀ p, f = some p → zMX E y (Cond.codeWith y cy maxL ret hh) h' As σ (.inl (some (.double p.1)), p.2)) (hst8 : st.length ≤ 4) (k : ∀ v s, zG E K fin (c v s) s (pc + 3) lv (.inr (.inr (.inr (.inl v))) :: st)) : zG E K fin (zb2 f c) σ pc lv (As.reverse ++ st) := by
  cases hf : f with
  | none => intro hX; exact z_none hX
  | some p => exact z_csw hk hd hl hin hini hcd hd2 hroom hn (hM p hf) hst8 rfl (k p.1 p.2)
theorem z_iV (hk : zk E K own cc nL h) (hd : decode cc pc = .ok (.invokespecial index, 3)) (hl : Cond.methodLink own index y ∈ lw_tbl) (hin : Cond.instanceMethod y ∈ lw_tbl) (hini : Cond.initialized y.cls ∈ lw_tbl) (hcd : Cond.code y cy maxL none ∈ lw_tbl) (hy1 : y.name = "<init>") (hd2 : y.cls ≠ "java/lang/invoke/MethodHandle" ∧ y.cls ≠ "java/lang/invoke/VarHandle" ∧ (parseMethodDescriptor y.desc).map (fun d => d.parameters.length) = some n) (hroom : h' + 1 ≤ h ∧ maxL ≤ 81) (hn : As.length = n) {f : Option zW} {c : zW → Option α}
    (hM : ∀ s, f = some s → zM E y cy maxL none h' (.inr (.inl r) :: As) σ none s) (hst8 : st.length ≤ 4) (k : ∀ s, zG E K fin (c s) s (pc + 3) lv st) : zG E K fin (if r = 0 then none else zb f c) σ pc lv (As.reverse ++ .inr (.inl r) :: st) := by
  by_cases hr : r = 0
  · rw [if_pos hr]
    intro hX
    exact z_none hX
  · rw [if_neg hr]
    cases hf : f with
    | none => intro hX; exact z_none hX
    | some s => exact z_ci hk hd hl hin hini hcd hy1 hd2 hroom hr hn (hM s hf) hst8 (k s)
theorem z_inV (hk : zk E K own cc nL h) (hd : decode cc pc = .ok (.invokespecial index, 3)) (hl : Cond.methodLinkNest own index y host ∈ lw_tbl) (hin : Cond.instanceMethod y ∈ lw_tbl) (hini : Cond.initialized y.cls ∈ lw_tbl) (hcd : Cond.code y cy maxL none ∈ lw_tbl) (hy1 : y.name = "<init>") (hd2 : y.cls ≠ "java/lang/invoke/MethodHandle" ∧ y.cls ≠ "java/lang/invoke/VarHandle" ∧ (parseMethodDescriptor y.desc).map (fun d => d.parameters.length) = some n) (hroom : h' + 1 ≤ h ∧ maxL ≤ 81) (hn : As.length = n) {f : Option zW} {c : zW → Option α}
    (hM : ∀ s, f = some s → zM E y cy maxL none h' (.inr (.inl r) :: As) σ none s) (hst8 : st.length ≤ 4) (k : ∀ s, zG E K fin (c s) s (pc + 3) lv st) : zG E K fin (if r = 0 then none else zb f c) σ pc lv (As.reverse ++ .inr (.inl r) :: st) := by
  by_cases hr : r = 0
  · rw [if_pos hr]
    intro hX
    exact z_none hX
  · rw [if_neg hr]
    cases hf : f with
    | none => intro hX; exact z_none hX
    | some s => exact z_cin hk hd hl hin hini hcd hy1 hd2 hroom hr hn (hM s hf) hst8 (k s)
theorem z_vT (hk : zk E K own cc nL h) (hd : decode cc pc = .ok (.invokevirtual index, 3)) (hl : Cond.methodLink own index y ∈ lw_tbl) (hin : Cond.instanceMethod y ∈ lw_tbl) (hsel : Cond.selects y.cls y y ∈ lw_tbl) (hini : Cond.initialized y.cls ∈ lw_tbl) (hcd : Cond.code y cy maxL ret ∈ lw_tbl) (hd2 : y.cls ≠ "java/lang/invoke/MethodHandle" ∧ y.cls ≠ "java/lang/invoke/VarHandle" ∧ (parseMethodDescriptor y.desc).map (fun d => d.parameters.length) = some n) (hroom : h' + 1 ≤ h ∧ maxL ≤ 81) (hc : zcl[ci]? = some q) (hq : q.1 = y.cls) (hn : As.length = n) {f : Option ((Int32 ⊕ Nat) × zW)} {c : Int32 → zW → Option α} {t : Nat → zW → Option α}
    (hM : ∀ p, f = some p → zMX E y (Cond.code y cy maxL ret) h' (.inr (.inl r) :: As) σ (zfT p)) (hst8 : st.length ≤ 4) (k : ∀ v s, zG E K fin (c v s) s (pc + 3) lv (.inl v :: st)) (kt : ∀ kx s, zT E K fin (t kx s) kx s pc lv) : zG E K fin (zck σ (ci + 1) r (zbx f c t)) σ pc lv (As.reverse ++ .inr (.inl r) :: st) := by
  by_cases hκ : zK σ r = ci + 1
  · rw [show zck σ (ci + 1) r (zbx f c t) = zbx f c t from if_pos hκ]
    cases hf : f with
    | none => intro hX; exact z_none hX
    | some p =>
      refine z_cvx hk hd hl hin hsel hini hcd hd2 hroom hc hq hκ hn (hM p hf) hst8 (fun rv hrv => ?_) (fun kx hkx => ?_)
      · obtain ⟨v | k9, s⟩ := p
        · cases hrv
          exact ⟨_, rfl, k v s⟩
        · cases hrv
      · obtain ⟨v | k9, s⟩ := p
        · cases hkx
        · cases hkx
          exact kt _ s
  · rw [show zck σ (ci + 1) r (zbx f c t) = none from if_neg hκ]
    intro hX
    exact z_none hX
theorem z_qT (hk : zk E K own cc nL h) (hd : decode cc pc = .ok (.invokestatic index, 3)) (hl : Cond.methodLink own index y ∈ lw_tbl) (hin : Cond.static y ∈ lw_tbl) (hini : Cond.initialized y.cls ∈ lw_tbl) (hcd : Cond.code y cy maxL ret ∈ lw_tbl) (hd2 : y.cls ≠ "java/lang/invoke/MethodHandle" ∧ y.cls ≠ "java/lang/invoke/VarHandle" ∧ (parseMethodDescriptor y.desc).map (fun d => d.parameters.length) = some n) (hroom : h' + 1 ≤ h ∧ maxL ≤ 81) (hn : As.length = n) {f : Option ((Int32 ⊕ Nat) × zW)} {c : Int32 → zW → Option α} {t : Nat → zW → Option α}
    (hM : ∀ p, f = some p → zMX E y (Cond.code y cy maxL ret) h' As σ (zfT p)) (hst8 : st.length ≤ 4) (k : ∀ v s, zG E K fin (c v s) s (pc + 3) lv (.inl v :: st)) (kt : ∀ kx s, zT E K fin (t kx s) kx s pc lv) : zG E K fin (zbx f c t) σ pc lv (As.reverse ++ st) := by
  cases hf : f with
  | none => intro hX; exact z_none hX
  | some p =>
    refine z_csx hk hd hl hin hini hcd hd2 hroom hn (hM p hf) hst8 (fun rv hrv => ?_) (fun kx hkx => ?_)
    · obtain ⟨v | k9, s⟩ := p
      · cases hrv
        exact ⟨_, rfl, k v s⟩
      · cases hrv
    · obtain ⟨v | k9, s⟩ := p
      · cases hkx
      · cases hkx
        exact kt _ s
theorem z_vU (hk : zk E K own cc nL h) (hd : decode cc pc = .ok (.invokevirtual index, 3)) (hl : Cond.methodLink own index y ∈ lw_tbl) (hin : Cond.instanceMethod y ∈ lw_tbl) (hsel : Cond.selects y.cls y y ∈ lw_tbl) (hini : Cond.initialized y.cls ∈ lw_tbl) (hcd : Cond.code y cy maxL ret ∈ lw_tbl) (hd2 : y.cls ≠ "java/lang/invoke/MethodHandle" ∧ y.cls ≠ "java/lang/invoke/VarHandle" ∧ (parseMethodDescriptor y.desc).map (fun d => d.parameters.length) = some n) (hroom : h' + 1 ≤ h ∧ maxL ≤ 81) (hc : zcl[ci]? = some q) (hq : q.1 = y.cls) (hn : As.length = n) {f : Option ((Unit ⊕ Nat) × zW)} {c : Unit → zW → Option α} {t : Nat → zW → Option α}
    (hM : ∀ p, f = some p → zMX E y (Cond.code y cy maxL ret) h' (.inr (.inl r) :: As) σ (zfU p)) (hst8 : st.length ≤ 4) (k : ∀ v s, zG E K fin (c v s) s (pc + 3) lv (st)) (kt : ∀ kx s, zT E K fin (t kx s) kx s pc lv) : zG E K fin (zck σ (ci + 1) r (zbx f c t)) σ pc lv (As.reverse ++ .inr (.inl r) :: st) := by
  by_cases hκ : zK σ r = ci + 1
  · rw [show zck σ (ci + 1) r (zbx f c t) = zbx f c t from if_pos hκ]
    cases hf : f with
    | none => intro hX; exact z_none hX
    | some p =>
      refine z_cvx hk hd hl hin hsel hini hcd hd2 hroom hc hq hκ hn (hM p hf) hst8 (fun rv hrv => ?_) (fun kx hkx => ?_)
      · obtain ⟨v | k9, s⟩ := p
        · cases hrv
          exact ⟨_, rfl, k v s⟩
        · cases hrv
      · obtain ⟨v | k9, s⟩ := p
        · cases hkx
        · cases hkx
          exact kt _ s
  · rw [show zck σ (ci + 1) r (zbx f c t) = none from if_neg hκ]
    intro hX
    exact z_none hX
theorem z_qU (hk : zk E K own cc nL h) (hd : decode cc pc = .ok (.invokestatic index, 3)) (hl : Cond.methodLink own index y ∈ lw_tbl) (hin : Cond.static y ∈ lw_tbl) (hini : Cond.initialized y.cls ∈ lw_tbl) (hcd : Cond.code y cy maxL ret ∈ lw_tbl) (hd2 : y.cls ≠ "java/lang/invoke/MethodHandle" ∧ y.cls ≠ "java/lang/invoke/VarHandle" ∧ (parseMethodDescriptor y.desc).map (fun d => d.parameters.length) = some n) (hroom : h' + 1 ≤ h ∧ maxL ≤ 81) (hn : As.length = n) {f : Option ((Unit ⊕ Nat) × zW)} {c : Unit → zW → Option α} {t : Nat → zW → Option α}
    (hM : ∀ p, f = some p → zMX E y (Cond.code y cy maxL ret) h' As σ (zfU p)) (hst8 : st.length ≤ 4) (k : ∀ v s, zG E K fin (c v s) s (pc + 3) lv (st)) (kt : ∀ kx s, zT E K fin (t kx s) kx s pc lv) : zG E K fin (zbx f c t) σ pc lv (As.reverse ++ st) := by
  cases hf : f with
  | none => intro hX; exact z_none hX
  | some p =>
    refine z_csx hk hd hl hin hini hcd hd2 hroom hn (hM p hf) hst8 (fun rv hrv => ?_) (fun kx hkx => ?_)
    · obtain ⟨v | k9, s⟩ := p
      · cases hrv
        exact ⟨_, rfl, k v s⟩
      · cases hrv
    · obtain ⟨v | k9, s⟩ := p
      · cases hkx
      · cases hkx
        exact kt _ s
theorem z_vE (hk : zk E K own cc nL h) (hd : decode cc pc = .ok (.invokevirtual index, 3)) (hl : Cond.methodLink own index y ∈ lw_tbl) (hin : Cond.instanceMethod y ∈ lw_tbl) (hsel : Cond.selects y.cls y y ∈ lw_tbl) (hini : Cond.initialized y.cls ∈ lw_tbl) (hcd : Cond.code y cy maxL ret ∈ lw_tbl) (hd2 : y.cls ≠ "java/lang/invoke/MethodHandle" ∧ y.cls ≠ "java/lang/invoke/VarHandle" ∧ (parseMethodDescriptor y.desc).map (fun d => d.parameters.length) = some n) (hroom : h' + 1 ≤ h ∧ maxL ≤ 81) (hc : zcl[ci]? = some q) (hq : q.1 = y.cls) (hn : As.length = n) {f : Option ((UInt64 ⊕ Nat) × zW)} {c : UInt64 → zW → Option α} {t : Nat → zW → Option α}
    (hM : ∀ p, f = some p → zMX E y (Cond.code y cy maxL ret) h' (.inr (.inl r) :: As) σ (zfE p)) (hst8 : st.length ≤ 4) (k : ∀ v s, zG E K fin (c v s) s (pc + 3) lv (.inr (.inr (.inr (.inl v))) :: st)) (kt : ∀ kx s, zT E K fin (t kx s) kx s pc lv) : zG E K fin (zck σ (ci + 1) r (zbx f c t)) σ pc lv (As.reverse ++ .inr (.inl r) :: st) := by
  by_cases hκ : zK σ r = ci + 1
  · rw [show zck σ (ci + 1) r (zbx f c t) = zbx f c t from if_pos hκ]
    cases hf : f with
    | none => intro hX; exact z_none hX
    | some p =>
      refine z_cvx hk hd hl hin hsel hini hcd hd2 hroom hc hq hκ hn (hM p hf) hst8 (fun rv hrv => ?_) (fun kx hkx => ?_)
      · obtain ⟨v | k9, s⟩ := p
        · cases hrv
          exact ⟨_, rfl, k v s⟩
        · cases hrv
      · obtain ⟨v | k9, s⟩ := p
        · cases hkx
        · cases hkx
          exact kt _ s
  · rw [show zck σ (ci + 1) r (zbx f c t) = none from if_neg hκ]
    intro hX
    exact z_none hX
theorem z_qE (hk : zk E K own cc nL h) (hd : decode cc pc = .ok (.invokestatic index, 3)) (hl : Cond.methodLink own index y ∈ lw_tbl) (hin : Cond.static y ∈ lw_tbl) (hini : Cond.initialized y.cls ∈ lw_tbl) (hcd : Cond.code y cy maxL ret ∈ lw_tbl) (hd2 : y.cls ≠ "java/lang/invoke/MethodHandle" ∧ y.cls ≠ "java/lang/invoke/VarHandle" ∧ (parseMethodDescriptor y.desc).map (fun d => d.parameters.length) = some n) (hroom : h' + 1 ≤ h ∧ maxL ≤ 81) (hn : As.length = n) {f : Option ((UInt64 ⊕ Nat) × zW)} {c : UInt64 → zW → Option α} {t : Nat → zW → Option α}
    (hM : ∀ p, f = some p → zMX E y (Cond.code y cy maxL ret) h' As σ (zfE p)) (hst8 : st.length ≤ 4) (k : ∀ v s, zG E K fin (c v s) s (pc + 3) lv (.inr (.inr (.inr (.inl v))) :: st)) (kt : ∀ kx s, zT E K fin (t kx s) kx s pc lv) : zG E K fin (zbx f c t) σ pc lv (As.reverse ++ st) := by
  cases hf : f with
  | none => intro hX; exact z_none hX
  | some p =>
    refine z_csx hk hd hl hin hini hcd hd2 hroom hn (hM p hf) hst8 (fun rv hrv => ?_) (fun kx hkx => ?_)
    · obtain ⟨v | k9, s⟩ := p
      · cases hrv
        exact ⟨_, rfl, k v s⟩
      · cases hrv
    · obtain ⟨v | k9, s⟩ := p
      · cases hkx
      · cases hkx
        exact kt _ s
end ZWR
end
