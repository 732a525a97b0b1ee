/-! MORE ROWS -/
theorem ws_0 : Cond.selects "java/lang/Throwable" ({ cls := "java/lang/Throwable", name := "fillInStackTrace", desc := "(I)Ljava/lang/Throwable;" } : MethodName) ({ cls := "java/lang/Throwable", name := "fillInStackTrace", desc := "(I)Ljava/lang/Throwable;" } : MethodName) ∈ lw_tbl := List.mem_append_left _ (znw (k2_sels lw_privs) 0 _ rfl)
theorem ws_1 : Cond.selects "LotSales" ({ cls := "LotSales", name := "needRoomForLots", desc := "(I)V" } : MethodName) ({ cls := "LotSales", name := "needRoomForLots", desc := "(I)V" } : MethodName) ∈ lw_tbl := List.mem_append_left _ (znw (k2_sels lw_privs) 1 _ rfl)
theorem ws_2 : Cond.selects "LotSales" ({ cls := "LotSales", name := "needLot", desc := "(I)V" } : MethodName) ({ cls := "LotSales", name := "needLot", desc := "(I)V" } : MethodName) ∈ lw_tbl := List.mem_append_left _ (znw (k2_sels lw_privs) 2 _ rfl)
theorem ws_3 : Cond.selects "LotSales" ({ cls := "LotSales", name := "tryOrder", desc := "(III)I" } : MethodName) ({ cls := "LotSales", name := "tryOrder", desc := "(III)I" } : MethodName) ∈ lw_tbl := List.mem_append_left _ (znw (k2_sels lw_privs) 3 _ rfl)
theorem ws_4 : Cond.selects "LotSales" ({ cls := "LotSales", name := "orderReason", desc := "(LLotSales$Lot;II)I" } : MethodName) ({ cls := "LotSales", name := "orderReason", desc := "(LLotSales$Lot;II)I" } : MethodName) ∈ lw_tbl := List.mem_append_left _ (znw (k2_sels lw_privs) 4 _ rfl)
theorem ws_5 : Cond.selects "LotSales" ({ cls := "LotSales", name := "tryCancel", desc := "(II)I" } : MethodName) ({ cls := "LotSales", name := "tryCancel", desc := "(II)I" } : MethodName) ∈ lw_tbl := List.mem_append_left _ (znw (k2_sels lw_privs) 5 _ rfl)
theorem ws_6 : Cond.selects "LotSales" ({ cls := "LotSales", name := "tryOpen", desc := "(I)I" } : MethodName) ({ cls := "LotSales", name := "tryOpen", desc := "(I)I" } : MethodName) ∈ lw_tbl := List.mem_append_left _ (znw (k2_sels lw_privs) 6 _ rfl)
theorem ws_7 : Cond.selects "LotSales" ({ cls := "LotSales", name := "tryBid", desc := "(III)I" } : MethodName) ({ cls := "LotSales", name := "tryBid", desc := "(III)I" } : MethodName) ∈ lw_tbl := List.mem_append_left _ (znw (k2_sels lw_privs) 7 _ rfl)
theorem ws_8 : Cond.selects "LotSales" ({ cls := "LotSales", name := "bidReason", desc := "(LLotSales$Lot;II)I" } : MethodName) ({ cls := "LotSales", name := "bidReason", desc := "(LLotSales$Lot;II)I" } : MethodName) ∈ lw_tbl := List.mem_append_left _ (znw (k2_sels lw_privs) 8 _ rfl)
theorem ws_9 : Cond.selects "LotSales" ({ cls := "LotSales", name := "exposureOf", desc := "(I)I" } : MethodName) ({ cls := "LotSales", name := "exposureOf", desc := "(I)I" } : MethodName) ∈ lw_tbl := List.mem_append_left _ (znw (k2_sels lw_privs) 9 _ rfl)
theorem ws_10 : Cond.selects "LotSales" ({ cls := "LotSales", name := "tryClose", desc := "(I)I" } : MethodName) ({ cls := "LotSales", name := "tryClose", desc := "(I)I" } : MethodName) ∈ lw_tbl := List.mem_append_left _ (znw (k2_sels lw_privs) 10 _ rfl)
theorem ws_11 : Cond.selects "LotSales" ({ cls := "LotSales", name := "buyIn", desc := "(ILLotSales$Lot;)V" } : MethodName) ({ cls := "LotSales", name := "buyIn", desc := "(ILLotSales$Lot;)V" } : MethodName) ∈ lw_tbl := List.mem_append_left _ (znw (k2_sels lw_privs) 11 _ rfl)
theorem ws_12 : Cond.selects "LotSales" ({ cls := "LotSales", name := "tryWithdraw", desc := "(I)I" } : MethodName) ({ cls := "LotSales", name := "tryWithdraw", desc := "(I)I" } : MethodName) ∈ lw_tbl := List.mem_append_left _ (znw (k2_sels lw_privs) 12 _ rfl)
theorem ws_13 : Cond.selects "LotSales" ({ cls := "LotSales", name := "leadsOf", desc := "(I)I" } : MethodName) ({ cls := "LotSales", name := "leadsOf", desc := "(I)I" } : MethodName) ∈ lw_tbl := List.mem_append_left _ (znw (k2_sels lw_privs) 13 _ rfl)
theorem ws_14 : Cond.selects "LotSales" ({ cls := "LotSales", name := "carryOut", desc := "()I" } : MethodName) ({ cls := "LotSales", name := "carryOut", desc := "()I" } : MethodName) ∈ lw_tbl := List.mem_append_left _ (znw (k2_sels lw_privs) 14 _ rfl)
theorem ws_15 : Cond.selects "LotSalesModel" ({ cls := "LotSalesModel", name := "keep", desc := "()V" } : MethodName) ({ cls := "LotSalesModel", name := "keep", desc := "()V" } : MethodName) ∈ lw_tbl := List.mem_append_left _ (znw (k2_sels lw_privs) 15 _ rfl)
theorem ws_16 : Cond.selects "LotSalesModel" ({ cls := "LotSalesModel", name := "makeLot", desc := "(III)I" } : MethodName) ({ cls := "LotSalesModel", name := "makeLot", desc := "(III)I" } : MethodName) ∈ lw_tbl := List.mem_append_left _ (znw (k2_sels lw_privs) 16 _ rfl)
theorem ws_17 : Cond.selects "LotSalesModel" ({ cls := "LotSalesModel", name := "set", desc := "(III)V" } : MethodName) ({ cls := "LotSalesModel", name := "set", desc := "(III)V" } : MethodName) ∈ lw_tbl := List.mem_append_left _ (znw (k2_sels lw_privs) 17 _ rfl)
theorem ws_18 : Cond.selects "LotSalesModel" ({ cls := "LotSalesModel", name := "putOrder", desc := "(IIII)V" } : MethodName) ({ cls := "LotSalesModel", name := "putOrder", desc := "(IIII)V" } : MethodName) ∈ lw_tbl := List.mem_append_left _ (znw (k2_sels lw_privs) 18 _ rfl)
theorem ws_19 : Cond.selects "LotSalesModel" ({ cls := "LotSalesModel", name := "putBid", desc := "(IIII)V" } : MethodName) ({ cls := "LotSalesModel", name := "putBid", desc := "(IIII)V" } : MethodName) ∈ lw_tbl := List.mem_append_left _ (znw (k2_sels lw_privs) 19 _ rfl)
theorem ws_20 : Cond.selects "LotSalesModel" ({ cls := "LotSalesModel", name := "isLot", desc := "(I)Z" } : MethodName) ({ cls := "LotSalesModel", name := "isLot", desc := "(I)Z" } : MethodName) ∈ lw_tbl := List.mem_append_left _ (znw (k2_sels lw_privs) 20 _ rfl)
theorem ws_21 : Cond.selects "LotSalesModel" ({ cls := "LotSalesModel", name := "at", desc := "(II)I" } : MethodName) ({ cls := "LotSalesModel", name := "at", desc := "(II)I" } : MethodName) ∈ lw_tbl := List.mem_append_left _ (znw (k2_sels lw_privs) 21 _ rfl)
theorem ws_22 : Cond.selects "LotSalesModel" ({ cls := "LotSalesModel", name := "fail", desc := "(I)I" } : MethodName) ({ cls := "LotSalesModel", name := "fail", desc := "(I)I" } : MethodName) ∈ lw_tbl := List.mem_append_left _ (znw (k2_sels lw_privs) 22 _ rfl)
theorem ws_23 : Cond.selects "LotSalesModel" ({ cls := "LotSalesModel", name := "hasOpenLot", desc := "()Z" } : MethodName) ({ cls := "LotSalesModel", name := "hasOpenLot", desc := "()Z" } : MethodName) ∈ lw_tbl := List.mem_append_left _ (znw (k2_sels lw_privs) 23 _ rfl)
theorem ws_24 : Cond.selects "LotSalesModel" ({ cls := "LotSalesModel", name := "stepBelow", desc := "(I)I" } : MethodName) ({ cls := "LotSalesModel", name := "stepBelow", desc := "(I)I" } : MethodName) ∈ lw_tbl := List.mem_append_left _ (znw (k2_sels lw_privs) 24 _ rfl)
theorem ws_25 : Cond.selects "LotSalesModel" ({ cls := "LotSalesModel", name := "rowOf", desc := "(I)I" } : MethodName) ({ cls := "LotSalesModel", name := "rowOf", desc := "(I)I" } : MethodName) ∈ lw_tbl := List.mem_append_left _ (znw (k2_sels lw_privs) 25 _ rfl)
theorem ws_26 : Cond.selects "LotSalesModel" ({ cls := "LotSalesModel", name := "stepAbove", desc := "(I)I" } : MethodName) ({ cls := "LotSalesModel", name := "stepAbove", desc := "(I)I" } : MethodName) ∈ lw_tbl := List.mem_append_left _ (znw (k2_sels lw_privs) 26 _ rfl)
theorem ws_27 : Cond.selects "LotSalesModel" ({ cls := "LotSalesModel", name := "orderRefusal", desc := "(III)I" } : MethodName) ({ cls := "LotSalesModel", name := "orderRefusal", desc := "(III)I" } : MethodName) ∈ lw_tbl := List.mem_append_left _ (znw (k2_sels lw_privs) 27 _ rfl)
theorem ws_28 : Cond.selects "LotSalesModel" ({ cls := "LotSalesModel", name := "allOrders", desc := "()I" } : MethodName) ({ cls := "LotSalesModel", name := "allOrders", desc := "()I" } : MethodName) ∈ lw_tbl := List.mem_append_left _ (znw (k2_sels lw_privs) 28 _ rfl)
theorem ws_29 : Cond.selects "LotSalesModel" ({ cls := "LotSalesModel", name := "ordersOf", desc := "(I)I" } : MethodName) ({ cls := "LotSalesModel", name := "ordersOf", desc := "(I)I" } : MethodName) ∈ lw_tbl := List.mem_append_left _ (znw (k2_sels lw_privs) 29 _ rfl)
theorem ws_30 : Cond.selects "LotSalesModel" ({ cls := "LotSalesModel", name := "orderOf", desc := "(II)I" } : MethodName) ({ cls := "LotSalesModel", name := "orderOf", desc := "(II)I" } : MethodName) ∈ lw_tbl := List.mem_append_left _ (znw (k2_sels lw_privs) 30 _ rfl)
theorem ws_31 : Cond.selects "LotSalesModel" ({ cls := "LotSalesModel", name := "nextNumber", desc := "()I" } : MethodName) ({ cls := "LotSalesModel", name := "nextNumber", desc := "()I" } : MethodName) ∈ lw_tbl := List.mem_append_left _ (znw (k2_sels lw_privs) 31 _ rfl)
theorem ws_32 : Cond.selects "LotSalesModel" ({ cls := "LotSalesModel", name := "note", desc := "(IIII)V" } : MethodName) ({ cls := "LotSalesModel", name := "note", desc := "(IIII)V" } : MethodName) ∈ lw_tbl := List.mem_append_left _ (znw (k2_sels lw_privs) 32 _ rfl)
theorem ws_33 : Cond.selects "LotSalesModel" ({ cls := "LotSalesModel", name := "stand", desc := "(I)V" } : MethodName) ({ cls := "LotSalesModel", name := "stand", desc := "(I)V" } : MethodName) ∈ lw_tbl := List.mem_append_left _ (znw (k2_sels lw_privs) 33 _ rfl)
theorem ws_34 : Cond.selects "LotSalesModel" ({ cls := "LotSalesModel", name := "houseLimit", desc := "(I)I" } : MethodName) ({ cls := "LotSalesModel", name := "houseLimit", desc := "(I)I" } : MethodName) ∈ lw_tbl := List.mem_append_left _ (znw (k2_sels lw_privs) 34 _ rfl)
theorem ws_35 : Cond.selects "LotSalesModel" ({ cls := "LotSalesModel", name := "ranked", desc := "(II)I" } : MethodName) ({ cls := "LotSalesModel", name := "ranked", desc := "(II)I" } : MethodName) ∈ lw_tbl := List.mem_append_left _ (znw (k2_sels lw_privs) 35 _ rfl)
theorem ws_36 : Cond.selects "LotSalesModel" ({ cls := "LotSalesModel", name := "limitOf", desc := "(II)I" } : MethodName) ({ cls := "LotSalesModel", name := "limitOf", desc := "(II)I" } : MethodName) ∈ lw_tbl := List.mem_append_left _ (znw (k2_sels lw_privs) 36 _ rfl)
theorem ws_37 : Cond.selects "LotSalesModel" ({ cls := "LotSalesModel", name := "isAhead", desc := "(III)Z" } : MethodName) ({ cls := "LotSalesModel", name := "isAhead", desc := "(III)Z" } : MethodName) ∈ lw_tbl := List.mem_append_left _ (znw (k2_sels lw_privs) 37 _ rfl)
theorem ws_38 : Cond.selects "LotSalesModel" ({ cls := "LotSalesModel", name := "timeOf", desc := "(II)I" } : MethodName) ({ cls := "LotSalesModel", name := "timeOf", desc := "(II)I" } : MethodName) ∈ lw_tbl := List.mem_append_left _ (znw (k2_sels lw_privs) 38 _ rfl)
theorem ws_39 : Cond.selects "LotSalesModel" ({ cls := "LotSalesModel", name := "bidRefusal", desc := "(III)I" } : MethodName) ({ cls := "LotSalesModel", name := "bidRefusal", desc := "(III)I" } : MethodName) ∈ lw_tbl := List.mem_append_left _ (znw (k2_sels lw_privs) 39 _ rfl)
theorem ws_40 : Cond.selects "LotSalesModel" ({ cls := "LotSalesModel", name := "isLeading", desc := "(II)Z" } : MethodName) ({ cls := "LotSalesModel", name := "isLeading", desc := "(II)Z" } : MethodName) ∈ lw_tbl := List.mem_append_left _ (znw (k2_sels lw_privs) 40 _ rfl)
theorem ws_41 : Cond.selects "LotSalesModel" ({ cls := "LotSalesModel", name := "isStep", desc := "(I)Z" } : MethodName) ({ cls := "LotSalesModel", name := "isStep", desc := "(I)Z" } : MethodName) ∈ lw_tbl := List.mem_append_left _ (znw (k2_sels lw_privs) 41 _ rfl)
theorem ws_42 : Cond.selects "LotSalesModel" ({ cls := "LotSalesModel", name := "exposureOf", desc := "(I)I" } : MethodName) ({ cls := "LotSalesModel", name := "exposureOf", desc := "(I)I" } : MethodName) ∈ lw_tbl := List.mem_append_left _ (znw (k2_sels lw_privs) 42 _ rfl)
theorem ws_43 : Cond.selects "LotSalesModel" ({ cls := "LotSalesModel", name := "boughtBy", desc := "(II)I" } : MethodName) ({ cls := "LotSalesModel", name := "boughtBy", desc := "(II)I" } : MethodName) ∈ lw_tbl := List.mem_append_left _ (znw (k2_sels lw_privs) 43 _ rfl)
theorem ws_44 : Cond.selects "LotSalesModel" ({ cls := "LotSalesModel", name := "isMet", desc := "(I)Z" } : MethodName) ({ cls := "LotSalesModel", name := "isMet", desc := "(I)Z" } : MethodName) ∈ lw_tbl := List.mem_append_left _ (znw (k2_sels lw_privs) 44 _ rfl)
theorem ws_45 : Cond.selects "LotSalesModel" ({ cls := "LotSalesModel", name := "countingLimits", desc := "(I)I" } : MethodName) ({ cls := "LotSalesModel", name := "countingLimits", desc := "(I)I" } : MethodName) ∈ lw_tbl := List.mem_append_left _ (znw (k2_sels lw_privs) 45 _ rfl)
theorem ws_46 : Cond.selects "LotSalesModel" ({ cls := "LotSalesModel", name := "removeOrders", desc := "(I)I" } : MethodName) ({ cls := "LotSalesModel", name := "removeOrders", desc := "(I)I" } : MethodName) ∈ lw_tbl := List.mem_append_left _ (znw (k2_sels lw_privs) 46 _ rfl)
theorem ws_47 : Cond.selects "LotSalesModel" ({ cls := "LotSalesModel", name := "splitOrders", desc := "(II)I" } : MethodName) ({ cls := "LotSalesModel", name := "splitOrders", desc := "(II)I" } : MethodName) ∈ lw_tbl := List.mem_append_left _ (znw (k2_sels lw_privs) 47 _ rfl)
theorem ws_48 : Cond.selects "LotSalesModel" ({ cls := "LotSalesModel", name := "leads", desc := "(I)I" } : MethodName) ({ cls := "LotSalesModel", name := "leads", desc := "(I)I" } : MethodName) ∈ lw_tbl := List.mem_append_left _ (znw (k2_sels lw_privs) 48 _ rfl)
theorem ws_49 : Cond.selects "LotSalesModel" ({ cls := "LotSalesModel", name := "gets", desc := "(I)I" } : MethodName) ({ cls := "LotSalesModel", name := "gets", desc := "(I)I" } : MethodName) ∈ lw_tbl := List.mem_append_left _ (znw (k2_sels lw_privs) 49 _ rfl)
theorem ws_50 : Cond.selects "LotSalesModel" ({ cls := "LotSalesModel", name := "soldBy", desc := "(II)I" } : MethodName) ({ cls := "LotSalesModel", name := "soldBy", desc := "(II)I" } : MethodName) ∈ lw_tbl := List.mem_append_left _ (znw (k2_sels lw_privs) 50 _ rfl)
theorem ws_51 : Cond.selects "LotSalesModel" ({ cls := "LotSalesModel", name := "eventsOf", desc := "(I)I" } : MethodName) ({ cls := "LotSalesModel", name := "eventsOf", desc := "(I)I" } : MethodName) ∈ lw_tbl := List.mem_append_left _ (znw (k2_sels lw_privs) 51 _ rfl)
theorem ws_52 : Cond.selects "LotSalesModel" ({ cls := "LotSalesModel", name := "sumOf", desc := "(III)I" } : MethodName) ({ cls := "LotSalesModel", name := "sumOf", desc := "(III)I" } : MethodName) ∈ lw_tbl := List.mem_append_left _ (znw (k2_sels lw_privs) 52 _ rfl)
theorem ws_53 : Cond.selects "LotSalesModel" ({ cls := "LotSalesModel", name := "command", desc := "()V" } : MethodName) ({ cls := "LotSalesModel", name := "command", desc := "()V" } : MethodName) ∈ lw_tbl := List.mem_append_left _ (znw (k2_sels lw_privs) 53 _ rfl)
theorem ws_54 : Cond.selects "LotSalesModel" ({ cls := "LotSalesModel", name := "sign", desc := "()I" } : MethodName) ({ cls := "LotSalesModel", name := "sign", desc := "()I" } : MethodName) ∈ lw_tbl := List.mem_append_left _ (znw (k2_sels lw_privs) 54 _ rfl)
theorem ws_55 : Cond.selects "LotSalesModel" ({ cls := "LotSalesModel", name := "faultHere", desc := "()V" } : MethodName) ({ cls := "LotSalesModel", name := "faultHere", desc := "()V" } : MethodName) ∈ lw_tbl := List.mem_append_left _ (znw (k2_sels lw_privs) 55 _ rfl)
theorem ws_56 : Cond.selects "LotSalesModel" ({ cls := "LotSalesModel", name := "goes", desc := "(C)Z" } : MethodName) ({ cls := "LotSalesModel", name := "goes", desc := "(C)Z" } : MethodName) ∈ lw_tbl := List.mem_append_left _ (znw (k2_sels lw_privs) 56 _ rfl)
theorem ws_57 : Cond.selects "LotSalesModel" ({ cls := "LotSalesModel", name := "number", desc := "()I" } : MethodName) ({ cls := "LotSalesModel", name := "number", desc := "()I" } : MethodName) ∈ lw_tbl := List.mem_append_left _ (znw (k2_sels lw_privs) 57 _ rfl)
theorem ws_58 : Cond.selects "LotSalesModel" ({ cls := "LotSalesModel", name := "carryOut", desc := "(I)V" } : MethodName) ({ cls := "LotSalesModel", name := "carryOut", desc := "(I)V" } : MethodName) ∈ lw_tbl := List.mem_append_left _ (znw (k2_sels lw_privs) 58 _ rfl)
section ZO0
variable {E : zE} {K : zC} {own : String} {cc : ByteArray} {nL h : Nat} {α : Type} {fin : α → zO} {X A B : Option α} {σ σ1 : zW} {pc : Nat} {lv : zLV} {st : List zV} {H H1 : Heap}
theorem z_oinit0 (hk : zk E K own cc nL h) {index r : Nat} (hd : decode cc pc = .ok (.invokespecial index, 3)) (hl : Cond.methodLink own index Lib.objectInit ∈ lw_tbl) (hi : Cond.instanceMethod Lib.objectInit ∈ lw_tbl) (hcd : Cond.code Lib.objectInit ⟨#[0xb1]⟩ 1 none ∈ lw_tbl) (hh1 : 1 ≤ h) (hst : st.length ≤ 8)
    (k : zG E K fin X σ (pc + 3) lv st) : zG E K fin (if r = 0 then none else X) σ pc lv (.inr (.inl r) :: st) := by
  by_cases hr : r = 0
  · rw [if_pos hr]
    intro hX
    exact z_none hX
  · rw [if_neg hr]
    exact z_oinit hk hd hl hi hcd hh1 hr (by rw [List.length_map]; exact hst) k
theorem zc_char {v : Int32} (h : 0 ≤ v ∧ v ≤ 65535) : narrow .char (.int v) = .int v ∧ fits .char (.int v) = true := by
  have h0 : (0 : Int) ≤ v.toInt := by have := Int32.le_iff_toInt_le.mp h.1; simpa using this
  have h1 : v.toInt ≤ 65535 := by have := Int32.le_iff_toInt_le.mp h.2; simpa using this
  refine ⟨congrArg Value.int ?_, ?_⟩
  · apply Int32.toBitVec_inj.mp
    apply BitVec.eq_of_toNat_eq
    have h2 : v.toInt = v.toBitVec.toInt := rfl
    rw [h2, BitVec.toInt_eq_toNat_cond] at h0 h1
    have h3 := v.toBitVec.isLt
    show v.toUInt32.toUInt16.toUInt32.toBitVec.toNat = v.toBitVec.toNat
    rw [UInt32.toNat_toBitVec, UInt16.toNat_toUInt32, UInt32.toNat_toUInt16]
    show v.toBitVec.toNat % 2 ^ 16 = v.toBitVec.toNat
    split at h0 <;> omega
  · show (decide (0 ≤ v) && decide (v ≤ 65535)) = true
    simp [h.1, h.2]
theorem z_pC (hk : zk E K own cc nL h) {ci index : Nat} {q : vw_C} (k : Nat) {r : Nat} {v : Int32} {c : zW → Option α} (hd : decode cc pc = .ok (.putfield index, 3)) (hc : zcl[ci]? = some q) (hb : (zft (ci + 1))[k]? = some false)
    (hl : (Cond.fieldLink own index (q.2.1 k).1 (q.2.1 k).2.1 (q.2.1 k).2.2.1) ∈ lw_tbl) (hfin : (q.2.1 k).2.2.2 = false) (hty : ztyp ci k = .char) (kk : ∀ σ1, zG E K fin (c σ1) σ1 (pc + 3) lv st) : zG E K fin (if 0 ≤ v ∧ v ≤ 65535 then (zpI σ (ci + 1) r k v c) else none) σ pc lv (.inl v :: .inr (.inl r) :: st) := by
  by_cases hv : 0 ≤ v ∧ v ≤ 65535
  · rw [if_pos hv]
    exact z_pI hk k hd hc hb hl hfin (by rw [hty]; exact (zc_char hv).1) (by rw [hty]; exact (zc_char hv).2) kk
  · rw [if_neg hv]
    intro hX
    exact z_none hX
end ZO0
