section
variable {E : zE} {K : zC}

abbrev qX7_nextStep : MethodName := { cls := "LotSales", name := "nextStep", desc := "(I)I" }
def fX7_nextStep (n : Nat) (a0 : Nat) (a1 : Int32) (σ : zW) : Option ((Int32 ⊕ Nat) × zW) := zbx (fX7_needWithin n a1 0 99999 σ) (fun _ σ2 => zgR σ2 8 a0 0 fun x5 => zgR σ2 4 x5 0 fun x6 => zck σ2 6 x6 (zb (fX5_stepAfter n x6 a1 σ2) fun x7 => some (.inl x7, σ2))) (fun e3 σ4 => some (.inr e3, σ4))
theorem mX7_nextStep (F : zFx E) (n : Nat) (a0 : Nat) (a1 : Int32) (σ : zW) (o : (Int32 ⊕ Nat) × zW) (hf : fX7_nextStep n a0 a1 σ = some o) : zMX E qX7_nextStep (.code qX7_nextStep cX7_nextStep 2 (some .int)) 7 [.inr (.inl a0), .inl a1] σ (zfT o) := by
  refine zMX_of (fin := zfT) F (by decide +kernel) rfl (Nat.le_of_ble_eq_true rfl) (lv0 := [some (.inr (.inl a0)), some (.inl a1)]) rfl hf rfl (fun K hk he ht => ?_)
  have hk : zk E K "LotSales" cX7_nextStep 2 7 := hk
  unfold fX7_nextStep
  refine z_run hk hX7_nextStep_0 0 2 (pc' := 2) (lv' := [some (.inr (.inl a0)), some (.inl a1)]) (st' := [.inl 0, .inl a1]) rfl ?_
  refine z_ldc hk (z_row hX7_nextStep_0 2 rfl) wd_572 ?_
  refine kX7_needWithin F hk (z_row hX7_nextStep_0 3 rfl) wd_350 (by decide) (Nat.le_of_ble_eq_true rfl) (fun x1 σ2 => ?_) (fun e3 σ4 => ?_)
  · refine z_run hk hX7_nextStep_0 4 1 (pc' := 8) (lv' := [some (.inr (.inl a0)), some (.inl a1)]) (st' := [.inr (.inl a0)]) rfl ?_
    refine z_gR hk 0 (z_row hX7_nextStep_0 5 rfl) (ci := 7) rfl rfl wd_268 (fun x5 => ?_)
    refine z_gR hk 0 (z_row hX7_nextStep_0 6 rfl) (ci := 3) rfl rfl wd_161 (fun x6 => ?_)
    refine z_run hk hX7_nextStep_0 7 1 (pc' := 15) (lv' := [some (.inr (.inl a0)), some (.inl a1)]) (st' := [.inl a1, .inr (.inl x6)]) rfl ?_
    refine kX5_stepAfter F hk (z_row hX7_nextStep_0 8 rfl) wd_587 (by decide) (Nat.le_of_ble_eq_true rfl) (fun x7 => ?_)
    exact z_iret hk he (z_row hX7_nextStep_0 9 rfl) rfl
  · exact z_out hk ht rfl
theorem kX7_nextStep {n : Nat} {own : String} {cc : ByteArray} {nL h index : Nat} {α : Type} {fin : α → zO} {σ : zW} {pc : Nat} {lv : zLV} {st : List zV} {a0 : Nat} {a1 : Int32} {c : Int32 → zW → Option α} {t : Nat → zW → Option α} (F : zFx E) (hk : zk E K own cc nL h) (hd : decode cc pc = .ok (.invokevirtual index, 3)) (hl : Cond.methodLink own index qX7_nextStep ∈ lw_tbl) (hh : 7 + 1 ≤ h) (hs : zcat st ≤ 8) (k : ∀ v s, zG E K fin (c v s) s (pc + 3) lv (.inl v :: st)) (kt : ∀ kx s, zT E K fin (t kx s) kx s pc lv) : zG E K fin (zck σ 8 a0 (zbx (fX7_nextStep n a0 a1 σ) c t)) σ pc lv (.inl a1 :: .inr (.inl a0) :: st) :=
  z_vT (n := 1) (y := qX7_nextStep) (As := [.inl a1]) hk hd hl wd_584 wd_585 wd_1 wd_586 ⟨by decide, by decide, by decide +kernel⟩ ⟨hh, by decide⟩ (ci := 7) rfl rfl rfl (fun o ho => mX7_nextStep F n a0 a1 σ o ho) hs k kt
abbrev qX7_isBidder : MethodName := { cls := "LotSales", name := "isBidder", desc := "(I)Z" }
def sX7_isBidder_15 (n : Nat) (σ : zW) (y0 : Int32) : Option (Int32) := if y0 = 0 ∨ y0 = 1 then some y0 else none
def sX7_isBidder_14 (n : Nat) (σ : zW) : Option (Int32) := sX7_isBidder_15 n σ 0
def fX7_isBidder (n : Nat) (a0 : Int32) (σ : zW) : Option (Int32) := if a0 < 0 then sX7_isBidder_14 n σ else if a0 < 10 then sX7_isBidder_15 n σ 1 else sX7_isBidder_14 n σ
theorem gsX7_isBidder_15 (F : zFx E) (n : Nat) (σ : zW) (hk : zk E K "LotSales" cX7_isBidder 1 0) (he : zend E K (some .boolean) "isBidder") (y0 : Int32) : zG E K (zfR σ) (sX7_isBidder_15 n σ y0) σ 15 [none] [.inl y0] := by
  unfold sX7_isBidder_15
  exact z_zret (fin := (zfR σ)) (o := y0) hk he (z_row hX7_isBidder_0 8 rfl) rfl
theorem gsX7_isBidder_14 (F : zFx E) (n : Nat) (σ : zW) (hk : zk E K "LotSales" cX7_isBidder 1 0) (he : zend E K (some .boolean) "isBidder") : zG E K (zfR σ) (sX7_isBidder_14 n σ) σ 14 [none] [] := by
  unfold sX7_isBidder_14
  refine z_run hk hX7_isBidder_0 7 1 (pc' := 15) (lv' := [none]) (st' := [.inl 0]) rfl ?_
  exact gsX7_isBidder_15 F n σ hk he 0
theorem mX7_isBidder (F : zFx E) (n : Nat) (a0 : Int32) (σ : zW) (o : Int32) (hf : fX7_isBidder n a0 σ = some o) : zM E qX7_isBidder cX7_isBidder 1 (some .boolean) 0 [.inl a0] σ (some (.int o)) σ := by
  refine zM_of (fin := (zfR σ)) F (by decide +kernel) rfl (Nat.le_of_ble_eq_true rfl) (lv0 := [some (.inl a0)]) rfl hf rfl (fun K hk he => ?_)
  have hk : zk E K "LotSales" cX7_isBidder 1 0 := hk
  unfold fX7_isBidder
  refine z_run hk hX7_isBidder_0 0 1 (pc' := 1) (lv' := [some (.inl a0)]) (st' := [.inl a0]) rfl ?_
  refine z_lt hk (z_row hX7_isBidder_0 1 rfl) (tgt := 14) rfl ?_ ?_
  · refine z_mask [false] rfl ?_
    exact gsX7_isBidder_14 F n σ hk he
  · refine z_run hk hX7_isBidder_0 2 2 (pc' := 7) (lv' := [some (.inl a0)]) (st' := [.inl 10, .inl a0]) rfl ?_
    refine z_cge hk (z_row hX7_isBidder_0 4 rfl) (tgt := 14) rfl ?_ ?_
    · refine z_mask [false] rfl ?_
      exact gsX7_isBidder_14 F n σ hk he
    · refine z_run hk hX7_isBidder_0 5 1 (pc' := 11) (lv' := [some (.inl a0)]) (st' := [.inl 1]) rfl ?_
      refine z_goto hk (z_row hX7_isBidder_0 6 rfl) (tgt := 15) rfl ?_
      refine z_mask [false] rfl ?_
      exact gsX7_isBidder_15 F n σ hk he 1
theorem kX7_isBidder {n : Nat} {own : String} {cc : ByteArray} {nL h index : Nat} {α : Type} {fin : α → zO} {σ : zW} {pc : Nat} {lv : zLV} {st : List zV} {a0 : Int32} {c : Int32 → Option α} (F : zFx E) (hk : zk E K own cc nL h) (hd : decode cc pc = .ok (.invokestatic index, 3)) (hl : Cond.methodLink own index qX7_isBidder ∈ lw_tbl) (hh : 0 + 1 ≤ h) (hs : zcat st ≤ 8) (k : ∀ v, zG E K fin (c v) σ (pc + 3) lv (.inl v :: st)) : zG E K fin (zb (fX7_isBidder n a0 σ) c) σ pc lv (.inl a0 :: st) :=
  z_qR (n := 1) (y := qX7_isBidder) (As := [.inl a0]) hk hd hl wd_603 wd_1 wd_604 ⟨by decide, by decide, by decide +kernel⟩ ⟨hh, by decide⟩ rfl (fun o ho => mX7_isBidder F n a0 σ o ho) hs k
abbrev qX7_needBidder : MethodName := { cls := "LotSales", name := "needBidder", desc := "(I)V" }
def fX7_needBidder (n : Nat) (a0 : Int32) (σ : zW) : Option ((Unit ⊕ Nat) × zW) := zb (fX7_isBidder n a0 σ) fun x1 => if x1 = 0 then zth σ fun σ2 => some (.inr 1, σ2) else some (.inl (), σ)
theorem mX7_needBidder (F : zFx E) (n : Nat) (a0 : Int32) (σ : zW) (o : (Unit ⊕ Nat) × zW) (hf : fX7_needBidder n a0 σ = some o) : zMX E qX7_needBidder (.code qX7_needBidder cX7_needBidder 1 none) 6 [.inl a0] σ (zfU o) := by
  refine zMX_of (fin := zfU) F (by decide +kernel) rfl (Nat.le_of_ble_eq_true rfl) (lv0 := [some (.inl a0)]) rfl hf rfl (fun K hk he ht => ?_)
  have hk : zk E K "LotSales" cX7_needBidder 1 6 := hk
  unfold fX7_needBidder
  refine z_run hk hX7_needBidder_0 0 1 (pc' := 1) (lv' := [some (.inl a0)]) (st' := [.inl a0]) rfl ?_
  refine kX7_isBidder F hk (z_row hX7_needBidder_0 1 rfl) wd_602 (by decide) (Nat.le_of_ble_eq_true rfl) (fun x1 => ?_)
  refine z_ne hk (z_row hX7_needBidder_0 2 rfl) (tgt := 18) rfl ?_ ?_
  · exact z_vret hk he (z_row hX7_needBidder_0 8 rfl) rfl
  · exact z_throwW hk ht (is := 399) (text := "no such bidder") (kx := 1) (by decide) (by decide) (by decide) (fun _ => rfl) (fun _ => rfl) wd_605 wd_515 wd_17 (by decide +kernel) (z_row hX7_needBidder_0 3 rfl) (z_row hX7_needBidder_0 4 rfl) (z_row hX7_needBidder_0 5 rfl) (z_row hX7_needBidder_0 6 rfl) (z_row hX7_needBidder_0 7 rfl) (by decide) (Nat.le_of_ble_eq_true rfl)
theorem kX7_needBidder {n : Nat} {own : String} {cc : ByteArray} {nL h index : Nat} {α : Type} {fin : α → zO} {σ : zW} {pc : Nat} {lv : zLV} {st : List zV} {a0 : Int32} {c : Unit → zW → Option α} {t : Nat → zW → Option α} (F : zFx E) (hk : zk E K own cc nL h) (hd : decode cc pc = .ok (.invokestatic index, 3)) (hl : Cond.methodLink own index qX7_needBidder ∈ lw_tbl) (hh : 6 + 1 ≤ h) (hs : zcat st ≤ 8) (k : ∀ v s, zG E K fin (c v s) s (pc + 3) lv (st)) (kt : ∀ kx s, zT E K fin (t kx s) kx s pc lv) : zG E K fin (zbx (fX7_needBidder n a0 σ) c t) σ pc lv (.inl a0 :: st) :=
  z_qU (n := 1) (y := qX7_needBidder) (As := [.inl a0]) hk hd hl wd_600 wd_1 wd_601 ⟨by decide, by decide, by decide +kernel⟩ ⟨hh, by decide⟩ rfl (fun o ho => mX7_needBidder F n a0 σ o ho) hs k kt
abbrev qX7_setCredit : MethodName := { cls := "LotSales", name := "setCredit", desc := "(II)I" }
def fX7_setCredit (n : Nat) (a0 : Nat) (a1 : Int32) (a2 : Int32) (σ : zW) : Option ((Int32 ⊕ Nat) × zW) := zbx (fX7_needBidder n a1 σ) (fun _ σ2 => zbx (fX7_needWithin n a2 0 999999 σ2) (fun _ σ6 => zgR σ6 8 a0 2 fun x9 => zgR σ6 8 a0 0 fun x10 => zck σ6 1 x9 (zb (fX0_keep n x9 x10 σ6) fun σ11 => zgR σ11 8 a0 0 fun x12 => zgR σ11 4 x12 1 fun x13 => zaI σ11 x13 a1 fun x14 => zgR σ11 8 a0 0 fun x15 => zgR σ11 4 x15 1 fun x16 => zsI σ11 x16 a1 a2 fun σ17 => some (.inl x14, σ17))) (fun e7 σ8 => some (.inr e7, σ8))) (fun e3 σ4 => some (.inr e3, σ4))
theorem mX7_setCredit (F : zFx E) (n : Nat) (a0 : Nat) (a1 : Int32) (a2 : Int32) (σ : zW) (o : (Int32 ⊕ Nat) × zW) (hf : fX7_setCredit n a0 a1 a2 σ = some o) : zMX E qX7_setCredit (.code qX7_setCredit cX7_setCredit 4 (some .int)) 7 [.inr (.inl a0), .inl a1, .inl a2] σ (zfT o) := by
  refine zMX_of (fin := zfT) F (by decide +kernel) rfl (Nat.le_of_ble_eq_true rfl) (lv0 := [some (.inr (.inl a0)), some (.inl a1), some (.inl a2), none]) rfl hf rfl (fun K hk he ht => ?_)
  have hk : zk E K "LotSales" cX7_setCredit 4 7 := hk
  unfold fX7_setCredit
  refine z_run hk hX7_setCredit_0 0 1 (pc' := 1) (lv' := [some (.inr (.inl a0)), some (.inl a1), some (.inl a2), none]) (st' := [.inl a1]) rfl ?_
  refine kX7_needBidder F hk (z_row hX7_setCredit_0 1 rfl) wd_599 (by decide) (Nat.le_of_ble_eq_true rfl) (fun x1 σ2 => ?_) (fun e3 σ4 => ?_)
  · refine z_run hk hX7_setCredit_0 2 2 (pc' := 6) (lv' := [some (.inr (.inl a0)), some (.inl a1), some (.inl a2), none]) (st' := [.inl 0, .inl a2]) rfl ?_
    refine z_ldc hk (z_row hX7_setCredit_0 4 rfl) wd_606 ?_
    refine kX7_needWithin F hk (z_row hX7_setCredit_0 5 rfl) wd_350 (by decide) (Nat.le_of_ble_eq_true rfl) (fun x5 σ6 => ?_) (fun e7 σ8 => ?_)
    · refine z_run hk hX7_setCredit_0 6 1 (pc' := 12) (lv' := [some (.inr (.inl a0)), some (.inl a1), some (.inl a2), none]) (st' := [.inr (.inl a0)]) rfl ?_
      refine z_gR hk 2 (z_row hX7_setCredit_0 7 rfl) (ci := 7) rfl rfl wd_270 (fun x9 => ?_)
      refine z_run hk hX7_setCredit_0 8 1 (pc' := 16) (lv' := [some (.inr (.inl a0)), some (.inl a1), some (.inl a2), none]) (st' := [.inr (.inl a0), .inr (.inl x9)]) rfl ?_
      refine z_gR hk 0 (z_row hX7_setCredit_0 9 rfl) (ci := 7) rfl rfl wd_268 (fun x10 => ?_)
      refine kX0_keep F hk (z_row hX7_setCredit_0 10 rfl) wd_446 (by decide) (Nat.le_of_ble_eq_true rfl) (fun σ11 => ?_)
      refine z_run hk hX7_setCredit_0 11 1 (pc' := 23) (lv' := [some (.inr (.inl a0)), some (.inl a1), some (.inl a2), none]) (st' := [.inr (.inl a0)]) rfl ?_
      refine z_gR hk 0 (z_row hX7_setCredit_0 12 rfl) (ci := 7) rfl rfl wd_268 (fun x12 => ?_)
      refine z_gR hk 1 (z_row hX7_setCredit_0 13 rfl) (ci := 3) rfl rfl wd_163 (fun x13 => ?_)
      refine z_run hk hX7_setCredit_0 14 1 (pc' := 30) (lv' := [some (.inr (.inl a0)), some (.inl a1), some (.inl a2), none]) (st' := [.inl a1, .inr (.inl x13)]) rfl ?_
      refine z_aI hk (z_row hX7_setCredit_0 15 rfl) (fun x14 => ?_)
      refine z_run hk hX7_setCredit_0 16 2 (pc' := 33) (lv' := [some (.inr (.inl a0)), some (.inl a1), some (.inl a2), some (.inl x14)]) (st' := [.inr (.inl a0)]) rfl ?_
      refine z_gR hk 0 (z_row hX7_setCredit_0 18 rfl) (ci := 7) rfl rfl wd_268 (fun x15 => ?_)
      refine z_gR hk 1 (z_row hX7_setCredit_0 19 rfl) (ci := 3) rfl rfl wd_163 (fun x16 => ?_)
      refine z_run hk hX7_setCredit_0 20 2 (pc' := 41) (lv' := [some (.inr (.inl a0)), some (.inl a1), some (.inl a2), some (.inl x14)]) (st' := [.inl a2, .inl a1, .inr (.inl x16)]) rfl ?_
      refine z_sI hk (z_row hX7_setCredit_0 22 rfl) (fun σ17 => ?_)
      refine z_run hk hX7_setCredit_0 23 1 (pc' := 43) (lv' := [some (.inr (.inl a0)), some (.inl a1), some (.inl a2), some (.inl x14)]) (st' := [.inl x14]) rfl ?_
      exact z_iret hk he (z_row hX7_setCredit_0 24 rfl) rfl
    · exact z_out hk ht rfl
  · exact z_out hk ht rfl
theorem kX7_setCredit {n : Nat} {own : String} {cc : ByteArray} {nL h index : Nat} {α : Type} {fin : α → zO} {σ : zW} {pc : Nat} {lv : zLV} {st : List zV} {a0 : Nat} {a1 : Int32} {a2 : Int32} {c : Int32 → zW → Option α} {t : Nat → zW → Option α} (F : zFx E) (hk : zk E K own cc nL h) (hd : decode cc pc = .ok (.invokevirtual index, 3)) (hl : Cond.methodLink own index qX7_setCredit ∈ lw_tbl) (hh : 7 + 1 ≤ h) (hs : zcat st ≤ 8) (k : ∀ v s, zG E K fin (c v s) s (pc + 3) lv (.inl v :: st)) (kt : ∀ kx s, zT E K fin (t kx s) kx s pc lv) : zG E K fin (zck σ 8 a0 (zbx (fX7_setCredit n a0 a1 a2 σ) c t)) σ pc lv (.inl a2 :: .inl a1 :: .inr (.inl a0) :: st) :=
  z_vT (n := 2) (y := qX7_setCredit) (As := [.inl a1, .inl a2]) hk hd hl wd_596 wd_597 wd_1 wd_598 ⟨by decide, by decide, by decide +kernel⟩ ⟨hh, by decide⟩ (ci := 7) rfl rfl rfl (fun o ho => mX7_setCredit F n a0 a1 a2 σ o ho) hs k kt
abbrev qX7_orderReason : MethodName := { cls := "LotSales", name := "orderReason", desc := "(LLotSales$Lot;II)I" }
def sX7_orderReason_71 (n : Nat) (σ : zW) : Option (Int32) := some 0
def sX7_orderReason_18 (n : Nat) (σ : zW) (v0 : Nat) (v1 : Nat) (v2 : Int32) (v3 : Int32) : Option (Int32) := zgR σ 3 v1 0 fun x1 => zaI σ x1 v2 fun x2 => if x2 < v3 then zgR σ 8 v0 0 fun x3 => zgR σ 4 x3 1 fun x4 => zaI σ x4 v2 fun x5 => if x5 < v3 then some 8 else zgR σ 3 v1 0 fun x6 => zaI σ x6 v2 fun x7 => if x7 = 0 then zgR σ 8 v0 0 fun x8 => zck σ 4 x8 (zb (fX3_orderCount n x8 σ) fun x9 => if x9 < 40 then sX7_orderReason_71 n σ else some 9) else sX7_orderReason_71 n σ else some 7
def fX7_orderReason (n : Nat) (a0 : Nat) (a1 : Nat) (a2 : Int32) (a3 : Int32) (σ : zW) : Option (Int32) := zgI σ 3 a1 4 fun x10 => if x10 = 0 then sX7_orderReason_18 n σ a0 a1 a2 a3 else zgI σ 3 a1 4 fun x11 => if x11 = 1 then sX7_orderReason_18 n σ a0 a1 a2 a3 else some 6
theorem gsX7_orderReason_71 (F : zFx E) (n : Nat) (σ : zW) (hk : zk E K "LotSales" cX7_orderReason 4 2) (he : zend E K (some .int) "orderReason") : zG E K (zfR σ) (sX7_orderReason_71 n σ) σ 71 [none, none, none, none] [] := by
  unfold sX7_orderReason_71
  refine z_run hk hX7_orderReason_0 38 1 (pc' := 72) (lv' := [none, none, none, none]) (st' := [.inl 0]) rfl ?_
  exact z_iret hk he (z_row hX7_orderReason_0 39 rfl) rfl
theorem gsX7_orderReason_18 (F : zFx E) (n : Nat) (σ : zW) (hk : zk E K "LotSales" cX7_orderReason 4 2) (he : zend E K (some .int) "orderReason") (v0 : Nat) (v1 : Nat) (v2 : Int32) (v3 : Int32) : zG E K (zfR σ) (sX7_orderReason_18 n σ v0 v1 v2 v3) σ 18 [some (.inr (.inl v0)), some (.inr (.inl v1)), some (.inl v2), some (.inl v3)] [] := by
  unfold sX7_orderReason_18
  refine z_run hk hX7_orderReason_0 9 1 (pc' := 19) (lv' := [some (.inr (.inl v0)), some (.inr (.inl v1)), some (.inl v2), some (.inl v3)]) (st' := [.inr (.inl v1)]) rfl ?_
  refine z_gR hk 0 (z_row hX7_orderReason_0 10 rfl) (ci := 2) rfl rfl wd_105 (fun x1 => ?_)
  refine z_run hk hX7_orderReason_0 11 1 (pc' := 23) (lv' := [some (.inr (.inl v0)), some (.inr (.inl v1)), some (.inl v2), some (.inl v3)]) (st' := [.inl v2, .inr (.inl x1)]) rfl ?_
  refine z_aI hk (z_row hX7_orderReason_0 12 rfl) (fun x2 => ?_)
  refine z_run hk hX7_orderReason_0 13 1 (pc' := 25) (lv' := [some (.inr (.inl v0)), some (.inr (.inl v1)), some (.inl v2), some (.inl v3)]) (st' := [.inl v3, .inl x2]) rfl ?_
  refine z_clt hk (z_row hX7_orderReason_0 14 rfl) (tgt := 31) rfl ?_ ?_
  · refine z_run hk hX7_orderReason_0 17 2 (pc' := 33) (lv' := [some (.inr (.inl v0)), some (.inr (.inl v1)), some (.inl v2), some (.inl v3)]) (st' := [.inr (.inl v0), .inl v3]) rfl ?_
    refine z_gR hk 0 (z_row hX7_orderReason_0 19 rfl) (ci := 7) rfl rfl wd_268 (fun x3 => ?_)
    refine z_gR hk 1 (z_row hX7_orderReason_0 20 rfl) (ci := 3) rfl rfl wd_163 (fun x4 => ?_)
    refine z_run hk hX7_orderReason_0 21 1 (pc' := 40) (lv' := [some (.inr (.inl v0)), some (.inr (.inl v1)), some (.inl v2), some (.inl v3)]) (st' := [.inl v2, .inr (.inl x4), .inl v3]) rfl ?_
    refine z_aI hk (z_row hX7_orderReason_0 22 rfl) (fun x5 => ?_)
    refine z_cle hk (z_row hX7_orderReason_0 23 rfl) (tgt := 47) rfl ?_ ?_
    · refine z_run hk hX7_orderReason_0 26 1 (pc' := 48) (lv' := [some (.inr (.inl v0)), some (.inr (.inl v1)), some (.inl v2), some (.inl v3)]) (st' := [.inr (.inl v1)]) rfl ?_
      refine z_gR hk 0 (z_row hX7_orderReason_0 27 rfl) (ci := 2) rfl rfl wd_105 (fun x6 => ?_)
      refine z_run hk hX7_orderReason_0 28 1 (pc' := 52) (lv' := [some (.inr (.inl v0)), some (.inr (.inl v1)), some (.inl v2), some (.inl v3)]) (st' := [.inl v2, .inr (.inl x6)]) rfl ?_
      refine z_aI hk (z_row hX7_orderReason_0 29 rfl) (fun x7 => ?_)
      refine z_ne hk (z_row hX7_orderReason_0 30 rfl) (tgt := 71) rfl ?_ ?_
      · refine z_mask [false, false, false, false] rfl ?_
        exact gsX7_orderReason_71 F n σ hk he
      · refine z_run hk hX7_orderReason_0 31 1 (pc' := 57) (lv' := [some (.inr (.inl v0)), some (.inr (.inl v1)), some (.inl v2), some (.inl v3)]) (st' := [.inr (.inl v0)]) rfl ?_
        refine z_gR hk 0 (z_row hX7_orderReason_0 32 rfl) (ci := 7) rfl rfl wd_268 (fun x8 => ?_)
        refine kX3_orderCount F hk (z_row hX7_orderReason_0 33 rfl) wd_623 (by decide) (Nat.le_of_ble_eq_true rfl) (fun x9 => ?_)
        refine z_run hk hX7_orderReason_0 34 1 (pc' := 65) (lv' := [some (.inr (.inl v0)), some (.inr (.inl v1)), some (.inl v2), some (.inl v3)]) (st' := [.inl 40, .inl x9]) rfl ?_
        refine z_clt hk (z_row hX7_orderReason_0 35 rfl) (tgt := 71) rfl ?_ ?_
        · refine z_mask [false, false, false, false] rfl ?_
          exact gsX7_orderReason_71 F n σ hk he
        · refine z_run hk hX7_orderReason_0 36 1 (pc' := 70) (lv' := [some (.inr (.inl v0)), some (.inr (.inl v1)), some (.inl v2), some (.inl v3)]) (st' := [.inl 9]) rfl ?_
          exact z_iret hk he (z_row hX7_orderReason_0 37 rfl) rfl
    · refine z_run hk hX7_orderReason_0 24 1 (pc' := 46) (lv' := [some (.inr (.inl v0)), some (.inr (.inl v1)), some (.inl v2), some (.inl v3)]) (st' := [.inl 8]) rfl ?_
      exact z_iret hk he (z_row hX7_orderReason_0 25 rfl) rfl
  · refine z_run hk hX7_orderReason_0 15 1 (pc' := 30) (lv' := [some (.inr (.inl v0)), some (.inr (.inl v1)), some (.inl v2), some (.inl v3)]) (st' := [.inl 7]) rfl ?_
    exact z_iret hk he (z_row hX7_orderReason_0 16 rfl) rfl
theorem mX7_orderReason (F : zFx E) (n : Nat) (a0 : Nat) (a1 : Nat) (a2 : Int32) (a3 : Int32) (σ : zW) (o : Int32) (hf : fX7_orderReason n a0 a1 a2 a3 σ = some o) : zM E qX7_orderReason cX7_orderReason 4 (some .int) 2 [.inr (.inl a0), .inr (.inl a1), .inl a2, .inl a3] σ (some (.int o)) σ := by
  refine zM_of (fin := (zfR σ)) F (by decide +kernel) rfl (Nat.le_of_ble_eq_true rfl) (lv0 := [some (.inr (.inl a0)), some (.inr (.inl a1)), some (.inl a2), some (.inl a3)]) rfl hf rfl (fun K hk he => ?_)
  have hk : zk E K "LotSales" cX7_orderReason 4 2 := hk
  unfold fX7_orderReason
  refine z_run hk hX7_orderReason_0 0 1 (pc' := 1) (lv' := [some (.inr (.inl a0)), some (.inr (.inl a1)), some (.inl a2), some (.inl a3)]) (st' := [.inr (.inl a1)]) rfl ?_
  refine z_gI hk 4 (z_row hX7_orderReason_0 1 rfl) (ci := 2) rfl rfl wd_113 (fun x10 => ?_)
  refine z_eq hk (z_row hX7_orderReason_0 2 rfl) (tgt := 18) rfl ?_ ?_
  · exact gsX7_orderReason_18 F n σ hk he a0 a1 a2 a3
  · refine z_run hk hX7_orderReason_0 3 1 (pc' := 8) (lv' := [some (.inr (.inl a0)), some (.inr (.inl a1)), some (.inl a2), some (.inl a3)]) (st' := [.inr (.inl a1)]) rfl ?_
    refine z_gI hk 4 (z_row hX7_orderReason_0 4 rfl) (ci := 2) rfl rfl wd_113 (fun x11 => ?_)
    refine z_run hk hX7_orderReason_0 5 1 (pc' := 12) (lv' := [some (.inr (.inl a0)), some (.inr (.inl a1)), some (.inl a2), some (.inl a3)]) (st' := [.inl 1, .inl x11]) rfl ?_
    refine z_ceq hk (z_row hX7_orderReason_0 6 rfl) (tgt := 18) rfl ?_ ?_
    · exact gsX7_orderReason_18 F n σ hk he a0 a1 a2 a3
    · refine z_run hk hX7_orderReason_0 7 1 (pc' := 17) (lv' := [some (.inr (.inl a0)), some (.inr (.inl a1)), some (.inl a2), some (.inl a3)]) (st' := [.inl 6]) rfl ?_
      exact z_iret hk he (z_row hX7_orderReason_0 8 rfl) rfl
theorem kX7_orderReason {n : Nat} {own : String} {cc : ByteArray} {nL h index : Nat} {α : Type} {fin : α → zO} {σ : zW} {pc : Nat} {lv : zLV} {st : List zV} {a0 : Nat} {a1 : Nat} {a2 : Int32} {a3 : Int32} {c : Int32 → Option α} (F : zFx E) (hk : zk E K own cc nL h) (hd : decode cc pc = .ok (.invokevirtual index, 3)) (hl : Cond.methodLink own index qX7_orderReason ∈ lw_tbl) (hh : 2 + 1 ≤ h) (hs : zcat st ≤ 8) (k : ∀ v, zG E K fin (c v) σ (pc + 3) lv (.inl v :: st)) : zG E K fin (zck σ 8 a0 (zb (fX7_orderReason n a0 a1 a2 a3 σ) c)) σ pc lv (.inl a3 :: .inl a2 :: .inr (.inl a1) :: .inr (.inl a0) :: st) :=
  z_vR (n := 3) (y := qX7_orderReason) (As := [.inr (.inl a1), .inl a2, .inl a3]) hk hd hl wd_621 ws_4 wd_1 wd_622 ⟨by decide, by decide, by decide +kernel⟩ ⟨hh, by decide⟩ (ci := 7) rfl rfl rfl (fun o ho => mX7_orderReason F n a0 a1 a2 a3 σ o ho) hs k
abbrev qX7_tryOrder : MethodName := { cls := "LotSales", name := "tryOrder", desc := "(III)I" }
def sX7_tryOrder_18 (n : Nat) (σ : zW) : Option (Int32 × zW) := some ((-1), σ)
def sX7_tryOrder_31 (n : Nat) (σ : zW) : Option (Int32 × zW) := some ((-2), σ)
def fX7_tryOrder (n : Nat) (a0 : Nat) (a1 : Int32) (a2 : Int32) (a3 : Int32) (σ : zW) : Option (Int32 × zW) := zgR σ 8 a0 0 fun x1 => zck σ 4 x1 (zb (fX3_has n x1 a1 σ) fun x2 => if x2 = 0 then sX7_tryOrder_18 n σ else zb (fX7_isBidder n a2 σ) fun x3 => if x3 = 0 then sX7_tryOrder_18 n σ else if a3 < 1 then sX7_tryOrder_31 n σ else if 90000 < a3 then sX7_tryOrder_31 n σ else zgR σ 8 a0 0 fun x4 => zgR σ 4 x4 3 fun x5 => zaR σ 25 x5 a1 fun x6 => zck σ 8 a0 (zb (fX7_orderReason n a0 x6 a2 a3 σ) fun x7 => if x7 = 0 then zgR σ 8 a0 2 fun x8 => zgR σ 8 a0 0 fun x9 => zck σ 1 x8 (zb (fX0_keep n x8 x9 σ) fun σ10 => zgR σ10 8 a0 0 fun x11 => zck σ10 4 x11 (zb2 (fX3_nextNumber n x11 σ10) fun x12 σ13 => zck σ13 3 x6 (zb (fX2_putOrder n x6 a2 a3 x12 σ13) fun σ14 => zgR σ14 8 a0 0 fun x15 => zgR σ14 4 x15 4 fun x16 => zck σ14 2 x16 (zb (fX1_note n x16 0 a1 a2 a3 σ14) fun σ17 => zgR σ17 8 a0 0 fun x18 => zck σ17 4 x18 (zb (fX3_orderCount n x18 σ17) fun x19 => some (x19, σ17)))))) else zpI σ 8 a0 5 x7 fun σ20 => some ((-5), σ20)))
theorem gsX7_tryOrder_18 (F : zFx E) (n : Nat) (hk : zk E K "LotSales" cX7_tryOrder 6 5) (he : zend E K (some .int) "tryOrder") (σ : zW) : zG E K zfW (sX7_tryOrder_18 n σ) σ 18 [none, none, none, none, none, none] [] := by
  unfold sX7_tryOrder_18
  refine z_run hk hX7_tryOrder_0 8 1 (pc' := 19) (lv' := [none, none, none, none, none, none]) (st' := [.inl (-1)]) rfl ?_
  exact z_iret hk he (z_row hX7_tryOrder_0 9 rfl) rfl
theorem gsX7_tryOrder_31 (F : zFx E) (n : Nat) (hk : zk E K "LotSales" cX7_tryOrder 6 5) (he : zend E K (some .int) "tryOrder") (σ : zW) : zG E K zfW (sX7_tryOrder_31 n σ) σ 31 [none, none, none, none, none, none] [] := by
  unfold sX7_tryOrder_31
  refine z_run hk hX7_tryOrder_0 16 1 (pc' := 33) (lv' := [none, none, none, none, none, none]) (st' := [.inl (-2)]) rfl ?_
  exact z_iret hk he (z_row hX7_tryOrder_0 17 rfl) rfl
theorem mX7_tryOrder (F : zFx E) (n : Nat) (a0 : Nat) (a1 : Int32) (a2 : Int32) (a3 : Int32) (σ : zW) (o : Int32 × zW) (hf : fX7_tryOrder n a0 a1 a2 a3 σ = some o) : zM E qX7_tryOrder cX7_tryOrder 6 (some .int) 5 [.inr (.inl a0), .inl a1, .inl a2, .inl a3] σ (some (.int o.1)) o.2 := by
  refine zM_of (fin := zfW) F (by decide +kernel) rfl (Nat.le_of_ble_eq_true rfl) (lv0 := [some (.inr (.inl a0)), some (.inl a1), some (.inl a2), some (.inl a3), none, none]) rfl hf rfl (fun K hk he => ?_)
  have hk : zk E K "LotSales" cX7_tryOrder 6 5 := hk
  unfold fX7_tryOrder
  refine z_run hk hX7_tryOrder_0 0 1 (pc' := 1) (lv' := [some (.inr (.inl a0)), some (.inl a1), some (.inl a2), some (.inl a3), none, none]) (st' := [.inr (.inl a0)]) rfl ?_
  refine z_gR hk 0 (z_row hX7_tryOrder_0 1 rfl) (ci := 7) rfl rfl wd_268 (fun x1 => ?_)
  refine z_run hk hX7_tryOrder_0 2 1 (pc' := 5) (lv' := [some (.inr (.inl a0)), some (.inl a1), some (.inl a2), some (.inl a3), none, none]) (st' := [.inl a1, .inr (.inl x1)]) rfl ?_
  refine kX3_has F hk (z_row hX7_tryOrder_0 3 rfl) wd_514 (by decide) (Nat.le_of_ble_eq_true rfl) (fun x2 => ?_)
  refine z_eq hk (z_row hX7_tryOrder_0 4 rfl) (tgt := 18) rfl ?_ ?_
  · refine z_mask [false, false, false, false, false, false] rfl ?_
    exact gsX7_tryOrder_18 F n hk he σ
  · refine z_run hk hX7_tryOrder_0 5 1 (pc' := 12) (lv' := [some (.inr (.inl a0)), some (.inl a1), some (.inl a2), some (.inl a3), none, none]) (st' := [.inl a2]) rfl ?_
    refine kX7_isBidder F hk (z_row hX7_tryOrder_0 6 rfl) wd_602 (by decide) (Nat.le_of_ble_eq_true rfl) (fun x3 => ?_)
    refine z_ne hk (z_row hX7_tryOrder_0 7 rfl) (tgt := 20) rfl ?_ ?_
    · refine z_run hk hX7_tryOrder_0 10 2 (pc' := 22) (lv' := [some (.inr (.inl a0)), some (.inl a1), some (.inl a2), some (.inl a3), none, none]) (st' := [.inl 1, .inl a3]) rfl ?_
      refine z_clt hk (z_row hX7_tryOrder_0 12 rfl) (tgt := 31) rfl ?_ ?_
      · refine z_mask [false, false, false, false, false, false] rfl ?_
        exact gsX7_tryOrder_31 F n hk he σ
      · refine z_run hk hX7_tryOrder_0 13 1 (pc' := 26) (lv' := [some (.inr (.inl a0)), some (.inl a1), some (.inl a2), some (.inl a3), none, none]) (st' := [.inl a3]) rfl ?_
        refine z_ldc hk (z_row hX7_tryOrder_0 14 rfl) wd_425 ?_
        refine z_cle hk (z_row hX7_tryOrder_0 15 rfl) (tgt := 34) rfl ?_ ?_
        · refine z_run hk hX7_tryOrder_0 18 1 (pc' := 35) (lv' := [some (.inr (.inl a0)), some (.inl a1), some (.inl a2), some (.inl a3), none, none]) (st' := [.inr (.inl a0)]) rfl ?_
          refine z_gR hk 0 (z_row hX7_tryOrder_0 19 rfl) (ci := 7) rfl rfl wd_268 (fun x4 => ?_)
          refine z_gR hk 3 (z_row hX7_tryOrder_0 20 rfl) (ci := 3) rfl rfl wd_167 (fun x5 => ?_)
          refine z_run hk hX7_tryOrder_0 21 1 (pc' := 42) (lv' := [some (.inr (.inl a0)), some (.inl a1), some (.inl a2), some (.inl a3), none, none]) (st' := [.inl a1, .inr (.inl x5)]) rfl ?_
          refine z_aR hk (κ := 25) (by decide) (z_row hX7_tryOrder_0 22 rfl) (fun x6 => ?_)
          refine z_run hk hX7_tryOrder_0 23 5 (pc' := 50) (lv' := [some (.inr (.inl a0)), some (.inl a1), some (.inl a2), some (.inl a3), some (.inr (.inl x6)), none]) (st' := [.inl a3, .inl a2, .inr (.inl x6), .inr (.inl a0)]) rfl ?_
          refine kX7_orderReason F hk (z_row hX7_tryOrder_0 28 rfl) wd_619 (by decide) (Nat.le_of_ble_eq_true rfl) (fun x7 => ?_)
          refine z_run hk hX7_tryOrder_0 29 2 (pc' := 57) (lv' := [some (.inr (.inl a0)), some (.inl a1), some (.inl a2), some (.inl a3), some (.inr (.inl x6)), some (.inl x7)]) (st' := [.inl x7]) rfl ?_
          refine z_eq hk (z_row hX7_tryOrder_0 31 rfl) (tgt := 69) rfl ?_ ?_
          · refine z_run hk hX7_tryOrder_0 37 1 (pc' := 70) (lv' := [some (.inr (.inl a0)), some (.inl a1), some (.inl a2), some (.inl a3), some (.inr (.inl x6)), some (.inl x7)]) (st' := [.inr (.inl a0)]) rfl ?_
            refine z_gR hk 2 (z_row hX7_tryOrder_0 38 rfl) (ci := 7) rfl rfl wd_270 (fun x8 => ?_)
            refine z_run hk hX7_tryOrder_0 39 1 (pc' := 74) (lv' := [some (.inr (.inl a0)), some (.inl a1), some (.inl a2), some (.inl a3), some (.inr (.inl x6)), some (.inl x7)]) (st' := [.inr (.inl a0), .inr (.inl x8)]) rfl ?_
            refine z_gR hk 0 (z_row hX7_tryOrder_0 40 rfl) (ci := 7) rfl rfl wd_268 (fun x9 => ?_)
            refine kX0_keep F hk (z_row hX7_tryOrder_0 41 rfl) wd_446 (by decide) (Nat.le_of_ble_eq_true rfl) (fun σ10 => ?_)
            refine z_run hk hX7_tryOrder_0 42 4 (pc' := 85) (lv' := [some (.inr (.inl a0)), some (.inl a1), some (.inl a2), some (.inl a3), some (.inr (.inl x6)), some (.inl x7)]) (st' := [.inr (.inl a0), .inl a3, .inl a2, .inr (.inl x6)]) rfl ?_
            refine z_gR hk 0 (z_row hX7_tryOrder_0 46 rfl) (ci := 7) rfl rfl wd_268 (fun x11 => ?_)
            refine kX3_nextNumber F hk (z_row hX7_tryOrder_0 47 rfl) wd_631 (by decide) (Nat.le_of_ble_eq_true rfl) (fun x12 σ13 => ?_)
            refine kX2_putOrder F hk (z_row hX7_tryOrder_0 48 rfl) wd_635 (by decide) (Nat.le_of_ble_eq_true rfl) (fun σ14 => ?_)
            refine z_run hk hX7_tryOrder_0 49 1 (pc' := 95) (lv' := [some (.inr (.inl a0)), some (.inl a1), some (.inl a2), some (.inl a3), some (.inr (.inl x6)), some (.inl x7)]) (st' := [.inr (.inl a0)]) rfl ?_
            refine z_gR hk 0 (z_row hX7_tryOrder_0 50 rfl) (ci := 7) rfl rfl wd_268 (fun x15 => ?_)
            refine z_gR hk 4 (z_row hX7_tryOrder_0 51 rfl) (ci := 3) rfl rfl wd_169 (fun x16 => ?_)
            refine z_run hk hX7_tryOrder_0 52 4 (pc' := 105) (lv' := [some (.inr (.inl a0)), some (.inl a1), some (.inl a2), some (.inl a3), some (.inr (.inl x6)), some (.inl x7)]) (st' := [.inl a3, .inl a2, .inl a1, .inl 0, .inr (.inl x16)]) rfl ?_
            refine kX1_note F hk (z_row hX7_tryOrder_0 56 rfl) wd_636 (by decide) (Nat.le_of_ble_eq_true rfl) (fun σ17 => ?_)
            refine z_run hk hX7_tryOrder_0 57 1 (pc' := 109) (lv' := [some (.inr (.inl a0)), some (.inl a1), some (.inl a2), some (.inl a3), some (.inr (.inl x6)), some (.inl x7)]) (st' := [.inr (.inl a0)]) rfl ?_
            refine z_gR hk 0 (z_row hX7_tryOrder_0 58 rfl) (ci := 7) rfl rfl wd_268 (fun x18 => ?_)
            refine kX3_orderCount F hk (z_row hX7_tryOrder_0 59 rfl) wd_623 (by decide) (Nat.le_of_ble_eq_true rfl) (fun x19 => ?_)
            exact z_iret hk he (z_row hX7_tryOrder_1 0 rfl) rfl
          · refine z_run hk hX7_tryOrder_0 32 2 (pc' := 63) (lv' := [some (.inr (.inl a0)), some (.inl a1), some (.inl a2), some (.inl a3), some (.inr (.inl x6)), some (.inl x7)]) (st' := [.inl x7, .inr (.inl a0)]) rfl ?_
            refine z_pI hk 5 (z_row hX7_tryOrder_0 34 rfl) (ci := 7) rfl rfl wd_273 rfl rfl rfl (fun σ20 => ?_)
            refine z_run hk hX7_tryOrder_0 35 1 (pc' := 68) (lv' := [some (.inr (.inl a0)), some (.inl a1), some (.inl a2), some (.inl a3), some (.inr (.inl x6)), some (.inl x7)]) (st' := [.inl (-5)]) rfl ?_
            exact z_iret hk he (z_row hX7_tryOrder_0 36 rfl) rfl
        · refine z_mask [false, false, false, false, false, false] rfl ?_
          exact gsX7_tryOrder_31 F n hk he σ
    · refine z_mask [false, false, false, false, false, false] rfl ?_
      exact gsX7_tryOrder_18 F n hk he σ
theorem kX7_tryOrder {n : Nat} {own : String} {cc : ByteArray} {nL h index : Nat} {α : Type} {fin : α → zO} {σ : zW} {pc : Nat} {lv : zLV} {st : List zV} {a0 : Nat} {a1 : Int32} {a2 : Int32} {a3 : Int32} {c : Int32 → zW → Option α} (F : zFx E) (hk : zk E K own cc nL h) (hd : decode cc pc = .ok (.invokevirtual index, 3)) (hl : Cond.methodLink own index qX7_tryOrder ∈ lw_tbl) (hh : 5 + 1 ≤ h) (hs : zcat st ≤ 8) (k : ∀ v s, zG E K fin (c v s) s (pc + 3) lv (.inl v :: st)) : zG E K fin (zck σ 8 a0 (zb2 (fX7_tryOrder n a0 a1 a2 a3 σ) c)) σ pc lv (.inl a3 :: .inl a2 :: .inl a1 :: .inr (.inl a0) :: st) :=
  z_vW (n := 3) (y := qX7_tryOrder) (As := [.inl a1, .inl a2, .inl a3]) hk hd hl wd_617 ws_3 wd_1 wd_618 ⟨by decide, by decide, by decide +kernel⟩ ⟨hh, by decide⟩ (ci := 7) rfl rfl rfl (fun o ho => mX7_tryOrder F n a0 a1 a2 a3 σ o ho) hs k
abbrev qX7_answered : MethodName := { cls := "LotSales", name := "answered", desc := "(I)I" }
def fX7_answered (n : Nat) (a0 : Int32) (σ : zW) : Option ((Int32 ⊕ Nat) × zW) := if a0 = -5 then zth σ fun σ1 => some (.inr 5, σ1) else if a0 = -4 then zth σ fun σ2 => some (.inr 4, σ2) else if a0 = -3 then zth σ fun σ3 => some (.inr 3, σ3) else if a0 = -2 then zth σ fun σ4 => some (.inr 2, σ4) else if a0 = -1 then zth σ fun σ5 => some (.inr 1, σ5) else some (.inl a0, σ)
theorem mX7_answered (F : zFx E) (n : Nat) (a0 : Int32) (σ : zW) (o : (Int32 ⊕ Nat) × zW) (hf : fX7_answered n a0 σ = some o) : zMX E qX7_answered (.code qX7_answered cX7_answered 1 (some .int)) 6 [.inl a0] σ (zfT o) := by
  refine zMX_of (fin := zfT) F (by decide +kernel) rfl (Nat.le_of_ble_eq_true rfl) (lv0 := [some (.inl a0)]) rfl hf rfl (fun K hk he ht => ?_)
  have hk : zk E K "LotSales" cX7_answered 1 6 := hk
  unfold fX7_answered
  refine z_run hk hX7_answered_0 0 1 (pc' := 1) (lv' := [some (.inl a0)]) (st' := [.inl a0]) rfl ?_
  refine z_tabI hk (z_row hX7_answered_0 1 rfl) (c := -5) (tgt := 79) (by decide) (by decide) rfl rfl ?_ (fun hn0 => ?_)
  · exact z_throwW hk ht (is := 411) (text := "refused") (kx := 5) (by decide) (by decide) (by decide) (fun _ => rfl) (fun _ => rfl) wd_670 wd_661 wd_21 (by decide +kernel) (z_row hX7_answered_0 22 rfl) (z_row hX7_answered_0 23 rfl) (z_row hX7_answered_0 24 rfl) (z_row hX7_answered_0 25 rfl) (z_row hX7_answered_0 26 rfl) (by decide) (Nat.le_of_ble_eq_true rfl)
  refine z_tabI hk (z_row hX7_answered_0 1 rfl) (c := -4) (tgt := 69) (by decide) (by decide) rfl rfl ?_ (fun hn1 => ?_)
  · exact z_throw4 hk ht (is := 163) (text := "no such order") (fun _ => rfl) (fun _ => rfl) wd_654 wd_645 wd_20 (by decide +kernel) (z_row hX7_answered_0 17 rfl) (z_row hX7_answered_0 18 rfl) (z_row hX7_answered_0 19 rfl) (z_row hX7_answered_0 20 rfl) (z_row hX7_answered_0 21 rfl) (by decide) (Nat.le_of_ble_eq_true rfl)
  refine z_tabI hk (z_row hX7_answered_0 1 rfl) (c := -3) (tgt := 58) (by decide) (by decide) rfl rfl ?_ (fun hn2 => ?_)
  · exact z_throwW hk ht (is := 403) (text := "the state of the lot is another one") (kx := 3) (by decide) (by decide) (by decide) (fun _ => rfl) (fun _ => rfl) wd_644 wd_430 wd_15 (by decide +kernel) (z_row hX7_answered_0 12 rfl) (z_row hX7_answered_0 13 rfl) (z_row hX7_answered_0 14 rfl) (z_row hX7_answered_0 15 rfl) (z_row hX7_answered_0 16 rfl) (by decide) (Nat.le_of_ble_eq_true rfl)
  refine z_tabI hk (z_row hX7_answered_0 1 rfl) (c := -2) (tgt := 47) (by decide) (by decide) rfl rfl ?_ (fun hn3 => ?_)
  · exact z_throwW hk ht (is := 401) (text := "an argument is out of range") (kx := 2) (by decide) (by decide) (by decide) (fun _ => rfl) (fun _ => rfl) wd_398 wd_353 wd_14 (by decide +kernel) (z_row hX7_answered_0 7 rfl) (z_row hX7_answered_0 8 rfl) (z_row hX7_answered_0 9 rfl) (z_row hX7_answered_0 10 rfl) (z_row hX7_answered_0 11 rfl) (by decide) (Nat.le_of_ble_eq_true rfl)
  refine z_tabI hk (z_row hX7_answered_0 1 rfl) (c := -1) (tgt := 36) (by decide) (by decide) rfl rfl ?_ (fun hn4 => ?_)
  · exact z_throwW hk ht (is := 407) (text := "no such lot or bidder") (kx := 1) (by decide) (by decide) (by decide) (fun _ => rfl) (fun _ => rfl) wd_643 wd_515 wd_17 (by decide +kernel) (z_row hX7_answered_0 2 rfl) (z_row hX7_answered_0 3 rfl) (z_row hX7_answered_0 4 rfl) (z_row hX7_answered_0 5 rfl) (z_row hX7_answered_0 6 rfl) (by decide) (Nat.le_of_ble_eq_true rfl)
  have hi0 := z_ne_toInt hn0 (n := -5) (by decide)
  have hi1 := z_ne_toInt hn1 (n := -4) (by decide)
  have hi2 := z_ne_toInt hn2 (n := -3) (by decide)
  have hi3 := z_ne_toInt hn3 (n := -2) (by decide)
  have hi4 := z_ne_toInt hn4 (n := -1) (by decide)
  refine z_tabO hk (z_row hX7_answered_0 1 rfl) (tgt := 90) (by omega) rfl ?_
  refine z_run hk hX7_answered_0 27 1 (pc' := 91) (lv' := [some (.inl a0)]) (st' := [.inl a0]) rfl ?_
  exact z_iret hk he (z_row hX7_answered_0 28 rfl) rfl
theorem kX7_answered {n : Nat} {own : String} {cc : ByteArray} {nL h index : Nat} {α : Type} {fin : α → zO} {σ : zW} {pc : Nat} {lv : zLV} {st : List zV} {a0 : Int32} {c : Int32 → zW → Option α} {t : Nat → zW → Option α} (F : zFx E) (hk : zk E K own cc nL h) (hd : decode cc pc = .ok (.invokestatic index, 3)) (hl : Cond.methodLink own index qX7_answered ∈ lw_tbl) (hh : 6 + 1 ≤ h) (hs : zcat st ≤ 8) (k : ∀ v s, zG E K fin (c v s) s (pc + 3) lv (.inl v :: st)) (kt : ∀ kx s, zT E K fin (t kx s) kx s pc lv) : zG E K fin (zbx (fX7_answered n a0 σ) c t) σ pc lv (.inl a0 :: st) :=
  z_qT (n := 1) (y := qX7_answered) (As := [.inl a0]) hk hd hl wd_641 wd_1 wd_642 ⟨by decide, by decide, by decide +kernel⟩ ⟨hh, by decide⟩ rfl (fun o ho => mX7_answered F n a0 σ o ho) hs k kt
abbrev qX7_order : MethodName := { cls := "LotSales", name := "order", desc := "(III)I" }
def fX7_order (n : Nat) (a0 : Nat) (a1 : Int32) (a2 : Int32) (a3 : Int32) (σ : zW) : Option ((Int32 ⊕ Nat) × zW) := zck σ 8 a0 (zb2 (fX7_tryOrder n a0 a1 a2 a3 σ) fun x1 σ2 => zbx (fX7_answered n x1 σ2) (fun x3 σ4 => some (.inl x3, σ4)) (fun e5 σ6 => some (.inr e5, σ6)))
theorem mX7_order (F : zFx E) (n : Nat) (a0 : Nat) (a1 : Int32) (a2 : Int32) (a3 : Int32) (σ : zW) (o : (Int32 ⊕ Nat) × zW) (hf : fX7_order n a0 a1 a2 a3 σ = some o) : zMX E qX7_order (.code qX7_order cX7_order 4 (some .int)) 7 [.inr (.inl a0), .inl a1, .inl a2, .inl a3] σ (zfT o) := by
  refine zMX_of (fin := zfT) F (by decide +kernel) rfl (Nat.le_of_ble_eq_true rfl) (lv0 := [some (.inr (.inl a0)), some (.inl a1), some (.inl a2), some (.inl a3)]) rfl hf rfl (fun K hk he ht => ?_)
  have hk : zk E K "LotSales" cX7_order 4 7 := hk
  unfold fX7_order
  refine z_run hk hX7_order_0 0 4 (pc' := 4) (lv' := [some (.inr (.inl a0)), some (.inl a1), some (.inl a2), some (.inl a3)]) (st' := [.inl a3, .inl a2, .inl a1, .inr (.inl a0)]) rfl ?_
  refine kX7_tryOrder F hk (z_row hX7_order_0 4 rfl) wd_615 (by decide) (Nat.le_of_ble_eq_true rfl) (fun x1 σ2 => ?_)
  refine kX7_answered F hk (z_row hX7_order_0 5 rfl) wd_640 (by decide) (Nat.le_of_ble_eq_true rfl) (fun x3 σ4 => ?_) (fun e5 σ6 => ?_)
  · exact z_iret hk he (z_row hX7_order_0 6 rfl) rfl
  · exact z_out hk ht rfl
theorem kX7_order {n : Nat} {own : String} {cc : ByteArray} {nL h index : Nat} {α : Type} {fin : α → zO} {σ : zW} {pc : Nat} {lv : zLV} {st : List zV} {a0 : Nat} {a1 : Int32} {a2 : Int32} {a3 : Int32} {c : Int32 → zW → Option α} {t : Nat → zW → Option α} (F : zFx E) (hk : zk E K own cc nL h) (hd : decode cc pc = .ok (.invokevirtual index, 3)) (hl : Cond.methodLink own index qX7_order ∈ lw_tbl) (hh : 7 + 1 ≤ h) (hs : zcat st ≤ 8) (k : ∀ v s, zG E K fin (c v s) s (pc + 3) lv (.inl v :: st)) (kt : ∀ kx s, zT E K fin (t kx s) kx s pc lv) : zG E K fin (zck σ 8 a0 (zbx (fX7_order n a0 a1 a2 a3 σ) c t)) σ pc lv (.inl a3 :: .inl a2 :: .inl a1 :: .inr (.inl a0) :: st) :=
  z_vT (n := 3) (y := qX7_order) (As := [.inl a1, .inl a2, .inl a3]) hk hd hl wd_612 wd_613 wd_1 wd_614 ⟨by decide, by decide, by decide +kernel⟩ ⟨hh, by decide⟩ (ci := 7) rfl rfl rfl (fun o ho => mX7_order F n a0 a1 a2 a3 σ o ho) hs k kt
abbrev qX7_tryCancel : MethodName := { cls := "LotSales", name := "tryCancel", desc := "(II)I" }
def sX7_tryCancel_18 (n : Nat) (σ : zW) : Option (Int32 × zW) := some ((-1), σ)
def fX7_tryCancel (n : Nat) (a0 : Nat) (a1 : Int32) (a2 : Int32) (σ : zW) : Option (Int32 × zW) := zgR σ 8 a0 0 fun x1 => zck σ 4 x1 (zb (fX3_has n x1 a1 σ) fun x2 => if x2 = 0 then sX7_tryCancel_18 n σ else zb (fX7_isBidder n a2 σ) fun x3 => if x3 = 0 then sX7_tryCancel_18 n σ else zgR σ 8 a0 0 fun x4 => zgR σ 4 x4 3 fun x5 => zaR σ 25 x5 a1 fun x6 => zgR σ 3 x6 0 fun x7 => zaI σ x7 a2 fun x8 => if x8 = 0 then some ((-4), σ) else zgI σ 3 x6 4 fun x9 => if x9 = 0 then zgR σ 8 a0 2 fun x10 => zgR σ 8 a0 0 fun x11 => zck σ 1 x10 (zb (fX0_keep n x10 x11 σ) fun σ12 => zck σ12 3 x6 (zb (fX2_putOrder n x6 a2 0 0 σ12) fun σ13 => zgR σ13 8 a0 0 fun x14 => zgR σ13 4 x14 4 fun x15 => zck σ13 2 x15 (zb (fX1_note n x15 9 a1 a2 x8 σ13) fun σ16 => some (x8, σ16)))) else some ((-3), σ))
theorem gsX7_tryCancel_18 (F : zFx E) (n : Nat) (hk : zk E K "LotSales" cX7_tryCancel 5 5) (he : zend E K (some .int) "tryCancel") (σ : zW) : zG E K zfW (sX7_tryCancel_18 n σ) σ 18 [none, none, none, none, none] [] := by
  unfold sX7_tryCancel_18
  refine z_run hk hX7_tryCancel_0 8 1 (pc' := 19) (lv' := [none, none, none, none, none]) (st' := [.inl (-1)]) rfl ?_
  exact z_iret hk he (z_row hX7_tryCancel_0 9 rfl) rfl
theorem mX7_tryCancel (F : zFx E) (n : Nat) (a0 : Nat) (a1 : Int32) (a2 : Int32) (σ : zW) (o : Int32 × zW) (hf : fX7_tryCancel n a0 a1 a2 σ = some o) : zM E qX7_tryCancel cX7_tryCancel 5 (some .int) 5 [.inr (.inl a0), .inl a1, .inl a2] σ (some (.int o.1)) o.2 := by
  refine zM_of (fin := zfW) F (by decide +kernel) rfl (Nat.le_of_ble_eq_true rfl) (lv0 := [some (.inr (.inl a0)), some (.inl a1), some (.inl a2), none, none]) rfl hf rfl (fun K hk he => ?_)
  have hk : zk E K "LotSales" cX7_tryCancel 5 5 := hk
  unfold fX7_tryCancel
  refine z_run hk hX7_tryCancel_0 0 1 (pc' := 1) (lv' := [some (.inr (.inl a0)), some (.inl a1), some (.inl a2), none, none]) (st' := [.inr (.inl a0)]) rfl ?_
  refine z_gR hk 0 (z_row hX7_tryCancel_0 1 rfl) (ci := 7) rfl rfl wd_268 (fun x1 => ?_)
  refine z_run hk hX7_tryCancel_0 2 1 (pc' := 5) (lv' := [some (.inr (.inl a0)), some (.inl a1), some (.inl a2), none, none]) (st' := [.inl a1, .inr (.inl x1)]) rfl ?_
  refine kX3_has F hk (z_row hX7_tryCancel_0 3 rfl) wd_514 (by decide) (Nat.le_of_ble_eq_true rfl) (fun x2 => ?_)
  refine z_eq hk (z_row hX7_tryCancel_0 4 rfl) (tgt := 18) rfl ?_ ?_
  · refine z_mask [false, false, false, false, false] rfl ?_
    exact gsX7_tryCancel_18 F n hk he σ
  · refine z_run hk hX7_tryCancel_0 5 1 (pc' := 12) (lv' := [some (.inr (.inl a0)), some (.inl a1), some (.inl a2), none, none]) (st' := [.inl a2]) rfl ?_
    refine kX7_isBidder F hk (z_row hX7_tryCancel_0 6 rfl) wd_602 (by decide) (Nat.le_of_ble_eq_true rfl) (fun x3 => ?_)
    refine z_ne hk (z_row hX7_tryCancel_0 7 rfl) (tgt := 20) rfl ?_ ?_
    · refine z_run hk hX7_tryCancel_0 10 1 (pc' := 21) (lv' := [some (.inr (.inl a0)), some (.inl a1), some (.inl a2), none, none]) (st' := [.inr (.inl a0)]) rfl ?_
      refine z_gR hk 0 (z_row hX7_tryCancel_0 11 rfl) (ci := 7) rfl rfl wd_268 (fun x4 => ?_)
      refine z_gR hk 3 (z_row hX7_tryCancel_0 12 rfl) (ci := 3) rfl rfl wd_167 (fun x5 => ?_)
      refine z_run hk hX7_tryCancel_0 13 1 (pc' := 28) (lv' := [some (.inr (.inl a0)), some (.inl a1), some (.inl a2), none, none]) (st' := [.inl a1, .inr (.inl x5)]) rfl ?_
      refine z_aR hk (κ := 25) (by decide) (z_row hX7_tryCancel_0 14 rfl) (fun x6 => ?_)
      refine z_run hk hX7_tryCancel_0 15 2 (pc' := 31) (lv' := [some (.inr (.inl a0)), some (.inl a1), some (.inl a2), some (.inr (.inl x6)), none]) (st' := [.inr (.inl x6)]) rfl ?_
      refine z_gR hk 0 (z_row hX7_tryCancel_0 17 rfl) (ci := 2) rfl rfl wd_105 (fun x7 => ?_)
      refine z_run hk hX7_tryCancel_0 18 1 (pc' := 35) (lv' := [some (.inr (.inl a0)), some (.inl a1), some (.inl a2), some (.inr (.inl x6)), none]) (st' := [.inl a2, .inr (.inl x7)]) rfl ?_
      refine z_aI hk (z_row hX7_tryCancel_0 19 rfl) (fun x8 => ?_)
      refine z_run hk hX7_tryCancel_0 20 2 (pc' := 40) (lv' := [some (.inr (.inl a0)), some (.inl a1), some (.inl a2), some (.inr (.inl x6)), some (.inl x8)]) (st' := [.inl x8]) rfl ?_
      refine z_ne hk (z_row hX7_tryCancel_0 22 rfl) (tgt := 46) rfl ?_ ?_
      · refine z_run hk hX7_tryCancel_0 25 1 (pc' := 47) (lv' := [some (.inr (.inl a0)), some (.inl a1), some (.inl a2), some (.inr (.inl x6)), some (.inl x8)]) (st' := [.inr (.inl x6)]) rfl ?_
        refine z_gI hk 4 (z_row hX7_tryCancel_0 26 rfl) (ci := 2) rfl rfl wd_113 (fun x9 => ?_)
        refine z_eq hk (z_row hX7_tryCancel_0 27 rfl) (tgt := 56) rfl ?_ ?_
        · refine z_run hk hX7_tryCancel_0 30 1 (pc' := 57) (lv' := [some (.inr (.inl a0)), some (.inl a1), some (.inl a2), some (.inr (.inl x6)), some (.inl x8)]) (st' := [.inr (.inl a0)]) rfl ?_
          refine z_gR hk 2 (z_row hX7_tryCancel_0 31 rfl) (ci := 7) rfl rfl wd_270 (fun x10 => ?_)
          refine z_run hk hX7_tryCancel_0 32 1 (pc' := 61) (lv' := [some (.inr (.inl a0)), some (.inl a1), some (.inl a2), some (.inr (.inl x6)), some (.inl x8)]) (st' := [.inr (.inl a0), .inr (.inl x10)]) rfl ?_
          refine z_gR hk 0 (z_row hX7_tryCancel_0 33 rfl) (ci := 7) rfl rfl wd_268 (fun x11 => ?_)
          refine kX0_keep F hk (z_row hX7_tryCancel_0 34 rfl) wd_446 (by decide) (Nat.le_of_ble_eq_true rfl) (fun σ12 => ?_)
          refine z_run hk hX7_tryCancel_0 35 4 (pc' := 71) (lv' := [some (.inr (.inl a0)), some (.inl a1), some (.inl a2), some (.inr (.inl x6)), some (.inl x8)]) (st' := [.inl 0, .inl 0, .inl a2, .inr (.inl x6)]) rfl ?_
          refine kX2_putOrder F hk (z_row hX7_tryCancel_0 39 rfl) wd_635 (by decide) (Nat.le_of_ble_eq_true rfl) (fun σ13 => ?_)
          refine z_run hk hX7_tryCancel_0 40 1 (pc' := 75) (lv' := [some (.inr (.inl a0)), some (.inl a1), some (.inl a2), some (.inr (.inl x6)), some (.inl x8)]) (st' := [.inr (.inl a0)]) rfl ?_
          refine z_gR hk 0 (z_row hX7_tryCancel_0 41 rfl) (ci := 7) rfl rfl wd_268 (fun x14 => ?_)
          refine z_gR hk 4 (z_row hX7_tryCancel_0 42 rfl) (ci := 3) rfl rfl wd_169 (fun x15 => ?_)
          refine z_run hk hX7_tryCancel_0 43 4 (pc' := 87) (lv' := [some (.inr (.inl a0)), some (.inl a1), some (.inl a2), some (.inr (.inl x6)), some (.inl x8)]) (st' := [.inl x8, .inl a2, .inl a1, .inl 9, .inr (.inl x15)]) rfl ?_
          refine kX1_note F hk (z_row hX7_tryCancel_0 47 rfl) wd_636 (by decide) (Nat.le_of_ble_eq_true rfl) (fun σ16 => ?_)
          refine z_run hk hX7_tryCancel_0 48 1 (pc' := 92) (lv' := [some (.inr (.inl a0)), some (.inl a1), some (.inl a2), some (.inr (.inl x6)), some (.inl x8)]) (st' := [.inl x8]) rfl ?_
          exact z_iret hk he (z_row hX7_tryCancel_0 49 rfl) rfl
        · refine z_run hk hX7_tryCancel_0 28 1 (pc' := 55) (lv' := [some (.inr (.inl a0)), some (.inl a1), some (.inl a2), some (.inr (.inl x6)), some (.inl x8)]) (st' := [.inl (-3)]) rfl ?_
          exact z_iret hk he (z_row hX7_tryCancel_0 29 rfl) rfl
      · refine z_run hk hX7_tryCancel_0 23 1 (pc' := 45) (lv' := [some (.inr (.inl a0)), some (.inl a1), some (.inl a2), some (.inr (.inl x6)), some (.inl x8)]) (st' := [.inl (-4)]) rfl ?_
        exact z_iret hk he (z_row hX7_tryCancel_0 24 rfl) rfl
    · refine z_mask [false, false, false, false, false] rfl ?_
      exact gsX7_tryCancel_18 F n hk he σ
theorem kX7_tryCancel {n : Nat} {own : String} {cc : ByteArray} {nL h index : Nat} {α : Type} {fin : α → zO} {σ : zW} {pc : Nat} {lv : zLV} {st : List zV} {a0 : Nat} {a1 : Int32} {a2 : Int32} {c : Int32 → zW → Option α} (F : zFx E) (hk : zk E K own cc nL h) (hd : decode cc pc = .ok (.invokevirtual index, 3)) (hl : Cond.methodLink own index qX7_tryCancel ∈ lw_tbl) (hh : 5 + 1 ≤ h) (hs : zcat st ≤ 8) (k : ∀ v s, zG E K fin (c v s) s (pc + 3) lv (.inl v :: st)) : zG E K fin (zck σ 8 a0 (zb2 (fX7_tryCancel n a0 a1 a2 σ) c)) σ pc lv (.inl a2 :: .inl a1 :: .inr (.inl a0) :: st) :=
  z_vW (n := 2) (y := qX7_tryCancel) (As := [.inl a1, .inl a2]) hk hd hl wd_687 ws_5 wd_1 wd_688 ⟨by decide, by decide, by decide +kernel⟩ ⟨hh, by decide⟩ (ci := 7) rfl rfl rfl (fun o ho => mX7_tryCancel F n a0 a1 a2 σ o ho) hs k
abbrev qX7_cancel : MethodName := { cls := "LotSales", name := "cancel", desc := "(II)I" }
def fX7_cancel (n : Nat) (a0 : Nat) (a1 : Int32) (a2 : Int32) (σ : zW) : Option ((Int32 ⊕ Nat) × zW) := zck σ 8 a0 (zb2 (fX7_tryCancel n a0 a1 a2 σ) fun x1 σ2 => zbx (fX7_answered n x1 σ2) (fun x3 σ4 => some (.inl x3, σ4)) (fun e5 σ6 => some (.inr e5, σ6)))
theorem mX7_cancel (F : zFx E) (n : Nat) (a0 : Nat) (a1 : Int32) (a2 : Int32) (σ : zW) (o : (Int32 ⊕ Nat) × zW) (hf : fX7_cancel n a0 a1 a2 σ = some o) : zMX E qX7_cancel (.code qX7_cancel cX7_cancel 3 (some .int)) 7 [.inr (.inl a0), .inl a1, .inl a2] σ (zfT o) := by
  refine zMX_of (fin := zfT) F (by decide +kernel) rfl (Nat.le_of_ble_eq_true rfl) (lv0 := [some (.inr (.inl a0)), some (.inl a1), some (.inl a2)]) rfl hf rfl (fun K hk he ht => ?_)
  have hk : zk E K "LotSales" cX7_cancel 3 7 := hk
  unfold fX7_cancel
  refine z_run hk hX7_cancel_0 0 3 (pc' := 3) (lv' := [some (.inr (.inl a0)), some (.inl a1), some (.inl a2)]) (st' := [.inl a2, .inl a1, .inr (.inl a0)]) rfl ?_
  refine kX7_tryCancel F hk (z_row hX7_cancel_0 3 rfl) wd_685 (by decide) (Nat.le_of_ble_eq_true rfl) (fun x1 σ2 => ?_)
  refine kX7_answered F hk (z_row hX7_cancel_0 4 rfl) wd_640 (by decide) (Nat.le_of_ble_eq_true rfl) (fun x3 σ4 => ?_) (fun e5 σ6 => ?_)
  · exact z_iret hk he (z_row hX7_cancel_0 5 rfl) rfl
  · exact z_out hk ht rfl
theorem kX7_cancel {n : Nat} {own : String} {cc : ByteArray} {nL h index : Nat} {α : Type} {fin : α → zO} {σ : zW} {pc : Nat} {lv : zLV} {st : List zV} {a0 : Nat} {a1 : Int32} {a2 : Int32} {c : Int32 → zW → Option α} {t : Nat → zW → Option α} (F : zFx E) (hk : zk E K own cc nL h) (hd : decode cc pc = .ok (.invokevirtual index, 3)) (hl : Cond.methodLink own index qX7_cancel ∈ lw_tbl) (hh : 7 + 1 ≤ h) (hs : zcat st ≤ 8) (k : ∀ v s, zG E K fin (c v s) s (pc + 3) lv (.inl v :: st)) (kt : ∀ kx s, zT E K fin (t kx s) kx s pc lv) : zG E K fin (zck σ 8 a0 (zbx (fX7_cancel n a0 a1 a2 σ) c t)) σ pc lv (.inl a2 :: .inl a1 :: .inr (.inl a0) :: st) :=
  z_vT (n := 2) (y := qX7_cancel) (As := [.inl a1, .inl a2]) hk hd hl wd_682 wd_683 wd_1 wd_684 ⟨by decide, by decide, by decide +kernel⟩ ⟨hh, by decide⟩ (ci := 7) rfl rfl rfl (fun o ho => mX7_cancel F n a0 a1 a2 σ o ho) hs k kt
abbrev qX7_maximum : MethodName := { cls := "LotSales", name := "maximum", desc := "(II)I" }
def fX7_maximum (n : Nat) (a0 : Nat) (a1 : Int32) (a2 : Int32) (σ : zW) : Option ((Int32 ⊕ Nat) × zW) := zck σ 8 a0 (zbx (fX7_needLot n a0 a1 σ) (fun _ σ2 => zbx (fX7_needBidder n a2 σ2) (fun _ σ6 => zgR σ6 8 a0 0 fun x9 => zgR σ6 4 x9 3 fun x10 => zaR σ6 25 x10 a1 fun x11 => zgR σ6 3 x11 0 fun x12 => zaI σ6 x12 a2 fun x13 => if x13 = 0 then zth σ6 fun σ14 => some (.inr 4, σ14) else some (.inl x13, σ6)) (fun e7 σ8 => some (.inr e7, σ8))) (fun e3 σ4 => some (.inr e3, σ4)))
theorem mX7_maximum (F : zFx E) (n : Nat) (a0 : Nat) (a1 : Int32) (a2 : Int32) (σ : zW) (o : (Int32 ⊕ Nat) × zW) (hf : fX7_maximum n a0 a1 a2 σ = some o) : zMX E qX7_maximum (.code qX7_maximum cX7_maximum 4 (some .int)) 7 [.inr (.inl a0), .inl a1, .inl a2] σ (zfT o) := by
  refine zMX_of (fin := zfT) F (by decide +kernel) rfl (Nat.le_of_ble_eq_true rfl) (lv0 := [some (.inr (.inl a0)), some (.inl a1), some (.inl a2), none]) rfl hf rfl (fun K hk he ht => ?_)
  have hk : zk E K "LotSales" cX7_maximum 4 7 := hk
  unfold fX7_maximum
  refine z_run hk hX7_maximum_0 0 2 (pc' := 2) (lv' := [some (.inr (.inl a0)), some (.inl a1), some (.inl a2), none]) (st' := [.inl a1, .inr (.inl a0)]) rfl ?_
  refine kX7_needLot F hk (z_row hX7_maximum_0 2 rfl) wd_510 (by decide) (Nat.le_of_ble_eq_true rfl) (fun x1 σ2 => ?_) (fun e3 σ4 => ?_)
  · refine z_run hk hX7_maximum_0 3 1 (pc' := 6) (lv' := [some (.inr (.inl a0)), some (.inl a1), some (.inl a2), none]) (st' := [.inl a2]) rfl ?_
    refine kX7_needBidder F hk (z_row hX7_maximum_0 4 rfl) wd_599 (by decide) (Nat.le_of_ble_eq_true rfl) (fun x5 σ6 => ?_) (fun e7 σ8 => ?_)
    · refine z_run hk hX7_maximum_0 5 1 (pc' := 10) (lv' := [some (.inr (.inl a0)), some (.inl a1), some (.inl a2), none]) (st' := [.inr (.inl a0)]) rfl ?_
      refine z_gR hk 0 (z_row hX7_maximum_0 6 rfl) (ci := 7) rfl rfl wd_268 (fun x9 => ?_)
      refine z_gR hk 3 (z_row hX7_maximum_0 7 rfl) (ci := 3) rfl rfl wd_167 (fun x10 => ?_)
      refine z_run hk hX7_maximum_0 8 1 (pc' := 17) (lv' := [some (.inr (.inl a0)), some (.inl a1), some (.inl a2), none]) (st' := [.inl a1, .inr (.inl x10)]) rfl ?_
      refine z_aR hk (κ := 25) (by decide) (z_row hX7_maximum_0 9 rfl) (fun x11 => ?_)
      refine z_gR hk 0 (z_row hX7_maximum_0 10 rfl) (ci := 2) rfl rfl wd_105 (fun x12 => ?_)
      refine z_run hk hX7_maximum_0 11 1 (pc' := 22) (lv' := [some (.inr (.inl a0)), some (.inl a1), some (.inl a2), none]) (st' := [.inl a2, .inr (.inl x12)]) rfl ?_
      refine z_aI hk (z_row hX7_maximum_0 12 rfl) (fun x13 => ?_)
      refine z_run hk hX7_maximum_0 13 2 (pc' := 25) (lv' := [some (.inr (.inl a0)), some (.inl a1), some (.inl a2), some (.inl x13)]) (st' := [.inl x13]) rfl ?_
      refine z_ne hk (z_row hX7_maximum_0 15 rfl) (tgt := 38) rfl ?_ ?_
      · refine z_run hk hX7_maximum_0 21 1 (pc' := 39) (lv' := [some (.inr (.inl a0)), some (.inl a1), some (.inl a2), some (.inl x13)]) (st' := [.inl x13]) rfl ?_
        exact z_iret hk he (z_row hX7_maximum_0 22 rfl) rfl
      · exact z_throw4 hk ht (is := 163) (text := "no such order") (fun _ => rfl) (fun _ => rfl) wd_654 wd_645 wd_20 (by decide +kernel) (z_row hX7_maximum_0 16 rfl) (z_row hX7_maximum_0 17 rfl) (z_row hX7_maximum_0 18 rfl) (z_row hX7_maximum_0 19 rfl) (z_row hX7_maximum_0 20 rfl) (by decide) (Nat.le_of_ble_eq_true rfl)
    · exact z_out hk ht rfl
  · exact z_out hk ht rfl
theorem kX7_maximum {n : Nat} {own : String} {cc : ByteArray} {nL h index : Nat} {α : Type} {fin : α → zO} {σ : zW} {pc : Nat} {lv : zLV} {st : List zV} {a0 : Nat} {a1 : Int32} {a2 : Int32} {c : Int32 → zW → Option α} {t : Nat → zW → Option α} (F : zFx E) (hk : zk E K own cc nL h) (hd : decode cc pc = .ok (.invokevirtual index, 3)) (hl : Cond.methodLink own index qX7_maximum ∈ lw_tbl) (hh : 7 + 1 ≤ h) (hs : zcat st ≤ 8) (k : ∀ v s, zG E K fin (c v s) s (pc + 3) lv (.inl v :: st)) (kt : ∀ kx s, zT E K fin (t kx s) kx s pc lv) : zG E K fin (zck σ 8 a0 (zbx (fX7_maximum n a0 a1 a2 σ) c t)) σ pc lv (.inl a2 :: .inl a1 :: .inr (.inl a0) :: st) :=
  z_vT (n := 2) (y := qX7_maximum) (As := [.inl a1, .inl a2]) hk hd hl wd_693 wd_694 wd_1 wd_695 ⟨by decide, by decide, by decide +kernel⟩ ⟨hh, by decide⟩ (ci := 7) rfl rfl rfl (fun o ho => mX7_maximum F n a0 a1 a2 σ o ho) hs k kt
abbrev qX7_orders : MethodName := { cls := "LotSales", name := "orders", desc := "(I)I" }
def fX7_orders (n : Nat) (a0 : Nat) (a1 : Int32) (σ : zW) : Option ((Int32 ⊕ Nat) × zW) := if a1 = (-1) then zgR σ 8 a0 0 fun x9 => zck σ 4 x9 (zb (fX3_orderCount n x9 σ) fun x10 => some (.inl x10, σ)) else zck σ 8 a0 (zbx (fX7_needLot n a0 a1 σ) (fun _ σ2 => zgR σ2 8 a0 0 fun x5 => zgR σ2 4 x5 3 fun x6 => zaR σ2 25 x6 a1 fun x7 => zck σ2 3 x7 (zb (fX2_orderCount n x7 σ2) fun x8 => some (.inl x8, σ2))) (fun e3 σ4 => some (.inr e3, σ4)))
theorem mX7_orders (F : zFx E) (n : Nat) (a0 : Nat) (a1 : Int32) (σ : zW) (o : (Int32 ⊕ Nat) × zW) (hf : fX7_orders n a0 a1 σ = some o) : zMX E qX7_orders (.code qX7_orders cX7_orders 2 (some .int)) 7 [.inr (.inl a0), .inl a1] σ (zfT o) := by
  refine zMX_of (fin := zfT) F (by decide +kernel) rfl (Nat.le_of_ble_eq_true rfl) (lv0 := [some (.inr (.inl a0)), some (.inl a1)]) rfl hf rfl (fun K hk he ht => ?_)
  have hk : zk E K "LotSales" cX7_orders 2 7 := hk
  unfold fX7_orders
  refine z_run hk hX7_orders_0 0 2 (pc' := 2) (lv' := [some (.inr (.inl a0)), some (.inl a1)]) (st' := [.inl (-1), .inl a1]) rfl ?_
  refine z_cne hk (z_row hX7_orders_0 2 rfl) (tgt := 13) rfl ?_ ?_
  · refine z_run hk hX7_orders_0 7 2 (pc' := 15) (lv' := [some (.inr (.inl a0)), some (.inl a1)]) (st' := [.inl a1, .inr (.inl a0)]) rfl ?_
    refine kX7_needLot F hk (z_row hX7_orders_0 9 rfl) wd_510 (by decide) (Nat.le_of_ble_eq_true rfl) (fun x1 σ2 => ?_) (fun e3 σ4 => ?_)
    · refine z_run hk hX7_orders_0 10 1 (pc' := 19) (lv' := [some (.inr (.inl a0)), some (.inl a1)]) (st' := [.inr (.inl a0)]) rfl ?_
      refine z_gR hk 0 (z_row hX7_orders_0 11 rfl) (ci := 7) rfl rfl wd_268 (fun x5 => ?_)
      refine z_gR hk 3 (z_row hX7_orders_0 12 rfl) (ci := 3) rfl rfl wd_167 (fun x6 => ?_)
      refine z_run hk hX7_orders_0 13 1 (pc' := 26) (lv' := [some (.inr (.inl a0)), some (.inl a1)]) (st' := [.inl a1, .inr (.inl x6)]) rfl ?_
      refine z_aR hk (κ := 25) (by decide) (z_row hX7_orders_0 14 rfl) (fun x7 => ?_)
      refine kX2_orderCount F hk (z_row hX7_orders_0 15 rfl) wd_703 (by decide) (Nat.le_of_ble_eq_true rfl) (fun x8 => ?_)
      exact z_iret hk he (z_row hX7_orders_0 16 rfl) rfl
    · exact z_out hk ht rfl
  · refine z_run hk hX7_orders_0 3 1 (pc' := 6) (lv' := [some (.inr (.inl a0)), some (.inl a1)]) (st' := [.inr (.inl a0)]) rfl ?_
    refine z_gR hk 0 (z_row hX7_orders_0 4 rfl) (ci := 7) rfl rfl wd_268 (fun x9 => ?_)
    refine kX3_orderCount F hk (z_row hX7_orders_0 5 rfl) wd_623 (by decide) (Nat.le_of_ble_eq_true rfl) (fun x10 => ?_)
    exact z_iret hk he (z_row hX7_orders_0 6 rfl) rfl
theorem kX7_orders {n : Nat} {own : String} {cc : ByteArray} {nL h index : Nat} {α : Type} {fin : α → zO} {σ : zW} {pc : Nat} {lv : zLV} {st : List zV} {a0 : Nat} {a1 : Int32} {c : Int32 → zW → Option α} {t : Nat → zW → Option α} (F : zFx E) (hk : zk E K own cc nL h) (hd : decode cc pc = .ok (.invokevirtual index, 3)) (hl : Cond.methodLink own index qX7_orders ∈ lw_tbl) (hh : 7 + 1 ≤ h) (hs : zcat st ≤ 8) (k : ∀ v s, zG E K fin (c v s) s (pc + 3) lv (.inl v :: st)) (kt : ∀ kx s, zT E K fin (t kx s) kx s pc lv) : zG E K fin (zck σ 8 a0 (zbx (fX7_orders n a0 a1 σ) c t)) σ pc lv (.inl a1 :: .inr (.inl a0) :: st) :=
  z_vT (n := 1) (y := qX7_orders) (As := [.inl a1]) hk hd hl wd_700 wd_701 wd_1 wd_702 ⟨by decide, by decide, by decide +kernel⟩ ⟨hh, by decide⟩ (ci := 7) rfl rfl rfl (fun o ho => mX7_orders F n a0 a1 σ o ho) hs k kt
abbrev qX7_tryOpen : MethodName := { cls := "LotSales", name := "tryOpen", desc := "(I)I" }
def fX7_tryOpen (n : Nat) (a0 : Nat) (a1 : Int32) (σ : zW) : Option (Int32 × zW) := zgR σ 8 a0 0 fun x1 => zck σ 4 x1 (zb (fX3_has n x1 a1 σ) fun x2 => if x2 = 0 then some ((-1), σ) else zgR σ 8 a0 0 fun x3 => zgR σ 4 x3 3 fun x4 => zaR σ 25 x4 a1 fun x5 => zgI σ 3 x5 4 fun x6 => if x6 = 0 then zgR σ 8 a0 2 fun x7 => zgR σ 8 a0 0 fun x8 => zck σ 1 x7 (zb (fX0_keep n x7 x8 σ) fun σ9 => zpI σ9 3 x5 4 1 fun σ10 => zgI σ10 3 x5 8 fun x11 => zpI σ10 3 x5 8 (x11 + 1) fun σ12 => zck σ12 3 x5 (zb (fX2_removeBids n x5 σ12) fun σ13 => zgR σ13 8 a0 0 fun x14 => zgR σ13 4 x14 4 fun x15 => zck σ13 2 x15 (zb (fX1_note n x15 1 a1 (-1) 0 σ13) fun σ16 => zgR σ16 8 a0 1 fun x17 => zgR σ16 8 a0 0 fun x18 => zgR σ16 4 x18 0 fun x19 => zck σ16 5 x17 (zb (fX4_settle n x17 x5 x19 σ16) fun σ20 => zgR σ20 8 a0 1 fun x21 => zgR σ20 8 a0 0 fun x22 => zgR σ20 4 x22 0 fun x23 => zck σ20 5 x21 (zb (fX4_price n x21 x23 σ20) fun x24 => some (x24, σ20)))))) else some ((-3), σ))
theorem mX7_tryOpen (F : zFx E) (n : Nat) (a0 : Nat) (a1 : Int32) (σ : zW) (o : Int32 × zW) (hf : fX7_tryOpen n a0 a1 σ = some o) : zM E qX7_tryOpen cX7_tryOpen 3 (some .int) 5 [.inr (.inl a0), .inl a1] σ (some (.int o.1)) o.2 := by
  refine zM_of (fin := zfW) F (by decide +kernel) rfl (Nat.le_of_ble_eq_true rfl) (lv0 := [some (.inr (.inl a0)), some (.inl a1), none]) rfl hf rfl (fun K hk he => ?_)
  have hk : zk E K "LotSales" cX7_tryOpen 3 5 := hk
  unfold fX7_tryOpen
  refine z_run hk hX7_tryOpen_0 0 1 (pc' := 1) (lv' := [some (.inr (.inl a0)), some (.inl a1), none]) (st' := [.inr (.inl a0)]) rfl ?_
  refine z_gR hk 0 (z_row hX7_tryOpen_0 1 rfl) (ci := 7) rfl rfl wd_268 (fun x1 => ?_)
  refine z_run hk hX7_tryOpen_0 2 1 (pc' := 5) (lv' := [some (.inr (.inl a0)), some (.inl a1), none]) (st' := [.inl a1, .inr (.inl x1)]) rfl ?_
  refine kX3_has F hk (z_row hX7_tryOpen_0 3 rfl) wd_514 (by decide) (Nat.le_of_ble_eq_true rfl) (fun x2 => ?_)
  refine z_ne hk (z_row hX7_tryOpen_0 4 rfl) (tgt := 13) rfl ?_ ?_
  · refine z_run hk hX7_tryOpen_0 7 1 (pc' := 14) (lv' := [some (.inr (.inl a0)), some (.inl a1), none]) (st' := [.inr (.inl a0)]) rfl ?_
    refine z_gR hk 0 (z_row hX7_tryOpen_0 8 rfl) (ci := 7) rfl rfl wd_268 (fun x3 => ?_)
    refine z_gR hk 3 (z_row hX7_tryOpen_0 9 rfl) (ci := 3) rfl rfl wd_167 (fun x4 => ?_)
    refine z_run hk hX7_tryOpen_0 10 1 (pc' := 21) (lv' := [some (.inr (.inl a0)), some (.inl a1), none]) (st' := [.inl a1, .inr (.inl x4)]) rfl ?_
    refine z_aR hk (κ := 25) (by decide) (z_row hX7_tryOpen_0 11 rfl) (fun x5 => ?_)
    refine z_run hk hX7_tryOpen_0 12 2 (pc' := 24) (lv' := [some (.inr (.inl a0)), some (.inl a1), some (.inr (.inl x5))]) (st' := [.inr (.inl x5)]) rfl ?_
    refine z_gI hk 4 (z_row hX7_tryOpen_0 14 rfl) (ci := 2) rfl rfl wd_113 (fun x6 => ?_)
    refine z_eq hk (z_row hX7_tryOpen_0 15 rfl) (tgt := 33) rfl ?_ ?_
    · refine z_run hk hX7_tryOpen_0 18 1 (pc' := 34) (lv' := [some (.inr (.inl a0)), some (.inl a1), some (.inr (.inl x5))]) (st' := [.inr (.inl a0)]) rfl ?_
      refine z_gR hk 2 (z_row hX7_tryOpen_0 19 rfl) (ci := 7) rfl rfl wd_270 (fun x7 => ?_)
      refine z_run hk hX7_tryOpen_0 20 1 (pc' := 38) (lv' := [some (.inr (.inl a0)), some (.inl a1), some (.inr (.inl x5))]) (st' := [.inr (.inl a0), .inr (.inl x7)]) rfl ?_
      refine z_gR hk 0 (z_row hX7_tryOpen_0 21 rfl) (ci := 7) rfl rfl wd_268 (fun x8 => ?_)
      refine kX0_keep F hk (z_row hX7_tryOpen_0 22 rfl) wd_446 (by decide) (Nat.le_of_ble_eq_true rfl) (fun σ9 => ?_)
      refine z_run hk hX7_tryOpen_0 23 2 (pc' := 46) (lv' := [some (.inr (.inl a0)), some (.inl a1), some (.inr (.inl x5))]) (st' := [.inl 1, .inr (.inl x5)]) rfl ?_
      refine z_pI hk 4 (z_row hX7_tryOpen_0 25 rfl) (ci := 2) rfl rfl wd_113 rfl rfl rfl (fun σ10 => ?_)
      refine z_run hk hX7_tryOpen_0 26 2 (pc' := 51) (lv' := [some (.inr (.inl a0)), some (.inl a1), some (.inr (.inl x5))]) (st' := [.inr (.inl x5), .inr (.inl x5)]) rfl ?_
      refine z_gI hk 8 (z_row hX7_tryOpen_0 28 rfl) (ci := 2) rfl rfl wd_126 (fun x11 => ?_)
      refine z_run hk hX7_tryOpen_0 29 2 (pc' := 56) (lv' := [some (.inr (.inl a0)), some (.inl a1), some (.inr (.inl x5))]) (st' := [.inl (x11 + 1), .inr (.inl x5)]) rfl ?_
      refine z_pI hk 8 (z_row hX7_tryOpen_0 31 rfl) (ci := 2) rfl rfl wd_126 rfl rfl rfl (fun σ12 => ?_)
      refine z_run hk hX7_tryOpen_0 32 1 (pc' := 60) (lv' := [some (.inr (.inl a0)), some (.inl a1), some (.inr (.inl x5))]) (st' := [.inr (.inl x5)]) rfl ?_
      refine kX2_removeBids F hk (z_row hX7_tryOpen_0 33 rfl) wd_715 (by decide) (Nat.le_of_ble_eq_true rfl) (fun σ13 => ?_)
      refine z_run hk hX7_tryOpen_0 34 1 (pc' := 64) (lv' := [some (.inr (.inl a0)), some (.inl a1), some (.inr (.inl x5))]) (st' := [.inr (.inl a0)]) rfl ?_
      refine z_gR hk 0 (z_row hX7_tryOpen_0 35 rfl) (ci := 7) rfl rfl wd_268 (fun x14 => ?_)
      refine z_gR hk 4 (z_row hX7_tryOpen_0 36 rfl) (ci := 3) rfl rfl wd_169 (fun x15 => ?_)
      refine z_run hk hX7_tryOpen_0 37 4 (pc' := 74) (lv' := [some (.inr (.inl a0)), some (.inl a1), some (.inr (.inl x5))]) (st' := [.inl 0, .inl (-1), .inl a1, .inl 1, .inr (.inl x15)]) rfl ?_
      refine kX1_note F hk (z_row hX7_tryOpen_0 41 rfl) wd_636 (by decide) (Nat.le_of_ble_eq_true rfl) (fun σ16 => ?_)
      refine z_run hk hX7_tryOpen_0 42 1 (pc' := 78) (lv' := [some (.inr (.inl a0)), some (.inl a1), some (.inr (.inl x5))]) (st' := [.inr (.inl a0)]) rfl ?_
      refine z_gR hk 1 (z_row hX7_tryOpen_0 43 rfl) (ci := 7) rfl rfl wd_269 (fun x17 => ?_)
      refine z_run hk hX7_tryOpen_0 44 2 (pc' := 83) (lv' := [some (.inr (.inl a0)), some (.inl a1), some (.inr (.inl x5))]) (st' := [.inr (.inl a0), .inr (.inl x5), .inr (.inl x17)]) rfl ?_
      refine z_gR hk 0 (z_row hX7_tryOpen_0 46 rfl) (ci := 7) rfl rfl wd_268 (fun x18 => ?_)
      refine z_gR hk 0 (z_row hX7_tryOpen_0 47 rfl) (ci := 3) rfl rfl wd_161 (fun x19 => ?_)
      refine kX4_settle F hk (z_row hX7_tryOpen_0 48 rfl) wd_716 (by decide) (Nat.le_of_ble_eq_true rfl) (fun σ20 => ?_)
      refine z_run hk hX7_tryOpen_0 49 1 (pc' := 93) (lv' := [some (.inr (.inl a0)), some (.inl a1), some (.inr (.inl x5))]) (st' := [.inr (.inl a0)]) rfl ?_
      refine z_gR hk 1 (z_row hX7_tryOpen_0 50 rfl) (ci := 7) rfl rfl wd_269 (fun x21 => ?_)
      refine z_run hk hX7_tryOpen_0 51 1 (pc' := 97) (lv' := [some (.inr (.inl a0)), some (.inl a1), some (.inr (.inl x5))]) (st' := [.inr (.inl a0), .inr (.inl x21)]) rfl ?_
      refine z_gR hk 0 (z_row hX7_tryOpen_0 52 rfl) (ci := 7) rfl rfl wd_268 (fun x22 => ?_)
      refine z_gR hk 0 (z_row hX7_tryOpen_0 53 rfl) (ci := 3) rfl rfl wd_161 (fun x23 => ?_)
      refine kX4_price F hk (z_row hX7_tryOpen_0 54 rfl) wd_731 (by decide) (Nat.le_of_ble_eq_true rfl) (fun x24 => ?_)
      exact z_iret hk he (z_row hX7_tryOpen_0 55 rfl) rfl
    · refine z_run hk hX7_tryOpen_0 16 1 (pc' := 32) (lv' := [some (.inr (.inl a0)), some (.inl a1), some (.inr (.inl x5))]) (st' := [.inl (-3)]) rfl ?_
      exact z_iret hk he (z_row hX7_tryOpen_0 17 rfl) rfl
  · refine z_run hk hX7_tryOpen_0 5 1 (pc' := 12) (lv' := [some (.inr (.inl a0)), some (.inl a1), none]) (st' := [.inl (-1)]) rfl ?_
    exact z_iret hk he (z_row hX7_tryOpen_0 6 rfl) rfl
theorem kX7_tryOpen {n : Nat} {own : String} {cc : ByteArray} {nL h index : Nat} {α : Type} {fin : α → zO} {σ : zW} {pc : Nat} {lv : zLV} {st : List zV} {a0 : Nat} {a1 : Int32} {c : Int32 → zW → Option α} (F : zFx E) (hk : zk E K own cc nL h) (hd : decode cc pc = .ok (.invokevirtual index, 3)) (hl : Cond.methodLink own index qX7_tryOpen ∈ lw_tbl) (hh : 5 + 1 ≤ h) (hs : zcat st ≤ 8) (k : ∀ v s, zG E K fin (c v s) s (pc + 3) lv (.inl v :: st)) : zG E K fin (zck σ 8 a0 (zb2 (fX7_tryOpen n a0 a1 σ) c)) σ pc lv (.inl a1 :: .inr (.inl a0) :: st) :=
  z_vW (n := 1) (y := qX7_tryOpen) (As := [.inl a1]) hk hd hl wd_713 ws_6 wd_1 wd_714 ⟨by decide, by decide, by decide +kernel⟩ ⟨hh, by decide⟩ (ci := 7) rfl rfl rfl (fun o ho => mX7_tryOpen F n a0 a1 σ o ho) hs k
abbrev qX7_open : MethodName := { cls := "LotSales", name := "open", desc := "(I)I" }
def fX7_open (n : Nat) (a0 : Nat) (a1 : Int32) (σ : zW) : Option ((Int32 ⊕ Nat) × zW) := zck σ 8 a0 (zb2 (fX7_tryOpen n a0 a1 σ) fun x1 σ2 => zbx (fX7_answered n x1 σ2) (fun x3 σ4 => some (.inl x3, σ4)) (fun e5 σ6 => some (.inr e5, σ6)))
theorem mX7_open (F : zFx E) (n : Nat) (a0 : Nat) (a1 : Int32) (σ : zW) (o : (Int32 ⊕ Nat) × zW) (hf : fX7_open n a0 a1 σ = some o) : zMX E qX7_open (.code qX7_open cX7_open 2 (some .int)) 7 [.inr (.inl a0), .inl a1] σ (zfT o) := by
  refine zMX_of (fin := zfT) F (by decide +kernel) rfl (Nat.le_of_ble_eq_true rfl) (lv0 := [some (.inr (.inl a0)), some (.inl a1)]) rfl hf rfl (fun K hk he ht => ?_)
  have hk : zk E K "LotSales" cX7_open 2 7 := hk
  unfold fX7_open
  refine z_run hk hX7_open_0 0 2 (pc' := 2) (lv' := [some (.inr (.inl a0)), some (.inl a1)]) (st' := [.inl a1, .inr (.inl a0)]) rfl ?_
  refine kX7_tryOpen F hk (z_row hX7_open_0 2 rfl) wd_711 (by decide) (Nat.le_of_ble_eq_true rfl) (fun x1 σ2 => ?_)
  refine kX7_answered F hk (z_row hX7_open_0 3 rfl) wd_640 (by decide) (Nat.le_of_ble_eq_true rfl) (fun x3 σ4 => ?_) (fun e5 σ6 => ?_)
  · exact z_iret hk he (z_row hX7_open_0 4 rfl) rfl
  · exact z_out hk ht rfl
theorem kX7_open {n : Nat} {own : String} {cc : ByteArray} {nL h index : Nat} {α : Type} {fin : α → zO} {σ : zW} {pc : Nat} {lv : zLV} {st : List zV} {a0 : Nat} {a1 : Int32} {c : Int32 → zW → Option α} {t : Nat → zW → Option α} (F : zFx E) (hk : zk E K own cc nL h) (hd : decode cc pc = .ok (.invokevirtual index, 3)) (hl : Cond.methodLink own index qX7_open ∈ lw_tbl) (hh : 7 + 1 ≤ h) (hs : zcat st ≤ 8) (k : ∀ v s, zG E K fin (c v s) s (pc + 3) lv (.inl v :: st)) (kt : ∀ kx s, zT E K fin (t kx s) kx s pc lv) : zG E K fin (zck σ 8 a0 (zbx (fX7_open n a0 a1 σ) c t)) σ pc lv (.inl a1 :: .inr (.inl a0) :: st) :=
  z_vT (n := 1) (y := qX7_open) (As := [.inl a1]) hk hd hl wd_708 wd_709 wd_1 wd_710 ⟨by decide, by decide, by decide +kernel⟩ ⟨hh, by decide⟩ (ci := 7) rfl rfl rfl (fun o ho => mX7_open F n a0 a1 σ o ho) hs k kt
abbrev qX7_exposureOf : MethodName := { cls := "LotSales", name := "exposureOf", desc := "(I)I" }
def sX7_exposureOf_82 (n : Nat) (r11 : Nat → Int32 → Int32 → Int32 → zW → Option (Int32 × zW)) (v0 : Nat) (v1 : Int32) (v2 : Int32) (v3 : Int32) (σ : zW) : Option (Int32 × zW) := r11 v0 v1 v2 (v3 + 1) σ
def sX7_exposureOf_11 (n : Nat) : Nat → Nat → Int32 → Int32 → Int32 → zW → Option (Int32 × zW)
  | 0, _, _, _, _, _ => none
  | k + 1, v0, v1, v2, v3, σ => zgR σ 8 v0 0 fun x1 => zgI σ 4 x1 5 fun x2 => if v3 < x2 then zgR σ 8 v0 0 fun x3 => zgR σ 4 x3 3 fun x4 => zaR σ 25 x4 v3 fun x5 => zgI σ 3 x5 4 fun x6 => if x6 = 1 then zgR σ 8 v0 1 fun x7 => zgR σ 8 v0 0 fun x8 => zgR σ 4 x8 0 fun x9 => zck σ 5 x7 (zb (fX4_settle n x7 x5 x9 σ) fun σ10 => zgR σ10 8 v0 1 fun x11 => zgI σ10 5 x11 3 fun x12 => if x12 = v1 then zgR σ10 8 v0 1 fun x13 => zgI σ10 5 x13 4 fun x14 => sX7_exposureOf_82 n (sX7_exposureOf_11 n k) v0 v1 (v2 + x14) v3 σ10 else sX7_exposureOf_82 n (sX7_exposureOf_11 n k) v0 v1 v2 v3 σ10) else sX7_exposureOf_82 n (sX7_exposureOf_11 n k) v0 v1 v2 v3 σ else some (v2, σ)
def fX7_exposureOf (n : Nat) (a0 : Nat) (a1 : Int32) (σ : zW) : Option (Int32 × zW) := zgR σ 8 a0 0 fun x15 => zck σ 4 x15 (zb (fX3_pricesTo n x15 a1 σ) fun x16 => sX7_exposureOf_11 n n a0 a1 x16 0 σ)
theorem gsX7_exposureOf_82 (F : zFx E) (n : Nat) (hk : zk E K "LotSales" cX7_exposureOf 5 3) (he : zend E K (some .int) "exposureOf") (r11 : Nat → Int32 → Int32 → Int32 → zW → Option (Int32 × zW)) (hr11 : ∀ (v0 : Nat) (v1 : Int32) (v2 : Int32) (v3 : Int32) (σ : zW), zG E K zfW (r11 v0 v1 v2 v3 σ) σ 11 [some (.inr (.inl v0)), some (.inl v1), some (.inl v2), some (.inl v3), none] []) (v0 : Nat) (v1 : Int32) (v2 : Int32) (v3 : Int32) (σ : zW) : zG E K zfW (sX7_exposureOf_82 n r11 v0 v1 v2 v3 σ) σ 82 [some (.inr (.inl v0)), some (.inl v1), some (.inl v2), some (.inl v3), none] [] := by
  unfold sX7_exposureOf_82
  refine z_run hk hX7_exposureOf_0 41 1 (pc' := 85) (lv' := [some (.inr (.inl v0)), some (.inl v1), some (.inl v2), some (.inl (v3 + 1)), none]) (st' := []) rfl ?_
  refine z_goto hk (z_row hX7_exposureOf_0 42 rfl) (tgt := 11) rfl ?_
  exact hr11 v0 v1 v2 (v3 + 1) σ
theorem gsX7_exposureOf_11 (F : zFx E) (n : Nat) (hk : zk E K "LotSales" cX7_exposureOf 5 3) (he : zend E K (some .int) "exposureOf") : ∀ (k : Nat) (v0 : Nat) (v1 : Int32) (v2 : Int32) (v3 : Int32) (σ : zW), zG E K zfW (sX7_exposureOf_11 n k v0 v1 v2 v3 σ) σ 11 [some (.inr (.inl v0)), some (.inl v1), some (.inl v2), some (.inl v3), none] [] := by
  intro k
  induction k with
  | zero =>
    intro v0 v1 v2 v3 σ
    intro hX
    exact z_none hX
  | succ k ih =>
    intro v0 v1 v2 v3 σ
    rw [sX7_exposureOf_11]
    refine z_run hk hX7_exposureOf_0 7 2 (pc' := 13) (lv' := [some (.inr (.inl v0)), some (.inl v1), some (.inl v2), some (.inl v3), none]) (st' := [.inr (.inl v0), .inl v3]) rfl ?_
    refine z_gR hk 0 (z_row hX7_exposureOf_0 9 rfl) (ci := 7) rfl rfl wd_268 (fun x1 => ?_)
    refine z_gI hk 5 (z_row hX7_exposureOf_0 10 rfl) (ci := 3) rfl rfl wd_171 (fun x2 => ?_)
    refine z_cge hk (z_row hX7_exposureOf_0 11 rfl) (tgt := 88) rfl ?_ ?_
    · refine z_run hk hX7_exposureOf_0 43 1 (pc' := 89) (lv' := [some (.inr (.inl v0)), some (.inl v1), some (.inl v2), some (.inl v3), none]) (st' := [.inl v2]) rfl ?_
      exact z_iret hk he (z_row hX7_exposureOf_0 44 rfl) rfl
    · refine z_run hk hX7_exposureOf_0 12 1 (pc' := 23) (lv' := [some (.inr (.inl v0)), some (.inl v1), some (.inl v2), some (.inl v3), none]) (st' := [.inr (.inl v0)]) rfl ?_
      refine z_gR hk 0 (z_row hX7_exposureOf_0 13 rfl) (ci := 7) rfl rfl wd_268 (fun x3 => ?_)
      refine z_gR hk 3 (z_row hX7_exposureOf_0 14 rfl) (ci := 3) rfl rfl wd_167 (fun x4 => ?_)
      refine z_run hk hX7_exposureOf_0 15 1 (pc' := 30) (lv' := [some (.inr (.inl v0)), some (.inl v1), some (.inl v2), some (.inl v3), none]) (st' := [.inl v3, .inr (.inl x4)]) rfl ?_
      refine z_aR hk (κ := 25) (by decide) (z_row hX7_exposureOf_0 16 rfl) (fun x5 => ?_)
      refine z_run hk hX7_exposureOf_0 17 2 (pc' := 35) (lv' := [some (.inr (.inl v0)), some (.inl v1), some (.inl v2), some (.inl v3), some (.inr (.inl x5))]) (st' := [.inr (.inl x5)]) rfl ?_
      refine z_gI hk 4 (z_row hX7_exposureOf_0 19 rfl) (ci := 2) rfl rfl wd_113 (fun x6 => ?_)
      refine z_run hk hX7_exposureOf_0 20 1 (pc' := 39) (lv' := [some (.inr (.inl v0)), some (.inl v1), some (.inl v2), some (.inl v3), some (.inr (.inl x5))]) (st' := [.inl 1, .inl x6]) rfl ?_
      refine z_ceq hk (z_row hX7_exposureOf_0 21 rfl) (tgt := 45) rfl ?_ ?_
      · refine z_run hk hX7_exposureOf_0 23 1 (pc' := 46) (lv' := [some (.inr (.inl v0)), some (.inl v1), some (.inl v2), some (.inl v3), some (.inr (.inl x5))]) (st' := [.inr (.inl v0)]) rfl ?_
        refine z_gR hk 1 (z_row hX7_exposureOf_0 24 rfl) (ci := 7) rfl rfl wd_269 (fun x7 => ?_)
        refine z_run hk hX7_exposureOf_0 25 2 (pc' := 52) (lv' := [some (.inr (.inl v0)), some (.inl v1), some (.inl v2), some (.inl v3), some (.inr (.inl x5))]) (st' := [.inr (.inl v0), .inr (.inl x5), .inr (.inl x7)]) rfl ?_
        refine z_gR hk 0 (z_row hX7_exposureOf_0 27 rfl) (ci := 7) rfl rfl wd_268 (fun x8 => ?_)
        refine z_gR hk 0 (z_row hX7_exposureOf_0 28 rfl) (ci := 3) rfl rfl wd_161 (fun x9 => ?_)
        refine kX4_settle F hk (z_row hX7_exposureOf_0 29 rfl) wd_716 (by decide) (Nat.le_of_ble_eq_true rfl) (fun σ10 => ?_)
        refine z_run hk hX7_exposureOf_0 30 1 (pc' := 62) (lv' := [some (.inr (.inl v0)), some (.inl v1), some (.inl v2), some (.inl v3), some (.inr (.inl x5))]) (st' := [.inr (.inl v0)]) rfl ?_
        refine z_gR hk 1 (z_row hX7_exposureOf_0 31 rfl) (ci := 7) rfl rfl wd_269 (fun x11 => ?_)
        refine z_gI hk 3 (z_row hX7_exposureOf_0 32 rfl) (ci := 4) rfl rfl wd_201 (fun x12 => ?_)
        refine z_run hk hX7_exposureOf_0 33 1 (pc' := 69) (lv' := [some (.inr (.inl v0)), some (.inl v1), some (.inl v2), some (.inl v3), some (.inr (.inl x5))]) (st' := [.inl v1, .inl x12]) rfl ?_
        refine z_cne hk (z_row hX7_exposureOf_0 34 rfl) (tgt := 82) rfl ?_ ?_
        · refine z_mask [true, true, true, true, false] rfl ?_
          exact gsX7_exposureOf_82 F n hk he (sX7_exposureOf_11 n k) ih v0 v1 v2 v3 σ10
        · refine z_run hk hX7_exposureOf_0 35 2 (pc' := 74) (lv' := [some (.inr (.inl v0)), some (.inl v1), some (.inl v2), some (.inl v3), some (.inr (.inl x5))]) (st' := [.inr (.inl v0), .inl v2]) rfl ?_
          refine z_gR hk 1 (z_row hX7_exposureOf_0 37 rfl) (ci := 7) rfl rfl wd_269 (fun x13 => ?_)
          refine z_gI hk 4 (z_row hX7_exposureOf_0 38 rfl) (ci := 4) rfl rfl wd_203 (fun x14 => ?_)
          refine z_run hk hX7_exposureOf_0 39 2 (pc' := 82) (lv' := [some (.inr (.inl v0)), some (.inl v1), some (.inl (v2 + x14)), some (.inl v3), some (.inr (.inl x5))]) (st' := []) rfl ?_
          refine z_mask [true, true, true, true, false] rfl ?_
          exact gsX7_exposureOf_82 F n hk he (sX7_exposureOf_11 n k) ih v0 v1 (v2 + x14) v3 σ10
      · refine z_goto hk (z_row hX7_exposureOf_0 22 rfl) (tgt := 82) rfl ?_
        refine z_mask [true, true, true, true, false] rfl ?_
        exact gsX7_exposureOf_82 F n hk he (sX7_exposureOf_11 n k) ih v0 v1 v2 v3 σ
theorem mX7_exposureOf (F : zFx E) (n : Nat) (a0 : Nat) (a1 : Int32) (σ : zW) (o : Int32 × zW) (hf : fX7_exposureOf n a0 a1 σ = some o) : zM E qX7_exposureOf cX7_exposureOf 5 (some .int) 3 [.inr (.inl a0), .inl a1] σ (some (.int o.1)) o.2 := by
  refine zM_of (fin := zfW) F (by decide +kernel) rfl (Nat.le_of_ble_eq_true rfl) (lv0 := [some (.inr (.inl a0)), some (.inl a1), none, none, none]) rfl hf rfl (fun K hk he => ?_)
  have hk : zk E K "LotSales" cX7_exposureOf 5 3 := hk
  unfold fX7_exposureOf
  refine z_run hk hX7_exposureOf_0 0 1 (pc' := 1) (lv' := [some (.inr (.inl a0)), some (.inl a1), none, none, none]) (st' := [.inr (.inl a0)]) rfl ?_
  refine z_gR hk 0 (z_row hX7_exposureOf_0 1 rfl) (ci := 7) rfl rfl wd_268 (fun x15 => ?_)
  refine z_run hk hX7_exposureOf_0 2 1 (pc' := 5) (lv' := [some (.inr (.inl a0)), some (.inl a1), none, none, none]) (st' := [.inl a1, .inr (.inl x15)]) rfl ?_
  refine kX3_pricesTo F hk (z_row hX7_exposureOf_0 3 rfl) wd_298 (by decide) (Nat.le_of_ble_eq_true rfl) (fun x16 => ?_)
  refine z_run hk hX7_exposureOf_0 4 3 (pc' := 11) (lv' := [some (.inr (.inl a0)), some (.inl a1), some (.inl x16), some (.inl 0), none]) (st' := []) rfl ?_
  exact gsX7_exposureOf_11 F n hk he n a0 a1 x16 0 σ
theorem kX7_exposureOf {n : Nat} {own : String} {cc : ByteArray} {nL h index : Nat} {α : Type} {fin : α → zO} {σ : zW} {pc : Nat} {lv : zLV} {st : List zV} {a0 : Nat} {a1 : Int32} {c : Int32 → zW → Option α} (F : zFx E) (hk : zk E K own cc nL h) (hd : decode cc pc = .ok (.invokevirtual index, 3)) (hl : Cond.methodLink own index qX7_exposureOf ∈ lw_tbl) (hh : 3 + 1 ≤ h) (hs : zcat st ≤ 8) (k : ∀ v s, zG E K fin (c v s) s (pc + 3) lv (.inl v :: st)) : zG E K fin (zck σ 8 a0 (zb2 (fX7_exposureOf n a0 a1 σ) c)) σ pc lv (.inl a1 :: .inr (.inl a0) :: st) :=
  z_vW (n := 1) (y := qX7_exposureOf) (As := [.inl a1]) hk hd hl wd_757 ws_9 wd_1 wd_758 ⟨by decide, by decide, by decide +kernel⟩ ⟨hh, by decide⟩ (ci := 7) rfl rfl rfl (fun o ho => mX7_exposureOf F n a0 a1 σ o ho) hs k
abbrev qX7_bidReason : MethodName := { cls := "LotSales", name := "bidReason", desc := "(LLotSales$Lot;II)I" }
def fX7_bidReason (n : Nat) (a0 : Nat) (a1 : Nat) (a2 : Int32) (a3 : Int32) (σ : zW) : Option (Int32 × zW) := zgI σ 3 a1 4 fun x1 => if x1 = 1 then zgR σ 8 a0 1 fun x2 => zgR σ 8 a0 0 fun x3 => zgR σ 4 x3 0 fun x4 => zck σ 5 x2 (zb (fX4_settle n x2 a1 x4 σ) fun σ5 => zgR σ5 8 a0 1 fun x6 => zgI σ5 5 x6 3 fun x7 => if x7 = a2 then some (2, σ5) else zgR σ5 8 a0 0 fun x8 => zgR σ5 4 x8 0 fun x9 => zgR σ5 8 a0 1 fun x10 => zgR σ5 8 a0 0 fun x11 => zgR σ5 4 x11 0 fun x12 => zck σ5 5 x10 (zb (fX4_price n x10 x12 σ5) fun x13 => zck σ5 6 x9 (zb (fX5_stepAfter n x9 x13 σ5) fun x14 => if a3 < x14 then some (3, σ5) else zgR σ5 8 a0 0 fun x15 => zgR σ5 4 x15 0 fun x16 => zck σ5 6 x16 (zb (fX5_isStep n x16 a3 σ5) fun x17 => if x17 = 0 then some (4, σ5) else zck σ5 8 a0 (zb2 (fX7_exposureOf n a0 a2 σ5) fun x18 σ19 => zgR σ19 8 a0 0 fun x20 => zgR σ19 4 x20 1 fun x21 => zaI σ19 x21 a2 fun x22 => if x22 < (a3 + x18) then some (5, σ19) else some (0, σ19)))))) else some (1, σ)
theorem mX7_bidReason (F : zFx E) (n : Nat) (a0 : Nat) (a1 : Nat) (a2 : Int32) (a3 : Int32) (σ : zW) (o : Int32 × zW) (hf : fX7_bidReason n a0 a1 a2 a3 σ = some o) : zM E qX7_bidReason cX7_bidReason 4 (some .int) 4 [.inr (.inl a0), .inr (.inl a1), .inl a2, .inl a3] σ (some (.int o.1)) o.2 := by
  refine zM_of (fin := zfW) F (by decide +kernel) rfl (Nat.le_of_ble_eq_true rfl) (lv0 := [some (.inr (.inl a0)), some (.inr (.inl a1)), some (.inl a2), some (.inl a3)]) rfl hf rfl (fun K hk he => ?_)
  have hk : zk E K "LotSales" cX7_bidReason 4 4 := hk
  unfold fX7_bidReason
  refine z_run hk hX7_bidReason_0 0 1 (pc' := 1) (lv' := [some (.inr (.inl a0)), some (.inr (.inl a1)), some (.inl a2), some (.inl a3)]) (st' := [.inr (.inl a1)]) rfl ?_
  refine z_gI hk 4 (z_row hX7_bidReason_0 1 rfl) (ci := 2) rfl rfl wd_113 (fun x1 => ?_)
  refine z_run hk hX7_bidReason_0 2 1 (pc' := 5) (lv' := [some (.inr (.inl a0)), some (.inr (.inl a1)), some (.inl a2), some (.inl a3)]) (st' := [.inl 1, .inl x1]) rfl ?_
  refine z_ceq hk (z_row hX7_bidReason_0 3 rfl) (tgt := 10) rfl ?_ ?_
  · refine z_run hk hX7_bidReason_0 6 1 (pc' := 11) (lv' := [some (.inr (.inl a0)), some (.inr (.inl a1)), some (.inl a2), some (.inl a3)]) (st' := [.inr (.inl a0)]) rfl ?_
    refine z_gR hk 1 (z_row hX7_bidReason_0 7 rfl) (ci := 7) rfl rfl wd_269 (fun x2 => ?_)
    refine z_run hk hX7_bidReason_0 8 2 (pc' := 16) (lv' := [some (.inr (.inl a0)), some (.inr (.inl a1)), some (.inl a2), some (.inl a3)]) (st' := [.inr (.inl a0), .inr (.inl a1), .inr (.inl x2)]) rfl ?_
    refine z_gR hk 0 (z_row hX7_bidReason_0 10 rfl) (ci := 7) rfl rfl wd_268 (fun x3 => ?_)
    refine z_gR hk 0 (z_row hX7_bidReason_0 11 rfl) (ci := 3) rfl rfl wd_161 (fun x4 => ?_)
    refine kX4_settle F hk (z_row hX7_bidReason_0 12 rfl) wd_716 (by decide) (Nat.le_of_ble_eq_true rfl) (fun σ5 => ?_)
    refine z_run hk hX7_bidReason_0 13 1 (pc' := 26) (lv' := [some (.inr (.inl a0)), some (.inr (.inl a1)), some (.inl a2), some (.inl a3)]) (st' := [.inr (.inl a0)]) rfl ?_
    refine z_gR hk 1 (z_row hX7_bidReason_0 14 rfl) (ci := 7) rfl rfl wd_269 (fun x6 => ?_)
    refine z_gI hk 3 (z_row hX7_bidReason_0 15 rfl) (ci := 4) rfl rfl wd_201 (fun x7 => ?_)
    refine z_run hk hX7_bidReason_0 16 1 (pc' := 33) (lv' := [some (.inr (.inl a0)), some (.inr (.inl a1)), some (.inl a2), some (.inl a3)]) (st' := [.inl a2, .inl x7]) rfl ?_
    refine z_cne hk (z_row hX7_bidReason_0 17 rfl) (tgt := 38) rfl ?_ ?_
    · refine z_run hk hX7_bidReason_0 20 2 (pc' := 40) (lv' := [some (.inr (.inl a0)), some (.inr (.inl a1)), some (.inl a2), some (.inl a3)]) (st' := [.inr (.inl a0), .inl a3]) rfl ?_
      refine z_gR hk 0 (z_row hX7_bidReason_0 22 rfl) (ci := 7) rfl rfl wd_268 (fun x8 => ?_)
      refine z_gR hk 0 (z_row hX7_bidReason_0 23 rfl) (ci := 3) rfl rfl wd_161 (fun x9 => ?_)
      refine z_run hk hX7_bidReason_0 24 1 (pc' := 47) (lv' := [some (.inr (.inl a0)), some (.inr (.inl a1)), some (.inl a2), some (.inl a3)]) (st' := [.inr (.inl a0), .inr (.inl x9), .inl a3]) rfl ?_
      refine z_gR hk 1 (z_row hX7_bidReason_0 25 rfl) (ci := 7) rfl rfl wd_269 (fun x10 => ?_)
      refine z_run hk hX7_bidReason_0 26 1 (pc' := 51) (lv' := [some (.inr (.inl a0)), some (.inr (.inl a1)), some (.inl a2), some (.inl a3)]) (st' := [.inr (.inl a0), .inr (.inl x10), .inr (.inl x9), .inl a3]) rfl ?_
      refine z_gR hk 0 (z_row hX7_bidReason_0 27 rfl) (ci := 7) rfl rfl wd_268 (fun x11 => ?_)
      refine z_gR hk 0 (z_row hX7_bidReason_0 28 rfl) (ci := 3) rfl rfl wd_161 (fun x12 => ?_)
      refine kX4_price F hk (z_row hX7_bidReason_0 29 rfl) wd_731 (by decide) (Nat.le_of_ble_eq_true rfl) (fun x13 => ?_)
      refine kX5_stepAfter F hk (z_row hX7_bidReason_0 30 rfl) wd_587 (by decide) (Nat.le_of_ble_eq_true rfl) (fun x14 => ?_)
      refine z_cge hk (z_row hX7_bidReason_0 31 rfl) (tgt := 68) rfl ?_ ?_
      · refine z_run hk hX7_bidReason_0 34 1 (pc' := 69) (lv' := [some (.inr (.inl a0)), some (.inr (.inl a1)), some (.inl a2), some (.inl a3)]) (st' := [.inr (.inl a0)]) rfl ?_
        refine z_gR hk 0 (z_row hX7_bidReason_0 35 rfl) (ci := 7) rfl rfl wd_268 (fun x15 => ?_)
        refine z_gR hk 0 (z_row hX7_bidReason_0 36 rfl) (ci := 3) rfl rfl wd_161 (fun x16 => ?_)
        refine z_run hk hX7_bidReason_0 37 1 (pc' := 76) (lv' := [some (.inr (.inl a0)), some (.inr (.inl a1)), some (.inl a2), some (.inl a3)]) (st' := [.inl a3, .inr (.inl x16)]) rfl ?_
        refine kX5_isStep F hk (z_row hX7_bidReason_0 38 rfl) wd_751 (by decide) (Nat.le_of_ble_eq_true rfl) (fun x17 => ?_)
        refine z_ne hk (z_row hX7_bidReason_0 39 rfl) (tgt := 84) rfl ?_ ?_
        · refine z_run hk hX7_bidReason_0 42 3 (pc' := 87) (lv' := [some (.inr (.inl a0)), some (.inr (.inl a1)), some (.inl a2), some (.inl a3)]) (st' := [.inl a2, .inr (.inl a0), .inl a3]) rfl ?_
          refine kX7_exposureOf F hk (z_row hX7_bidReason_0 45 rfl) wd_755 (by decide) (Nat.le_of_ble_eq_true rfl) (fun x18 σ19 => ?_)
          refine z_run hk hX7_bidReason_0 46 2 (pc' := 92) (lv' := [some (.inr (.inl a0)), some (.inr (.inl a1)), some (.inl a2), some (.inl a3)]) (st' := [.inr (.inl a0), .inl (a3 + x18)]) rfl ?_
          refine z_gR hk 0 (z_row hX7_bidReason_0 48 rfl) (ci := 7) rfl rfl wd_268 (fun x20 => ?_)
          refine z_gR hk 1 (z_row hX7_bidReason_0 49 rfl) (ci := 3) rfl rfl wd_163 (fun x21 => ?_)
          refine z_run hk hX7_bidReason_0 50 1 (pc' := 99) (lv' := [some (.inr (.inl a0)), some (.inr (.inl a1)), some (.inl a2), some (.inl a3)]) (st' := [.inl a2, .inr (.inl x21), .inl (a3 + x18)]) rfl ?_
          refine z_aI hk (z_row hX7_bidReason_0 51 rfl) (fun x22 => ?_)
          refine z_cle hk (z_row hX7_bidReason_0 52 rfl) (tgt := 105) rfl ?_ ?_
          · refine z_run hk hX7_bidReason_0 55 1 (pc' := 106) (lv' := [some (.inr (.inl a0)), some (.inr (.inl a1)), some (.inl a2), some (.inl a3)]) (st' := [.inl 0]) rfl ?_
            exact z_iret hk he (z_row hX7_bidReason_0 56 rfl) rfl
          · refine z_run hk hX7_bidReason_0 53 1 (pc' := 104) (lv' := [some (.inr (.inl a0)), some (.inr (.inl a1)), some (.inl a2), some (.inl a3)]) (st' := [.inl 5]) rfl ?_
            exact z_iret hk he (z_row hX7_bidReason_0 54 rfl) rfl
        · refine z_run hk hX7_bidReason_0 40 1 (pc' := 83) (lv' := [some (.inr (.inl a0)), some (.inr (.inl a1)), some (.inl a2), some (.inl a3)]) (st' := [.inl 4]) rfl ?_
          exact z_iret hk he (z_row hX7_bidReason_0 41 rfl) rfl
      · refine z_run hk hX7_bidReason_0 32 1 (pc' := 67) (lv' := [some (.inr (.inl a0)), some (.inr (.inl a1)), some (.inl a2), some (.inl a3)]) (st' := [.inl 3]) rfl ?_
        exact z_iret hk he (z_row hX7_bidReason_0 33 rfl) rfl
    · refine z_run hk hX7_bidReason_0 18 1 (pc' := 37) (lv' := [some (.inr (.inl a0)), some (.inr (.inl a1)), some (.inl a2), some (.inl a3)]) (st' := [.inl 2]) rfl ?_
      exact z_iret hk he (z_row hX7_bidReason_0 19 rfl) rfl
  · refine z_run hk hX7_bidReason_0 4 1 (pc' := 9) (lv' := [some (.inr (.inl a0)), some (.inr (.inl a1)), some (.inl a2), some (.inl a3)]) (st' := [.inl 1]) rfl ?_
    exact z_iret hk he (z_row hX7_bidReason_0 5 rfl) rfl
theorem kX7_bidReason {n : Nat} {own : String} {cc : ByteArray} {nL h index : Nat} {α : Type} {fin : α → zO} {σ : zW} {pc : Nat} {lv : zLV} {st : List zV} {a0 : Nat} {a1 : Nat} {a2 : Int32} {a3 : Int32} {c : Int32 → zW → Option α} (F : zFx E) (hk : zk E K own cc nL h) (hd : decode cc pc = .ok (.invokevirtual index, 3)) (hl : Cond.methodLink own index qX7_bidReason ∈ lw_tbl) (hh : 4 + 1 ≤ h) (hs : zcat st ≤ 8) (k : ∀ v s, zG E K fin (c v s) s (pc + 3) lv (.inl v :: st)) : zG E K fin (zck σ 8 a0 (zb2 (fX7_bidReason n a0 a1 a2 a3 σ) c)) σ pc lv (.inl a3 :: .inl a2 :: .inr (.inl a1) :: .inr (.inl a0) :: st) :=
  z_vW (n := 3) (y := qX7_bidReason) (As := [.inr (.inl a1), .inl a2, .inl a3]) hk hd hl wd_749 ws_8 wd_1 wd_750 ⟨by decide, by decide, by decide +kernel⟩ ⟨hh, by decide⟩ (ci := 7) rfl rfl rfl (fun o ho => mX7_bidReason F n a0 a1 a2 a3 σ o ho) hs k
abbrev qX7_tryBid : MethodName := { cls := "LotSales", name := "tryBid", desc := "(III)I" }
def sX7_tryBid_18 (n : Nat) (σ : zW) : Option (Int32 × zW) := some ((-1), σ)
def sX7_tryBid_31 (n : Nat) (σ : zW) : Option (Int32 × zW) := some ((-2), σ)
def fX7_tryBid (n : Nat) (a0 : Nat) (a1 : Int32) (a2 : Int32) (a3 : Int32) (σ : zW) : Option (Int32 × zW) := zgR σ 8 a0 0 fun x1 => zck σ 4 x1 (zb (fX3_has n x1 a1 σ) fun x2 => if x2 = 0 then sX7_tryBid_18 n σ else zb (fX7_isBidder n a2 σ) fun x3 => if x3 = 0 then sX7_tryBid_18 n σ else if a3 < 1 then sX7_tryBid_31 n σ else if 99999 < a3 then sX7_tryBid_31 n σ else zgR σ 8 a0 0 fun x4 => zgR σ 4 x4 3 fun x5 => zaR σ 25 x5 a1 fun x6 => zck σ 8 a0 (zb2 (fX7_bidReason n a0 x6 a2 a3 σ) fun x7 σ8 => if x7 = 0 then zgR σ8 8 a0 2 fun x9 => zgR σ8 8 a0 0 fun x10 => zck σ8 1 x9 (zb (fX0_keep n x9 x10 σ8) fun σ11 => zgR σ11 8 a0 0 fun x12 => zck σ11 4 x12 (zb2 (fX3_nextNumber n x12 σ11) fun x13 σ14 => zck σ14 3 x6 (zb (fX2_putBid n x6 a2 a3 x13 σ14) fun σ15 => zgR σ15 8 a0 0 fun x16 => zgR σ15 4 x16 4 fun x17 => zck σ15 2 x17 (zb (fX1_note n x17 2 a1 a2 a3 σ15) fun σ18 => zgR σ18 8 a0 1 fun x19 => zgR σ18 8 a0 0 fun x20 => zgR σ18 4 x20 0 fun x21 => zck σ18 5 x19 (zb (fX4_settle n x19 x6 x21 σ18) fun σ22 => zgR σ22 8 a0 1 fun x23 => zgR σ22 8 a0 0 fun x24 => zgR σ22 4 x24 0 fun x25 => zck σ22 5 x23 (zb (fX4_price n x23 x25 σ22) fun x26 => some (x26, σ22))))))) else zpI σ8 8 a0 5 x7 fun σ27 => some ((-5), σ27)))
theorem gsX7_tryBid_18 (F : zFx E) (n : Nat) (hk : zk E K "LotSales" cX7_tryBid 6 5) (he : zend E K (some .int) "tryBid") (σ : zW) : zG E K zfW (sX7_tryBid_18 n σ) σ 18 [none, none, none, none, none, none] [] := by
  unfold sX7_tryBid_18
  refine z_run hk hX7_tryBid_0 8 1 (pc' := 19) (lv' := [none, none, none, none, none, none]) (st' := [.inl (-1)]) rfl ?_
  exact z_iret hk he (z_row hX7_tryBid_0 9 rfl) rfl
theorem gsX7_tryBid_31 (F : zFx E) (n : Nat) (hk : zk E K "LotSales" cX7_tryBid 6 5) (he : zend E K (some .int) "tryBid") (σ : zW) : zG E K zfW (sX7_tryBid_31 n σ) σ 31 [none, none, none, none, none, none] [] := by
  unfold sX7_tryBid_31
  refine z_run hk hX7_tryBid_0 16 1 (pc' := 33) (lv' := [none, none, none, none, none, none]) (st' := [.inl (-2)]) rfl ?_
  exact z_iret hk he (z_row hX7_tryBid_0 17 rfl) rfl
theorem mX7_tryBid (F : zFx E) (n : Nat) (a0 : Nat) (a1 : Int32) (a2 : Int32) (a3 : Int32) (σ : zW) (o : Int32 × zW) (hf : fX7_tryBid n a0 a1 a2 a3 σ = some o) : zM E qX7_tryBid cX7_tryBid 6 (some .int) 5 [.inr (.inl a0), .inl a1, .inl a2, .inl a3] σ (some (.int o.1)) o.2 := by
  refine zM_of (fin := zfW) F (by decide +kernel) rfl (Nat.le_of_ble_eq_true rfl) (lv0 := [some (.inr (.inl a0)), some (.inl a1), some (.inl a2), some (.inl a3), none, none]) rfl hf rfl (fun K hk he => ?_)
  have hk : zk E K "LotSales" cX7_tryBid 6 5 := hk
  unfold fX7_tryBid
  refine z_run hk hX7_tryBid_0 0 1 (pc' := 1) (lv' := [some (.inr (.inl a0)), some (.inl a1), some (.inl a2), some (.inl a3), none, none]) (st' := [.inr (.inl a0)]) rfl ?_
  refine z_gR hk 0 (z_row hX7_tryBid_0 1 rfl) (ci := 7) rfl rfl wd_268 (fun x1 => ?_)
  refine z_run hk hX7_tryBid_0 2 1 (pc' := 5) (lv' := [some (.inr (.inl a0)), some (.inl a1), some (.inl a2), some (.inl a3), none, none]) (st' := [.inl a1, .inr (.inl x1)]) rfl ?_
  refine kX3_has F hk (z_row hX7_tryBid_0 3 rfl) wd_514 (by decide) (Nat.le_of_ble_eq_true rfl) (fun x2 => ?_)
  refine z_eq hk (z_row hX7_tryBid_0 4 rfl) (tgt := 18) rfl ?_ ?_
  · refine z_mask [false, false, false, false, false, false] rfl ?_
    exact gsX7_tryBid_18 F n hk he σ
  · refine z_run hk hX7_tryBid_0 5 1 (pc' := 12) (lv' := [some (.inr (.inl a0)), some (.inl a1), some (.inl a2), some (.inl a3), none, none]) (st' := [.inl a2]) rfl ?_
    refine kX7_isBidder F hk (z_row hX7_tryBid_0 6 rfl) wd_602 (by decide) (Nat.le_of_ble_eq_true rfl) (fun x3 => ?_)
    refine z_ne hk (z_row hX7_tryBid_0 7 rfl) (tgt := 20) rfl ?_ ?_
    · refine z_run hk hX7_tryBid_0 10 2 (pc' := 22) (lv' := [some (.inr (.inl a0)), some (.inl a1), some (.inl a2), some (.inl a3), none, none]) (st' := [.inl 1, .inl a3]) rfl ?_
      refine z_clt hk (z_row hX7_tryBid_0 12 rfl) (tgt := 31) rfl ?_ ?_
      · refine z_mask [false, false, false, false, false, false] rfl ?_
        exact gsX7_tryBid_31 F n hk he σ
      · refine z_run hk hX7_tryBid_0 13 1 (pc' := 26) (lv' := [some (.inr (.inl a0)), some (.inl a1), some (.inl a2), some (.inl a3), none, none]) (st' := [.inl a3]) rfl ?_
        refine z_ldc hk (z_row hX7_tryBid_0 14 rfl) wd_572 ?_
        refine z_cle hk (z_row hX7_tryBid_0 15 rfl) (tgt := 34) rfl ?_ ?_
        · refine z_run hk hX7_tryBid_0 18 1 (pc' := 35) (lv' := [some (.inr (.inl a0)), some (.inl a1), some (.inl a2), some (.inl a3), none, none]) (st' := [.inr (.inl a0)]) rfl ?_
          refine z_gR hk 0 (z_row hX7_tryBid_0 19 rfl) (ci := 7) rfl rfl wd_268 (fun x4 => ?_)
          refine z_gR hk 3 (z_row hX7_tryBid_0 20 rfl) (ci := 3) rfl rfl wd_167 (fun x5 => ?_)
          refine z_run hk hX7_tryBid_0 21 1 (pc' := 42) (lv' := [some (.inr (.inl a0)), some (.inl a1), some (.inl a2), some (.inl a3), none, none]) (st' := [.inl a1, .inr (.inl x5)]) rfl ?_
          refine z_aR hk (κ := 25) (by decide) (z_row hX7_tryBid_0 22 rfl) (fun x6 => ?_)
          refine z_run hk hX7_tryBid_0 23 5 (pc' := 50) (lv' := [some (.inr (.inl a0)), some (.inl a1), some (.inl a2), some (.inl a3), some (.inr (.inl x6)), none]) (st' := [.inl a3, .inl a2, .inr (.inl x6), .inr (.inl a0)]) rfl ?_
          refine kX7_bidReason F hk (z_row hX7_tryBid_0 28 rfl) wd_747 (by decide) (Nat.le_of_ble_eq_true rfl) (fun x7 σ8 => ?_)
          refine z_run hk hX7_tryBid_0 29 2 (pc' := 57) (lv' := [some (.inr (.inl a0)), some (.inl a1), some (.inl a2), some (.inl a3), some (.inr (.inl x6)), some (.inl x7)]) (st' := [.inl x7]) rfl ?_
          refine z_eq hk (z_row hX7_tryBid_0 31 rfl) (tgt := 69) rfl ?_ ?_
          · refine z_run hk hX7_tryBid_0 37 1 (pc' := 70) (lv' := [some (.inr (.inl a0)), some (.inl a1), some (.inl a2), some (.inl a3), some (.inr (.inl x6)), some (.inl x7)]) (st' := [.inr (.inl a0)]) rfl ?_
            refine z_gR hk 2 (z_row hX7_tryBid_0 38 rfl) (ci := 7) rfl rfl wd_270 (fun x9 => ?_)
            refine z_run hk hX7_tryBid_0 39 1 (pc' := 74) (lv' := [some (.inr (.inl a0)), some (.inl a1), some (.inl a2), some (.inl a3), some (.inr (.inl x6)), some (.inl x7)]) (st' := [.inr (.inl a0), .inr (.inl x9)]) rfl ?_
            refine z_gR hk 0 (z_row hX7_tryBid_0 40 rfl) (ci := 7) rfl rfl wd_268 (fun x10 => ?_)
            refine kX0_keep F hk (z_row hX7_tryBid_0 41 rfl) wd_446 (by decide) (Nat.le_of_ble_eq_true rfl) (fun σ11 => ?_)
            refine z_run hk hX7_tryBid_0 42 4 (pc' := 85) (lv' := [some (.inr (.inl a0)), some (.inl a1), some (.inl a2), some (.inl a3), some (.inr (.inl x6)), some (.inl x7)]) (st' := [.inr (.inl a0), .inl a3, .inl a2, .inr (.inl x6)]) rfl ?_
            refine z_gR hk 0 (z_row hX7_tryBid_0 46 rfl) (ci := 7) rfl rfl wd_268 (fun x12 => ?_)
            refine kX3_nextNumber F hk (z_row hX7_tryBid_0 47 rfl) wd_631 (by decide) (Nat.le_of_ble_eq_true rfl) (fun x13 σ14 => ?_)
            refine kX2_putBid F hk (z_row hX7_tryBid_0 48 rfl) wd_759 (by decide) (Nat.le_of_ble_eq_true rfl) (fun σ15 => ?_)
            refine z_run hk hX7_tryBid_0 49 1 (pc' := 95) (lv' := [some (.inr (.inl a0)), some (.inl a1), some (.inl a2), some (.inl a3), some (.inr (.inl x6)), some (.inl x7)]) (st' := [.inr (.inl a0)]) rfl ?_
            refine z_gR hk 0 (z_row hX7_tryBid_0 50 rfl) (ci := 7) rfl rfl wd_268 (fun x16 => ?_)
            refine z_gR hk 4 (z_row hX7_tryBid_0 51 rfl) (ci := 3) rfl rfl wd_169 (fun x17 => ?_)
            refine z_run hk hX7_tryBid_0 52 4 (pc' := 105) (lv' := [some (.inr (.inl a0)), some (.inl a1), some (.inl a2), some (.inl a3), some (.inr (.inl x6)), some (.inl x7)]) (st' := [.inl a3, .inl a2, .inl a1, .inl 2, .inr (.inl x17)]) rfl ?_
            refine kX1_note F hk (z_row hX7_tryBid_0 56 rfl) wd_636 (by decide) (Nat.le_of_ble_eq_true rfl) (fun σ18 => ?_)
            refine z_run hk hX7_tryBid_0 57 1 (pc' := 109) (lv' := [some (.inr (.inl a0)), some (.inl a1), some (.inl a2), some (.inl a3), some (.inr (.inl x6)), some (.inl x7)]) (st' := [.inr (.inl a0)]) rfl ?_
            refine z_gR hk 1 (z_row hX7_tryBid_0 58 rfl) (ci := 7) rfl rfl wd_269 (fun x19 => ?_)
            refine z_run hk hX7_tryBid_0 59 1 (pc' := 114) (lv' := [some (.inr (.inl a0)), some (.inl a1), some (.inl a2), some (.inl a3), some (.inr (.inl x6)), some (.inl x7)]) (st' := [.inr (.inl x6), .inr (.inl x19)]) rfl ?_
            refine z_run hk hX7_tryBid_1 0 1 (pc' := 115) (lv' := [some (.inr (.inl a0)), some (.inl a1), some (.inl a2), some (.inl a3), some (.inr (.inl x6)), some (.inl x7)]) (st' := [.inr (.inl a0), .inr (.inl x6), .inr (.inl x19)]) rfl ?_
            refine z_gR hk 0 (z_row hX7_tryBid_1 1 rfl) (ci := 7) rfl rfl wd_268 (fun x20 => ?_)
            refine z_gR hk 0 (z_row hX7_tryBid_1 2 rfl) (ci := 3) rfl rfl wd_161 (fun x21 => ?_)
            refine kX4_settle F hk (z_row hX7_tryBid_1 3 rfl) wd_716 (by decide) (Nat.le_of_ble_eq_true rfl) (fun σ22 => ?_)
            refine z_run hk hX7_tryBid_1 4 1 (pc' := 125) (lv' := [some (.inr (.inl a0)), some (.inl a1), some (.inl a2), some (.inl a3), some (.inr (.inl x6)), some (.inl x7)]) (st' := [.inr (.inl a0)]) rfl ?_
            refine z_gR hk 1 (z_row hX7_tryBid_1 5 rfl) (ci := 7) rfl rfl wd_269 (fun x23 => ?_)
            refine z_run hk hX7_tryBid_1 6 1 (pc' := 129) (lv' := [some (.inr (.inl a0)), some (.inl a1), some (.inl a2), some (.inl a3), some (.inr (.inl x6)), some (.inl x7)]) (st' := [.inr (.inl a0), .inr (.inl x23)]) rfl ?_
            refine z_gR hk 0 (z_row hX7_tryBid_1 7 rfl) (ci := 7) rfl rfl wd_268 (fun x24 => ?_)
            refine z_gR hk 0 (z_row hX7_tryBid_1 8 rfl) (ci := 3) rfl rfl wd_161 (fun x25 => ?_)
            refine kX4_price F hk (z_row hX7_tryBid_1 9 rfl) wd_731 (by decide) (Nat.le_of_ble_eq_true rfl) (fun x26 => ?_)
            exact z_iret hk he (z_row hX7_tryBid_1 10 rfl) rfl
          · refine z_run hk hX7_tryBid_0 32 2 (pc' := 63) (lv' := [some (.inr (.inl a0)), some (.inl a1), some (.inl a2), some (.inl a3), some (.inr (.inl x6)), some (.inl x7)]) (st' := [.inl x7, .inr (.inl a0)]) rfl ?_
            refine z_pI hk 5 (z_row hX7_tryBid_0 34 rfl) (ci := 7) rfl rfl wd_273 rfl rfl rfl (fun σ27 => ?_)
            refine z_run hk hX7_tryBid_0 35 1 (pc' := 68) (lv' := [some (.inr (.inl a0)), some (.inl a1), some (.inl a2), some (.inl a3), some (.inr (.inl x6)), some (.inl x7)]) (st' := [.inl (-5)]) rfl ?_
            exact z_iret hk he (z_row hX7_tryBid_0 36 rfl) rfl
        · refine z_mask [false, false, false, false, false, false] rfl ?_
          exact gsX7_tryBid_31 F n hk he σ
    · refine z_mask [false, false, false, false, false, false] rfl ?_
      exact gsX7_tryBid_18 F n hk he σ
theorem kX7_tryBid {n : Nat} {own : String} {cc : ByteArray} {nL h index : Nat} {α : Type} {fin : α → zO} {σ : zW} {pc : Nat} {lv : zLV} {st : List zV} {a0 : Nat} {a1 : Int32} {a2 : Int32} {a3 : Int32} {c : Int32 → zW → Option α} (F : zFx E) (hk : zk E K own cc nL h) (hd : decode cc pc = .ok (.invokevirtual index, 3)) (hl : Cond.methodLink own index qX7_tryBid ∈ lw_tbl) (hh : 5 + 1 ≤ h) (hs : zcat st ≤ 8) (k : ∀ v s, zG E K fin (c v s) s (pc + 3) lv (.inl v :: st)) : zG E K fin (zck σ 8 a0 (zb2 (fX7_tryBid n a0 a1 a2 a3 σ) c)) σ pc lv (.inl a3 :: .inl a2 :: .inl a1 :: .inr (.inl a0) :: st) :=
  z_vW (n := 3) (y := qX7_tryBid) (As := [.inl a1, .inl a2, .inl a3]) hk hd hl wd_745 ws_7 wd_1 wd_746 ⟨by decide, by decide, by decide +kernel⟩ ⟨hh, by decide⟩ (ci := 7) rfl rfl rfl (fun o ho => mX7_tryBid F n a0 a1 a2 a3 σ o ho) hs k
abbrev qX7_bid : MethodName := { cls := "LotSales", name := "bid", desc := "(III)I" }
def fX7_bid (n : Nat) (a0 : Nat) (a1 : Int32) (a2 : Int32) (a3 : Int32) (σ : zW) : Option ((Int32 ⊕ Nat) × zW) := zck σ 8 a0 (zb2 (fX7_tryBid n a0 a1 a2 a3 σ) fun x1 σ2 => zbx (fX7_answered n x1 σ2) (fun x3 σ4 => some (.inl x3, σ4)) (fun e5 σ6 => some (.inr e5, σ6)))
theorem mX7_bid (F : zFx E) (n : Nat) (a0 : Nat) (a1 : Int32) (a2 : Int32) (a3 : Int32) (σ : zW) (o : (Int32 ⊕ Nat) × zW) (hf : fX7_bid n a0 a1 a2 a3 σ = some o) : zMX E qX7_bid (.code qX7_bid cX7_bid 4 (some .int)) 7 [.inr (.inl a0), .inl a1, .inl a2, .inl a3] σ (zfT o) := by
  refine zMX_of (fin := zfT) F (by decide +kernel) rfl (Nat.le_of_ble_eq_true rfl) (lv0 := [some (.inr (.inl a0)), some (.inl a1), some (.inl a2), some (.inl a3)]) rfl hf rfl (fun K hk he ht => ?_)
  have hk : zk E K "LotSales" cX7_bid 4 7 := hk
  unfold fX7_bid
  refine z_run hk hX7_bid_0 0 4 (pc' := 4) (lv' := [some (.inr (.inl a0)), some (.inl a1), some (.inl a2), some (.inl a3)]) (st' := [.inl a3, .inl a2, .inl a1, .inr (.inl a0)]) rfl ?_
  refine kX7_tryBid F hk (z_row hX7_bid_0 4 rfl) wd_743 (by decide) (Nat.le_of_ble_eq_true rfl) (fun x1 σ2 => ?_)
  refine kX7_answered F hk (z_row hX7_bid_0 5 rfl) wd_640 (by decide) (Nat.le_of_ble_eq_true rfl) (fun x3 σ4 => ?_) (fun e5 σ6 => ?_)
  · exact z_iret hk he (z_row hX7_bid_0 6 rfl) rfl
  · exact z_out hk ht rfl
theorem kX7_bid {n : Nat} {own : String} {cc : ByteArray} {nL h index : Nat} {α : Type} {fin : α → zO} {σ : zW} {pc : Nat} {lv : zLV} {st : List zV} {a0 : Nat} {a1 : Int32} {a2 : Int32} {a3 : Int32} {c : Int32 → zW → Option α} {t : Nat → zW → Option α} (F : zFx E) (hk : zk E K own cc nL h) (hd : decode cc pc = .ok (.invokevirtual index, 3)) (hl : Cond.methodLink own index qX7_bid ∈ lw_tbl) (hh : 7 + 1 ≤ h) (hs : zcat st ≤ 8) (k : ∀ v s, zG E K fin (c v s) s (pc + 3) lv (.inl v :: st)) (kt : ∀ kx s, zT E K fin (t kx s) kx s pc lv) : zG E K fin (zck σ 8 a0 (zbx (fX7_bid n a0 a1 a2 a3 σ) c t)) σ pc lv (.inl a3 :: .inl a2 :: .inl a1 :: .inr (.inl a0) :: st) :=
  z_vT (n := 3) (y := qX7_bid) (As := [.inl a1, .inl a2, .inl a3]) hk hd hl wd_740 wd_741 wd_1 wd_742 ⟨by decide, by decide, by decide +kernel⟩ ⟨hh, by decide⟩ (ci := 7) rfl rfl rfl (fun o ho => mX7_bid F n a0 a1 a2 a3 σ o ho) hs k kt
abbrev qX7_refusal : MethodName := { cls := "LotSales", name := "refusal", desc := "()I" }
def fX7_refusal (n : Nat) (a0 : Nat) (σ : zW) : Option ((Int32 ⊕ Nat) × zW) := zgI σ 8 a0 5 fun x1 => if x1 = 0 then zth σ fun σ3 => some (.inr 4, σ3) else zgI σ 8 a0 5 fun x2 => some (.inl x2, σ)
theorem mX7_refusal (F : zFx E) (n : Nat) (a0 : Nat) (σ : zW) (o : (Int32 ⊕ Nat) × zW) (hf : fX7_refusal n a0 σ = some o) : zMX E qX7_refusal (.code qX7_refusal cX7_refusal 1 (some .int)) 6 [.inr (.inl a0)] σ (zfT o) := by
  refine zMX_of (fin := zfT) F (by decide +kernel) rfl (Nat.le_of_ble_eq_true rfl) (lv0 := [some (.inr (.inl a0))]) rfl hf rfl (fun K hk he ht => ?_)
  have hk : zk E K "LotSales" cX7_refusal 1 6 := hk
  unfold fX7_refusal
  refine z_run hk hX7_refusal_0 0 1 (pc' := 1) (lv' := [some (.inr (.inl a0))]) (st' := [.inr (.inl a0)]) rfl ?_
  refine z_gI hk 5 (z_row hX7_refusal_0 1 rfl) (ci := 7) rfl rfl wd_273 (fun x1 => ?_)
  refine z_ne hk (z_row hX7_refusal_0 2 rfl) (tgt := 17) rfl ?_ ?_
  · refine z_run hk hX7_refusal_0 8 1 (pc' := 18) (lv' := [some (.inr (.inl a0))]) (st' := [.inr (.inl a0)]) rfl ?_
    refine z_gI hk 5 (z_row hX7_refusal_0 9 rfl) (ci := 7) rfl rfl wd_273 (fun x2 => ?_)
    exact z_iret hk he (z_row hX7_refusal_0 10 rfl) rfl
  · exact z_throw4 hk ht (is := 177) (text := "nothing was refused") (fun _ => rfl) (fun _ => rfl) wd_767 wd_645 wd_20 (by decide +kernel) (z_row hX7_refusal_0 3 rfl) (z_row hX7_refusal_0 4 rfl) (z_row hX7_refusal_0 5 rfl) (z_row hX7_refusal_0 6 rfl) (z_row hX7_refusal_0 7 rfl) (by decide) (Nat.le_of_ble_eq_true rfl)
theorem kX7_refusal {n : Nat} {own : String} {cc : ByteArray} {nL h index : Nat} {α : Type} {fin : α → zO} {σ : zW} {pc : Nat} {lv : zLV} {st : List zV} {a0 : Nat} {c : Int32 → zW → Option α} {t : Nat → zW → Option α} (F : zFx E) (hk : zk E K own cc nL h) (hd : decode cc pc = .ok (.invokevirtual index, 3)) (hl : Cond.methodLink own index qX7_refusal ∈ lw_tbl) (hh : 6 + 1 ≤ h) (hs : zcat st ≤ 8) (k : ∀ v s, zG E K fin (c v s) s (pc + 3) lv (.inl v :: st)) (kt : ∀ kx s, zT E K fin (t kx s) kx s pc lv) : zG E K fin (zck σ 8 a0 (zbx (fX7_refusal n a0 σ) c t)) σ pc lv (.inr (.inl a0) :: st) :=
  z_vT (n := 0) (y := qX7_refusal) (As := []) hk hd hl wd_764 wd_765 wd_1 wd_766 ⟨by decide, by decide, by decide +kernel⟩ ⟨hh, by decide⟩ (ci := 7) rfl rfl rfl (fun o ho => mX7_refusal F n a0 σ o ho) hs k kt
abbrev qX7_wouldRefuse : MethodName := { cls := "LotSales", name := "wouldRefuse", desc := "(ZIII)I" }
def sX7_wouldRefuse_53 (n : Nat) (y0 : Int32) (σ : zW) : Option ((Int32 ⊕ Nat) × zW) := some (.inl y0, σ)
def fX7_wouldRefuse (n : Nat) (a0 : Nat) (a1 : Int32) (a2 : Int32) (a3 : Int32) (a4 : Int32) (σ : zW) : Option ((Int32 ⊕ Nat) × zW) := zck σ 8 a0 (zbx (fX7_needLot n a0 a2 σ) (fun _ σ2 => zbx (fX7_needBidder n a3 σ2) (fun _ σ6 => zbx (fX7_needWithin n a4 1 90000 σ6) (fun _ σ10 => zgR σ10 8 a0 0 fun x13 => zgR σ10 4 x13 3 fun x14 => zaR σ10 25 x14 a2 fun x15 => if a1 = 0 then zck σ10 8 a0 (zb2 (fX7_bidReason n a0 x15 a3 a4 σ10) fun x16 σ17 => sX7_wouldRefuse_53 n x16 σ17) else zck σ10 8 a0 (zb (fX7_orderReason n a0 x15 a3 a4 σ10) fun x18 => sX7_wouldRefuse_53 n x18 σ10)) (fun e11 σ12 => some (.inr e11, σ12))) (fun e7 σ8 => some (.inr e7, σ8))) (fun e3 σ4 => some (.inr e3, σ4)))
theorem gsX7_wouldRefuse_53 (F : zFx E) (n : Nat) (hk : zk E K "LotSales" cX7_wouldRefuse 6 7) (he : zend E K (some .int) "wouldRefuse") (ht : zthr E K) (y0 : Int32) (σ : zW) : zG E K zfT (sX7_wouldRefuse_53 n y0 σ) σ 53 [none, none, none, none, none, none] [.inl y0] := by
  unfold sX7_wouldRefuse_53
  exact z_iret hk he (z_row hX7_wouldRefuse_0 28 rfl) rfl
theorem mX7_wouldRefuse (F : zFx E) (n : Nat) (a0 : Nat) (a1 : Int32) (a2 : Int32) (a3 : Int32) (a4 : Int32) (σ : zW) (o : (Int32 ⊕ Nat) × zW) (hf : fX7_wouldRefuse n a0 a1 a2 a3 a4 σ = some o) : zMX E qX7_wouldRefuse (.code qX7_wouldRefuse cX7_wouldRefuse 6 (some .int)) 7 [.inr (.inl a0), .inl a1, .inl a2, .inl a3, .inl a4] σ (zfT o) := by
  refine zMX_of (fin := zfT) F (by decide +kernel) rfl (Nat.le_of_ble_eq_true rfl) (lv0 := [some (.inr (.inl a0)), some (.inl a1), some (.inl a2), some (.inl a3), some (.inl a4), none]) rfl hf rfl (fun K hk he ht => ?_)
  have hk : zk E K "LotSales" cX7_wouldRefuse 6 7 := hk
  unfold fX7_wouldRefuse
  refine z_run hk hX7_wouldRefuse_0 0 2 (pc' := 2) (lv' := [some (.inr (.inl a0)), some (.inl a1), some (.inl a2), some (.inl a3), some (.inl a4), none]) (st' := [.inl a2, .inr (.inl a0)]) rfl ?_
  refine kX7_needLot F hk (z_row hX7_wouldRefuse_0 2 rfl) wd_510 (by decide) (Nat.le_of_ble_eq_true rfl) (fun x1 σ2 => ?_) (fun e3 σ4 => ?_)
  · refine z_run hk hX7_wouldRefuse_0 3 1 (pc' := 6) (lv' := [some (.inr (.inl a0)), some (.inl a1), some (.inl a2), some (.inl a3), some (.inl a4), none]) (st' := [.inl a3]) rfl ?_
    refine kX7_needBidder F hk (z_row hX7_wouldRefuse_0 4 rfl) wd_599 (by decide) (Nat.le_of_ble_eq_true rfl) (fun x5 σ6 => ?_) (fun e7 σ8 => ?_)
    · refine z_run hk hX7_wouldRefuse_0 5 2 (pc' := 12) (lv' := [some (.inr (.inl a0)), some (.inl a1), some (.inl a2), some (.inl a3), some (.inl a4), none]) (st' := [.inl 1, .inl a4]) rfl ?_
      refine z_ldc hk (z_row hX7_wouldRefuse_0 7 rfl) wd_425 ?_
      refine kX7_needWithin F hk (z_row hX7_wouldRefuse_0 8 rfl) wd_350 (by decide) (Nat.le_of_ble_eq_true rfl) (fun x9 σ10 => ?_) (fun e11 σ12 => ?_)
      · refine z_run hk hX7_wouldRefuse_0 9 1 (pc' := 18) (lv' := [some (.inr (.inl a0)), some (.inl a1), some (.inl a2), some (.inl a3), some (.inl a4), none]) (st' := [.inr (.inl a0)]) rfl ?_
        refine z_gR hk 0 (z_row hX7_wouldRefuse_0 10 rfl) (ci := 7) rfl rfl wd_268 (fun x13 => ?_)
        refine z_gR hk 3 (z_row hX7_wouldRefuse_0 11 rfl) (ci := 3) rfl rfl wd_167 (fun x14 => ?_)
        refine z_run hk hX7_wouldRefuse_0 12 1 (pc' := 25) (lv' := [some (.inr (.inl a0)), some (.inl a1), some (.inl a2), some (.inl a3), some (.inl a4), none]) (st' := [.inl a2, .inr (.inl x14)]) rfl ?_
        refine z_aR hk (κ := 25) (by decide) (z_row hX7_wouldRefuse_0 13 rfl) (fun x15 => ?_)
        refine z_run hk hX7_wouldRefuse_0 14 2 (pc' := 29) (lv' := [some (.inr (.inl a0)), some (.inl a1), some (.inl a2), some (.inl a3), some (.inl a4), some (.inr (.inl x15))]) (st' := [.inl a1]) rfl ?_
        refine z_eq hk (z_row hX7_wouldRefuse_0 16 rfl) (tgt := 44) rfl ?_ ?_
        · refine z_run hk hX7_wouldRefuse_0 23 4 (pc' := 50) (lv' := [some (.inr (.inl a0)), some (.inl a1), some (.inl a2), some (.inl a3), some (.inl a4), some (.inr (.inl x15))]) (st' := [.inl a4, .inl a3, .inr (.inl x15), .inr (.inl a0)]) rfl ?_
          refine kX7_bidReason F hk (z_row hX7_wouldRefuse_0 27 rfl) wd_747 (by decide) (Nat.le_of_ble_eq_true rfl) (fun x16 σ17 => ?_)
          refine z_mask [false, false, false, false, false, false] rfl ?_
          exact gsX7_wouldRefuse_53 F n hk he ht x16 σ17
        · refine z_run hk hX7_wouldRefuse_0 17 4 (pc' := 38) (lv' := [some (.inr (.inl a0)), some (.inl a1), some (.inl a2), some (.inl a3), some (.inl a4), some (.inr (.inl x15))]) (st' := [.inl a4, .inl a3, .inr (.inl x15), .inr (.inl a0)]) rfl ?_
          refine kX7_orderReason F hk (z_row hX7_wouldRefuse_0 21 rfl) wd_619 (by decide) (Nat.le_of_ble_eq_true rfl) (fun x18 => ?_)
          refine z_goto hk (z_row hX7_wouldRefuse_0 22 rfl) (tgt := 53) rfl ?_
          refine z_mask [false, false, false, false, false, false] rfl ?_
          exact gsX7_wouldRefuse_53 F n hk he ht x18 σ10
      · exact z_out hk ht rfl
    · exact z_out hk ht rfl
  · exact z_out hk ht rfl
theorem kX7_wouldRefuse {n : Nat} {own : String} {cc : ByteArray} {nL h index : Nat} {α : Type} {fin : α → zO} {σ : zW} {pc : Nat} {lv : zLV} {st : List zV} {a0 : Nat} {a1 : Int32} {a2 : Int32} {a3 : Int32} {a4 : Int32} {c : Int32 → zW → Option α} {t : Nat → zW → Option α} (F : zFx E) (hk : zk E K own cc nL h) (hd : decode cc pc = .ok (.invokevirtual index, 3)) (hl : Cond.methodLink own index qX7_wouldRefuse ∈ lw_tbl) (hh : 7 + 1 ≤ h) (hs : zcat st ≤ 8) (k : ∀ v s, zG E K fin (c v s) s (pc + 3) lv (.inl v :: st)) (kt : ∀ kx s, zT E K fin (t kx s) kx s pc lv) : zG E K fin (zck σ 8 a0 (zbx (fX7_wouldRefuse n a0 a1 a2 a3 a4 σ) c t)) σ pc lv (.inl a4 :: .inl a3 :: .inl a2 :: .inl a1 :: .inr (.inl a0) :: st) :=
  z_vT (n := 4) (y := qX7_wouldRefuse) (As := [.inl a1, .inl a2, .inl a3, .inl a4]) hk hd hl wd_772 wd_773 wd_1 wd_774 ⟨by decide, by decide, by decide +kernel⟩ ⟨hh, by decide⟩ (ci := 7) rfl rfl rfl (fun o ho => mX7_wouldRefuse F n a0 a1 a2 a3 a4 σ o ho) hs k kt
abbrev qX7_needState : MethodName := { cls := "LotSales", name := "needState", desc := "(LLotSales$Lot;I)V" }
def fX7_needState (n : Nat) (a0 : Nat) (a1 : Int32) (σ : zW) : Option ((Unit ⊕ Nat) × zW) := zgI σ 3 a0 4 fun x1 => if x1 = a1 then some (.inl (), σ) else zth σ fun σ2 => some (.inr 3, σ2)
theorem mX7_needState (F : zFx E) (n : Nat) (a0 : Nat) (a1 : Int32) (σ : zW) (o : (Unit ⊕ Nat) × zW) (hf : fX7_needState n a0 a1 σ = some o) : zMX E qX7_needState (.code qX7_needState cX7_needState 2 none) 6 [.inr (.inl a0), .inl a1] σ (zfU o) := by
  refine zMX_of (fin := zfU) F (by decide +kernel) rfl (Nat.le_of_ble_eq_true rfl) (lv0 := [some (.inr (.inl a0)), some (.inl a1)]) rfl hf rfl (fun K hk he ht => ?_)
  have hk : zk E K "LotSales" cX7_needState 2 6 := hk
  unfold fX7_needState
  refine z_run hk hX7_needState_0 0 1 (pc' := 1) (lv' := [some (.inr (.inl a0)), some (.inl a1)]) (st' := [.inr (.inl a0)]) rfl ?_
  refine z_gI hk 4 (z_row hX7_needState_0 1 rfl) (ci := 2) rfl rfl wd_113 (fun x1 => ?_)
  refine z_run hk hX7_needState_0 2 1 (pc' := 5) (lv' := [some (.inr (.inl a0)), some (.inl a1)]) (st' := [.inl a1, .inl x1]) rfl ?_
  refine z_ceq hk (z_row hX7_needState_0 3 rfl) (tgt := 19) rfl ?_ ?_
  · exact z_vret hk he (z_row hX7_needState_0 9 rfl) rfl
  · exact z_throwW hk ht (is := 403) (text := "the state of the lot is another one") (kx := 3) (by decide) (by decide) (by decide) (fun _ => rfl) (fun _ => rfl) wd_644 wd_430 wd_15 (by decide +kernel) (z_row hX7_needState_0 4 rfl) (z_row hX7_needState_0 5 rfl) (z_row hX7_needState_0 6 rfl) (z_row hX7_needState_0 7 rfl) (z_row hX7_needState_0 8 rfl) (by decide) (Nat.le_of_ble_eq_true rfl)
theorem kX7_needState {n : Nat} {own : String} {cc : ByteArray} {nL h index : Nat} {α : Type} {fin : α → zO} {σ : zW} {pc : Nat} {lv : zLV} {st : List zV} {a0 : Nat} {a1 : Int32} {c : Unit → zW → Option α} {t : Nat → zW → Option α} (F : zFx E) (hk : zk E K own cc nL h) (hd : decode cc pc = .ok (.invokestatic index, 3)) (hl : Cond.methodLink own index qX7_needState ∈ lw_tbl) (hh : 6 + 1 ≤ h) (hs : zcat st ≤ 8) (k : ∀ v s, zG E K fin (c v s) s (pc + 3) lv (st)) (kt : ∀ kx s, zT E K fin (t kx s) kx s pc lv) : zG E K fin (zbx (fX7_needState n a0 a1 σ) c t) σ pc lv (.inl a1 :: .inr (.inl a0) :: st) :=
  z_qU (n := 2) (y := qX7_needState) (As := [.inr (.inl a0), .inl a1]) hk hd hl wd_783 wd_1 wd_784 ⟨by decide, by decide, by decide +kernel⟩ ⟨hh, by decide⟩ rfl (fun o ho => mX7_needState F n a0 a1 σ o ho) hs k kt
abbrev qX7_standing : MethodName := { cls := "LotSales", name := "standing", desc := "(II)I" }
def sX7_standing_154 (n : Nat) (y0 : Int32) (σ : zW) : Option ((Int32 ⊕ Nat) × zW) := some (.inl y0, σ)
def fX7_standing (n : Nat) (a0 : Nat) (a1 : Int32) (a2 : Int32) (σ : zW) : Option ((Int32 ⊕ Nat) × zW) := zck σ 8 a0 (zbx (fX7_needLot n a0 a1 σ) (fun _ σ2 => zbx (fX7_needWithin n a2 0 6 σ2) (fun _ σ6 => zgR σ6 8 a0 0 fun x9 => zgR σ6 4 x9 3 fun x10 => zaR σ6 25 x10 a1 fun x11 => zbx (fX7_needState n x11 1 σ6) (fun _ σ13 => zgR σ13 8 a0 1 fun x16 => zgR σ13 8 a0 0 fun x17 => zgR σ13 4 x17 0 fun x18 => zck σ13 5 x16 (zb (fX4_settle n x16 x11 x18 σ13) fun σ19 => if a2 = 0 then zgR σ19 8 a0 1 fun x20 => zgR σ19 8 a0 0 fun x21 => zgR σ19 4 x21 0 fun x22 => zck σ19 5 x20 (zb (fX4_price n x20 x22 σ19) fun x23 => some (.inl x23, σ19)) else if a2 = 1 then zgR σ19 8 a0 1 fun x24 => zgI σ19 5 x24 3 fun x25 => some (.inl x25, σ19) else if a2 = 2 then zgR σ19 8 a0 0 fun x26 => zgR σ19 4 x26 0 fun x27 => zgR σ19 8 a0 1 fun x28 => zgR σ19 8 a0 0 fun x29 => zgR σ19 4 x29 0 fun x30 => zck σ19 5 x28 (zb (fX4_price n x28 x30 σ19) fun x31 => zck σ19 6 x27 (zb (fX5_stepAfter n x27 x31 σ19) fun x32 => some (.inl x32, σ19))) else if a2 = 3 then zgR σ19 8 a0 1 fun x33 => zgI σ19 3 x11 7 fun x34 => zgR σ19 8 a0 0 fun x35 => zgR σ19 4 x35 0 fun x36 => zck σ19 5 x33 (zb (fX4_meets n x33 x34 x36 σ19) fun x37 => if x37 = 0 then sX7_standing_154 n 0 σ19 else sX7_standing_154 n 1 σ19) else if a2 = 4 then zgR σ19 8 a0 1 fun x38 => zgI σ19 5 x38 4 fun x39 => some (.inl x39, σ19) else if a2 = 5 then zgR σ19 8 a0 1 fun x40 => zgI σ19 5 x40 5 fun x41 => some (.inl x41, σ19) else zgR σ19 8 a0 1 fun x42 => zck σ19 5 x42 (zb (fX4_counting n x42 σ19) fun x43 => some (.inl x43, σ19)))) (fun e14 σ15 => some (.inr e14, σ15))) (fun e7 σ8 => some (.inr e7, σ8))) (fun e3 σ4 => some (.inr e3, σ4)))
theorem gsX7_standing_154 (F : zFx E) (n : Nat) (hk : zk E K "LotSales" cX7_standing 4 7) (he : zend E K (some .int) "standing") (ht : zthr E K) (y0 : Int32) (σ : zW) : zG E K zfT (sX7_standing_154 n y0 σ) σ 154 [none, none, none, none] [.inl y0] := by
  unfold sX7_standing_154
  exact z_iret hk he (z_row hX7_standing_0 59 rfl) rfl
theorem mX7_standing (F : zFx E) (n : Nat) (a0 : Nat) (a1 : Int32) (a2 : Int32) (σ : zW) (o : (Int32 ⊕ Nat) × zW) (hf : fX7_standing n a0 a1 a2 σ = some o) : zMX E qX7_standing (.code qX7_standing cX7_standing 4 (some .int)) 7 [.inr (.inl a0), .inl a1, .inl a2] σ (zfT o) := by
  refine zMX_of (fin := zfT) F (by decide +kernel) rfl (Nat.le_of_ble_eq_true rfl) (lv0 := [some (.inr (.inl a0)), some (.inl a1), some (.inl a2), none]) rfl hf rfl (fun K hk he ht => ?_)
  have hk : zk E K "LotSales" cX7_standing 4 7 := hk
  unfold fX7_standing
  refine z_run hk hX7_standing_0 0 2 (pc' := 2) (lv' := [some (.inr (.inl a0)), some (.inl a1), some (.inl a2), none]) (st' := [.inl a1, .inr (.inl a0)]) rfl ?_
  refine kX7_needLot F hk (z_row hX7_standing_0 2 rfl) wd_510 (by decide) (Nat.le_of_ble_eq_true rfl) (fun x1 σ2 => ?_) (fun e3 σ4 => ?_)
  · refine z_run hk hX7_standing_0 3 3 (pc' := 9) (lv' := [some (.inr (.inl a0)), some (.inl a1), some (.inl a2), none]) (st' := [.inl 6, .inl 0, .inl a2]) rfl ?_
    refine kX7_needWithin F hk (z_row hX7_standing_0 6 rfl) wd_350 (by decide) (Nat.le_of_ble_eq_true rfl) (fun x5 σ6 => ?_) (fun e7 σ8 => ?_)
    · refine z_run hk hX7_standing_0 7 1 (pc' := 13) (lv' := [some (.inr (.inl a0)), some (.inl a1), some (.inl a2), none]) (st' := [.inr (.inl a0)]) rfl ?_
      refine z_gR hk 0 (z_row hX7_standing_0 8 rfl) (ci := 7) rfl rfl wd_268 (fun x9 => ?_)
      refine z_gR hk 3 (z_row hX7_standing_0 9 rfl) (ci := 3) rfl rfl wd_167 (fun x10 => ?_)
      refine z_run hk hX7_standing_0 10 1 (pc' := 20) (lv' := [some (.inr (.inl a0)), some (.inl a1), some (.inl a2), none]) (st' := [.inl a1, .inr (.inl x10)]) rfl ?_
      refine z_aR hk (κ := 25) (by decide) (z_row hX7_standing_0 11 rfl) (fun x11 => ?_)
      refine z_run hk hX7_standing_0 12 3 (pc' := 24) (lv' := [some (.inr (.inl a0)), some (.inl a1), some (.inl a2), some (.inr (.inl x11))]) (st' := [.inl 1, .inr (.inl x11)]) rfl ?_
      refine kX7_needState F hk (z_row hX7_standing_0 15 rfl) wd_782 (by decide) (Nat.le_of_ble_eq_true rfl) (fun x12 σ13 => ?_) (fun e14 σ15 => ?_)
      · refine z_run hk hX7_standing_0 16 1 (pc' := 28) (lv' := [some (.inr (.inl a0)), some (.inl a1), some (.inl a2), some (.inr (.inl x11))]) (st' := [.inr (.inl a0)]) rfl ?_
        refine z_gR hk 1 (z_row hX7_standing_0 17 rfl) (ci := 7) rfl rfl wd_269 (fun x16 => ?_)
        refine z_run hk hX7_standing_0 18 2 (pc' := 33) (lv' := [some (.inr (.inl a0)), some (.inl a1), some (.inl a2), some (.inr (.inl x11))]) (st' := [.inr (.inl a0), .inr (.inl x11), .inr (.inl x16)]) rfl ?_
        refine z_gR hk 0 (z_row hX7_standing_0 20 rfl) (ci := 7) rfl rfl wd_268 (fun x17 => ?_)
        refine z_gR hk 0 (z_row hX7_standing_0 21 rfl) (ci := 3) rfl rfl wd_161 (fun x18 => ?_)
        refine kX4_settle F hk (z_row hX7_standing_0 22 rfl) wd_716 (by decide) (Nat.le_of_ble_eq_true rfl) (fun σ19 => ?_)
        refine z_run hk hX7_standing_0 23 1 (pc' := 43) (lv' := [some (.inr (.inl a0)), some (.inl a1), some (.inl a2), some (.inr (.inl x11))]) (st' := [.inl a2]) rfl ?_
        refine z_tabI hk (z_row hX7_standing_0 24 rfl) (c := 0) (tgt := 80) (by decide) (by decide) rfl rfl ?_ (fun hn0 => ?_)
        · refine z_run hk hX7_standing_0 25 1 (pc' := 81) (lv' := [some (.inr (.inl a0)), some (.inl a1), some (.inl a2), some (.inr (.inl x11))]) (st' := [.inr (.inl a0)]) rfl ?_
          refine z_gR hk 1 (z_row hX7_standing_0 26 rfl) (ci := 7) rfl rfl wd_269 (fun x20 => ?_)
          refine z_run hk hX7_standing_0 27 1 (pc' := 85) (lv' := [some (.inr (.inl a0)), some (.inl a1), some (.inl a2), some (.inr (.inl x11))]) (st' := [.inr (.inl a0), .inr (.inl x20)]) rfl ?_
          refine z_gR hk 0 (z_row hX7_standing_0 28 rfl) (ci := 7) rfl rfl wd_268 (fun x21 => ?_)
          refine z_gR hk 0 (z_row hX7_standing_0 29 rfl) (ci := 3) rfl rfl wd_161 (fun x22 => ?_)
          refine kX4_price F hk (z_row hX7_standing_0 30 rfl) wd_731 (by decide) (Nat.le_of_ble_eq_true rfl) (fun x23 => ?_)
          exact z_iret hk he (z_row hX7_standing_0 31 rfl) rfl
        refine z_tabI hk (z_row hX7_standing_0 24 rfl) (c := 1) (tgt := 95) (by decide) (by decide) rfl rfl ?_ (fun hn1 => ?_)
        · refine z_run hk hX7_standing_0 32 1 (pc' := 96) (lv' := [some (.inr (.inl a0)), some (.inl a1), some (.inl a2), some (.inr (.inl x11))]) (st' := [.inr (.inl a0)]) rfl ?_
          refine z_gR hk 1 (z_row hX7_standing_0 33 rfl) (ci := 7) rfl rfl wd_269 (fun x24 => ?_)
          refine z_gI hk 3 (z_row hX7_standing_0 34 rfl) (ci := 4) rfl rfl wd_201 (fun x25 => ?_)
          exact z_iret hk he (z_row hX7_standing_0 35 rfl) rfl
        refine z_tabI hk (z_row hX7_standing_0 24 rfl) (c := 2) (tgt := 103) (by decide) (by decide) rfl rfl ?_ (fun hn2 => ?_)
        · refine z_run hk hX7_standing_0 36 1 (pc' := 104) (lv' := [some (.inr (.inl a0)), some (.inl a1), some (.inl a2), some (.inr (.inl x11))]) (st' := [.inr (.inl a0)]) rfl ?_
          refine z_gR hk 0 (z_row hX7_standing_0 37 rfl) (ci := 7) rfl rfl wd_268 (fun x26 => ?_)
          refine z_gR hk 0 (z_row hX7_standing_0 38 rfl) (ci := 3) rfl rfl wd_161 (fun x27 => ?_)
          refine z_run hk hX7_standing_0 39 1 (pc' := 111) (lv' := [some (.inr (.inl a0)), some (.inl a1), some (.inl a2), some (.inr (.inl x11))]) (st' := [.inr (.inl a0), .inr (.inl x27)]) rfl ?_
          refine z_gR hk 1 (z_row hX7_standing_0 40 rfl) (ci := 7) rfl rfl wd_269 (fun x28 => ?_)
          refine z_run hk hX7_standing_0 41 1 (pc' := 115) (lv' := [some (.inr (.inl a0)), some (.inl a1), some (.inl a2), some (.inr (.inl x11))]) (st' := [.inr (.inl a0), .inr (.inl x28), .inr (.inl x27)]) rfl ?_
          refine z_gR hk 0 (z_row hX7_standing_0 42 rfl) (ci := 7) rfl rfl wd_268 (fun x29 => ?_)
          refine z_gR hk 0 (z_row hX7_standing_0 43 rfl) (ci := 3) rfl rfl wd_161 (fun x30 => ?_)
          refine kX4_price F hk (z_row hX7_standing_0 44 rfl) wd_731 (by decide) (Nat.le_of_ble_eq_true rfl) (fun x31 => ?_)
          refine kX5_stepAfter F hk (z_row hX7_standing_0 45 rfl) wd_587 (by decide) (Nat.le_of_ble_eq_true rfl) (fun x32 => ?_)
          exact z_iret hk he (z_row hX7_standing_0 46 rfl) rfl
        refine z_tabI hk (z_row hX7_standing_0 24 rfl) (c := 3) (tgt := 128) (by decide) (by decide) rfl rfl ?_ (fun hn3 => ?_)
        · refine z_run hk hX7_standing_0 47 1 (pc' := 129) (lv' := [some (.inr (.inl a0)), some (.inl a1), some (.inl a2), some (.inr (.inl x11))]) (st' := [.inr (.inl a0)]) rfl ?_
          refine z_gR hk 1 (z_row hX7_standing_0 48 rfl) (ci := 7) rfl rfl wd_269 (fun x33 => ?_)
          refine z_run hk hX7_standing_0 49 1 (pc' := 133) (lv' := [some (.inr (.inl a0)), some (.inl a1), some (.inl a2), some (.inr (.inl x11))]) (st' := [.inr (.inl x11), .inr (.inl x33)]) rfl ?_
          refine z_gI hk 7 (z_row hX7_standing_0 50 rfl) (ci := 2) rfl rfl wd_123 (fun x34 => ?_)
          refine z_run hk hX7_standing_0 51 1 (pc' := 137) (lv' := [some (.inr (.inl a0)), some (.inl a1), some (.inl a2), some (.inr (.inl x11))]) (st' := [.inr (.inl a0), .inl x34, .inr (.inl x33)]) rfl ?_
          refine z_gR hk 0 (z_row hX7_standing_0 52 rfl) (ci := 7) rfl rfl wd_268 (fun x35 => ?_)
          refine z_gR hk 0 (z_row hX7_standing_0 53 rfl) (ci := 3) rfl rfl wd_161 (fun x36 => ?_)
          refine kX4_meets F hk (z_row hX7_standing_0 54 rfl) wd_785 (by decide) (Nat.le_of_ble_eq_true rfl) (fun x37 => ?_)
          refine z_eq hk (z_row hX7_standing_0 55 rfl) (tgt := 153) rfl ?_ ?_
          · refine z_run hk hX7_standing_0 58 1 (pc' := 154) (lv' := [some (.inr (.inl a0)), some (.inl a1), some (.inl a2), some (.inr (.inl x11))]) (st' := [.inl 0]) rfl ?_
            refine z_mask [false, false, false, false] rfl ?_
            exact gsX7_standing_154 F n hk he ht 0 σ19
          · refine z_run hk hX7_standing_0 56 1 (pc' := 150) (lv' := [some (.inr (.inl a0)), some (.inl a1), some (.inl a2), some (.inr (.inl x11))]) (st' := [.inl 1]) rfl ?_
            refine z_goto hk (z_row hX7_standing_0 57 rfl) (tgt := 154) rfl ?_
            refine z_mask [false, false, false, false] rfl ?_
            exact gsX7_standing_154 F n hk he ht 1 σ19
        refine z_tabI hk (z_row hX7_standing_0 24 rfl) (c := 4) (tgt := 155) (by decide) (by decide) rfl rfl ?_ (fun hn4 => ?_)
        · refine z_run hk hX7_standing_1 0 1 (pc' := 156) (lv' := [some (.inr (.inl a0)), some (.inl a1), some (.inl a2), some (.inr (.inl x11))]) (st' := [.inr (.inl a0)]) rfl ?_
          refine z_gR hk 1 (z_row hX7_standing_1 1 rfl) (ci := 7) rfl rfl wd_269 (fun x38 => ?_)
          refine z_gI hk 4 (z_row hX7_standing_1 2 rfl) (ci := 4) rfl rfl wd_203 (fun x39 => ?_)
          exact z_iret hk he (z_row hX7_standing_1 3 rfl) rfl
        refine z_tabI hk (z_row hX7_standing_0 24 rfl) (c := 5) (tgt := 163) (by decide) (by decide) rfl rfl ?_ (fun hn5 => ?_)
        · refine z_run hk hX7_standing_1 4 1 (pc' := 164) (lv' := [some (.inr (.inl a0)), some (.inl a1), some (.inl a2), some (.inr (.inl x11))]) (st' := [.inr (.inl a0)]) rfl ?_
          refine z_gR hk 1 (z_row hX7_standing_1 5 rfl) (ci := 7) rfl rfl wd_269 (fun x40 => ?_)
          refine z_gI hk 5 (z_row hX7_standing_1 6 rfl) (ci := 4) rfl rfl wd_205 (fun x41 => ?_)
          exact z_iret hk he (z_row hX7_standing_1 7 rfl) rfl
        have hi0 := z_ne_toInt hn0 (n := 0) (by decide)
        have hi1 := z_ne_toInt hn1 (n := 1) (by decide)
        have hi2 := z_ne_toInt hn2 (n := 2) (by decide)
        have hi3 := z_ne_toInt hn3 (n := 3) (by decide)
        have hi4 := z_ne_toInt hn4 (n := 4) (by decide)
        have hi5 := z_ne_toInt hn5 (n := 5) (by decide)
        refine z_tabO hk (z_row hX7_standing_0 24 rfl) (tgt := 171) (by omega) rfl ?_
        refine z_run hk hX7_standing_1 8 1 (pc' := 172) (lv' := [some (.inr (.inl a0)), some (.inl a1), some (.inl a2), some (.inr (.inl x11))]) (st' := [.inr (.inl a0)]) rfl ?_
        refine z_gR hk 1 (z_row hX7_standing_1 9 rfl) (ci := 7) rfl rfl wd_269 (fun x42 => ?_)
        refine kX4_counting F hk (z_row hX7_standing_1 10 rfl) wd_790 (by decide) (Nat.le_of_ble_eq_true rfl) (fun x43 => ?_)
        exact z_iret hk he (z_row hX7_standing_1 11 rfl) rfl
      · exact z_out hk ht rfl
    · exact z_out hk ht rfl
  · exact z_out hk ht rfl
theorem kX7_standing {n : Nat} {own : String} {cc : ByteArray} {nL h index : Nat} {α : Type} {fin : α → zO} {σ : zW} {pc : Nat} {lv : zLV} {st : List zV} {a0 : Nat} {a1 : Int32} {a2 : Int32} {c : Int32 → zW → Option α} {t : Nat → zW → Option α} (F : zFx E) (hk : zk E K own cc nL h) (hd : decode cc pc = .ok (.invokevirtual index, 3)) (hl : Cond.methodLink own index qX7_standing ∈ lw_tbl) (hh : 7 + 1 ≤ h) (hs : zcat st ≤ 8) (k : ∀ v s, zG E K fin (c v s) s (pc + 3) lv (.inl v :: st)) (kt : ∀ kx s, zT E K fin (t kx s) kx s pc lv) : zG E K fin (zck σ 8 a0 (zbx (fX7_standing n a0 a1 a2 σ) c t)) σ pc lv (.inl a2 :: .inl a1 :: .inr (.inl a0) :: st) :=
  z_vT (n := 2) (y := qX7_standing) (As := [.inl a1, .inl a2]) hk hd hl wd_779 wd_780 wd_1 wd_781 ⟨by decide, by decide, by decide +kernel⟩ ⟨hh, by decide⟩ (ci := 7) rfl rfl rfl (fun o ho => mX7_standing F n a0 a1 a2 σ o ho) hs k kt
abbrev qX7_limit : MethodName := { cls := "LotSales", name := "limit", desc := "(III)I" }
def fX7_limit (n : Nat) (a0 : Nat) (a1 : Int32) (a2 : Int32) (a3 : Int32) (σ : zW) : Option ((Int32 ⊕ Nat) × zW) := zck σ 8 a0 (zbx (fX7_needLot n a0 a1 σ) (fun _ σ2 => zbx (fX7_needWithin n a3 0 2 σ2) (fun _ σ6 => zgR σ6 8 a0 0 fun x9 => zgR σ6 4 x9 3 fun x10 => zaR σ6 25 x10 a1 fun x11 => zbx (fX7_needState n x11 1 σ6) (fun _ σ13 => zgR σ13 8 a0 1 fun x16 => zgR σ13 8 a0 0 fun x17 => zgR σ13 4 x17 0 fun x18 => zck σ13 5 x16 (zb (fX4_settle n x16 x11 x18 σ13) fun σ19 => zgR σ19 8 a0 1 fun x20 => zck σ19 5 x20 (zb (fX4_bidderAt n x20 a2 σ19) fun x21 => if x21 = (-1) then zth σ19 fun σ28 => some (.inr 4, σ28) else if a3 = 0 then some (.inl x21, σ19) else if a3 = 1 then zgR σ19 8 a0 1 fun x22 => zgR σ19 5 x22 0 fun x23 => zaI σ19 x23 x21 fun x24 => some (.inl x24, σ19) else zgR σ19 8 a0 1 fun x25 => zgR σ19 5 x25 1 fun x26 => zaI σ19 x26 x21 fun x27 => some (.inl x27, σ19)))) (fun e14 σ15 => some (.inr e14, σ15))) (fun e7 σ8 => some (.inr e7, σ8))) (fun e3 σ4 => some (.inr e3, σ4)))
theorem mX7_limit (F : zFx E) (n : Nat) (a0 : Nat) (a1 : Int32) (a2 : Int32) (a3 : Int32) (σ : zW) (o : (Int32 ⊕ Nat) × zW) (hf : fX7_limit n a0 a1 a2 a3 σ = some o) : zMX E qX7_limit (.code qX7_limit cX7_limit 6 (some .int)) 7 [.inr (.inl a0), .inl a1, .inl a2, .inl a3] σ (zfT o) := by
  refine zMX_of (fin := zfT) F (by decide +kernel) rfl (Nat.le_of_ble_eq_true rfl) (lv0 := [some (.inr (.inl a0)), some (.inl a1), some (.inl a2), some (.inl a3), none, none]) rfl hf rfl (fun K hk he ht => ?_)
  have hk : zk E K "LotSales" cX7_limit 6 7 := hk
  unfold fX7_limit
  refine z_run hk hX7_limit_0 0 2 (pc' := 2) (lv' := [some (.inr (.inl a0)), some (.inl a1), some (.inl a2), some (.inl a3), none, none]) (st' := [.inl a1, .inr (.inl a0)]) rfl ?_
  refine kX7_needLot F hk (z_row hX7_limit_0 2 rfl) wd_510 (by decide) (Nat.le_of_ble_eq_true rfl) (fun x1 σ2 => ?_) (fun e3 σ4 => ?_)
  · refine z_run hk hX7_limit_0 3 3 (pc' := 8) (lv' := [some (.inr (.inl a0)), some (.inl a1), some (.inl a2), some (.inl a3), none, none]) (st' := [.inl 2, .inl 0, .inl a3]) rfl ?_
    refine kX7_needWithin F hk (z_row hX7_limit_0 6 rfl) wd_350 (by decide) (Nat.le_of_ble_eq_true rfl) (fun x5 σ6 => ?_) (fun e7 σ8 => ?_)
    · refine z_run hk hX7_limit_0 7 1 (pc' := 12) (lv' := [some (.inr (.inl a0)), some (.inl a1), some (.inl a2), some (.inl a3), none, none]) (st' := [.inr (.inl a0)]) rfl ?_
      refine z_gR hk 0 (z_row hX7_limit_0 8 rfl) (ci := 7) rfl rfl wd_268 (fun x9 => ?_)
      refine z_gR hk 3 (z_row hX7_limit_0 9 rfl) (ci := 3) rfl rfl wd_167 (fun x10 => ?_)
      refine z_run hk hX7_limit_0 10 1 (pc' := 19) (lv' := [some (.inr (.inl a0)), some (.inl a1), some (.inl a2), some (.inl a3), none, none]) (st' := [.inl a1, .inr (.inl x10)]) rfl ?_
      refine z_aR hk (κ := 25) (by decide) (z_row hX7_limit_0 11 rfl) (fun x11 => ?_)
      refine z_run hk hX7_limit_0 12 3 (pc' := 25) (lv' := [some (.inr (.inl a0)), some (.inl a1), some (.inl a2), some (.inl a3), some (.inr (.inl x11)), none]) (st' := [.inl 1, .inr (.inl x11)]) rfl ?_
      refine kX7_needState F hk (z_row hX7_limit_0 15 rfl) wd_782 (by decide) (Nat.le_of_ble_eq_true rfl) (fun x12 σ13 => ?_) (fun e14 σ15 => ?_)
      · refine z_run hk hX7_limit_0 16 1 (pc' := 29) (lv' := [some (.inr (.inl a0)), some (.inl a1), some (.inl a2), some (.inl a3), some (.inr (.inl x11)), none]) (st' := [.inr (.inl a0)]) rfl ?_
        refine z_gR hk 1 (z_row hX7_limit_0 17 rfl) (ci := 7) rfl rfl wd_269 (fun x16 => ?_)
        refine z_run hk hX7_limit_0 18 2 (pc' := 35) (lv' := [some (.inr (.inl a0)), some (.inl a1), some (.inl a2), some (.inl a3), some (.inr (.inl x11)), none]) (st' := [.inr (.inl a0), .inr (.inl x11), .inr (.inl x16)]) rfl ?_
        refine z_gR hk 0 (z_row hX7_limit_0 20 rfl) (ci := 7) rfl rfl wd_268 (fun x17 => ?_)
        refine z_gR hk 0 (z_row hX7_limit_0 21 rfl) (ci := 3) rfl rfl wd_161 (fun x18 => ?_)
        refine kX4_settle F hk (z_row hX7_limit_0 22 rfl) wd_716 (by decide) (Nat.le_of_ble_eq_true rfl) (fun σ19 => ?_)
        refine z_run hk hX7_limit_0 23 1 (pc' := 45) (lv' := [some (.inr (.inl a0)), some (.inl a1), some (.inl a2), some (.inl a3), some (.inr (.inl x11)), none]) (st' := [.inr (.inl a0)]) rfl ?_
        refine z_gR hk 1 (z_row hX7_limit_0 24 rfl) (ci := 7) rfl rfl wd_269 (fun x20 => ?_)
        refine z_run hk hX7_limit_0 25 1 (pc' := 49) (lv' := [some (.inr (.inl a0)), some (.inl a1), some (.inl a2), some (.inl a3), some (.inr (.inl x11)), none]) (st' := [.inl a2, .inr (.inl x20)]) rfl ?_
        refine kX4_bidderAt F hk (z_row hX7_limit_0 26 rfl) wd_801 (by decide) (Nat.le_of_ble_eq_true rfl) (fun x21 => ?_)
        refine z_run hk hX7_limit_0 27 3 (pc' := 57) (lv' := [some (.inr (.inl a0)), some (.inl a1), some (.inl a2), some (.inl a3), some (.inr (.inl x11)), some (.inl x21)]) (st' := [.inl (-1), .inl x21]) rfl ?_
        refine z_cne hk (z_row hX7_limit_0 30 rfl) (tgt := 70) rfl ?_ ?_
        · refine z_run hk hX7_limit_0 36 1 (pc' := 71) (lv' := [some (.inr (.inl a0)), some (.inl a1), some (.inl a2), some (.inl a3), some (.inr (.inl x11)), some (.inl x21)]) (st' := [.inl a3]) rfl ?_
          refine z_lkI hk (z_row hX7_limit_0 37 rfl) (c := 0) (tgt := 96) (by decide) (by decide) ?_ (fun hn0 => ?_)
          · refine z_run hk hX7_limit_0 38 1 (pc' := 98) (lv' := [some (.inr (.inl a0)), some (.inl a1), some (.inl a2), some (.inl a3), some (.inr (.inl x11)), some (.inl x21)]) (st' := [.inl x21]) rfl ?_
            exact z_iret hk he (z_row hX7_limit_0 39 rfl) rfl
          refine z_lkI hk (z_row hX7_limit_0 37 rfl) (c := 1) (tgt := 99) (by decide) (by decide) ?_ (fun hn1 => ?_)
          · refine z_run hk hX7_limit_0 40 1 (pc' := 100) (lv' := [some (.inr (.inl a0)), some (.inl a1), some (.inl a2), some (.inl a3), some (.inr (.inl x11)), some (.inl x21)]) (st' := [.inr (.inl a0)]) rfl ?_
            refine z_gR hk 1 (z_row hX7_limit_0 41 rfl) (ci := 7) rfl rfl wd_269 (fun x22 => ?_)
            refine z_gR hk 0 (z_row hX7_limit_0 42 rfl) (ci := 4) rfl rfl wd_196 (fun x23 => ?_)
            refine z_run hk hX7_limit_0 43 1 (pc' := 108) (lv' := [some (.inr (.inl a0)), some (.inl a1), some (.inl a2), some (.inl a3), some (.inr (.inl x11)), some (.inl x21)]) (st' := [.inl x21, .inr (.inl x23)]) rfl ?_
            refine z_aI hk (z_row hX7_limit_0 44 rfl) (fun x24 => ?_)
            exact z_iret hk he (z_row hX7_limit_0 45 rfl) rfl
          refine z_lkO hk (z_row hX7_limit_0 37 rfl) (tgt := 110) (by decide) (by rw [lv_osw hn0 (by decide), lv_osw hn1 (by decide), Op.lookupswitch.offset_nil]) rfl ?_
          refine z_run hk hX7_limit_0 46 1 (pc' := 111) (lv' := [some (.inr (.inl a0)), some (.inl a1), some (.inl a2), some (.inl a3), some (.inr (.inl x11)), some (.inl x21)]) (st' := [.inr (.inl a0)]) rfl ?_
          refine z_gR hk 1 (z_row hX7_limit_0 47 rfl) (ci := 7) rfl rfl wd_269 (fun x25 => ?_)
          refine z_gR hk 1 (z_row hX7_limit_0 48 rfl) (ci := 4) rfl rfl wd_198 (fun x26 => ?_)
          refine z_run hk hX7_limit_0 49 1 (pc' := 119) (lv' := [some (.inr (.inl a0)), some (.inl a1), some (.inl a2), some (.inl a3), some (.inr (.inl x11)), some (.inl x21)]) (st' := [.inl x21, .inr (.inl x26)]) rfl ?_
          refine z_aI hk (z_row hX7_limit_0 50 rfl) (fun x27 => ?_)
          exact z_iret hk he (z_row hX7_limit_0 51 rfl) rfl
        · exact z_throw4 hk ht (is := 217) (text := "no such rank") (fun _ => rfl) (fun _ => rfl) wd_809 wd_645 wd_20 (by decide +kernel) (z_row hX7_limit_0 31 rfl) (z_row hX7_limit_0 32 rfl) (z_row hX7_limit_0 33 rfl) (z_row hX7_limit_0 34 rfl) (z_row hX7_limit_0 35 rfl) (by decide) (Nat.le_of_ble_eq_true rfl)
      · exact z_out hk ht rfl
    · exact z_out hk ht rfl
  · exact z_out hk ht rfl
theorem kX7_limit {n : Nat} {own : String} {cc : ByteArray} {nL h index : Nat} {α : Type} {fin : α → zO} {σ : zW} {pc : Nat} {lv : zLV} {st : List zV} {a0 : Nat} {a1 : Int32} {a2 : Int32} {a3 : Int32} {c : Int32 → zW → Option α} {t : Nat → zW → Option α} (F : zFx E) (hk : zk E K own cc nL h) (hd : decode cc pc = .ok (.invokevirtual index, 3)) (hl : Cond.methodLink own index qX7_limit ∈ lw_tbl) (hh : 7 + 1 ≤ h) (hs : zcat st ≤ 8) (k : ∀ v s, zG E K fin (c v s) s (pc + 3) lv (.inl v :: st)) (kt : ∀ kx s, zT E K fin (t kx s) kx s pc lv) : zG E K fin (zck σ 8 a0 (zbx (fX7_limit n a0 a1 a2 a3 σ) c t)) σ pc lv (.inl a3 :: .inl a2 :: .inl a1 :: .inr (.inl a0) :: st) :=
  z_vT (n := 3) (y := qX7_limit) (As := [.inl a1, .inl a2, .inl a3]) hk hd hl wd_798 wd_799 wd_1 wd_800 ⟨by decide, by decide, by decide +kernel⟩ ⟨hh, by decide⟩ (ci := 7) rfl rfl rfl (fun o ho => mX7_limit F n a0 a1 a2 a3 σ o ho) hs k kt
abbrev qX7_priceIf : MethodName := { cls := "LotSales", name := "priceIf", desc := "(III)I" }
def fX7_priceIf (n : Nat) (a0 : Nat) (a1 : Int32) (a2 : Int32) (a3 : Int32) (σ : zW) : Option ((Int32 ⊕ Nat) × zW) := zck σ 8 a0 (zbx (fX7_needLot n a0 a1 σ) (fun _ σ2 => zbx (fX7_needBidder n a2 σ2) (fun _ σ6 => zbx (fX7_needWithin n a3 1 99999 σ6) (fun _ σ10 => zgR σ10 8 a0 0 fun x13 => zgR σ10 4 x13 0 fun x14 => zck σ10 6 x14 (zb (fX5_isStep n x14 a3 σ10) fun x15 => if x15 = 0 then zth σ10 fun σ35 => some (.inr 2, σ35) else zgR σ10 8 a0 0 fun x16 => zgR σ10 4 x16 3 fun x17 => zaR σ10 25 x17 a1 fun x18 => zbx (fX7_needState n x18 1 σ10) (fun _ σ20 => zgR σ20 8 a0 1 fun x23 => zgR σ20 8 a0 0 fun x24 => zgR σ20 4 x24 0 fun x25 => zck σ20 5 x23 (zb (fX4_settle n x23 x18 x25 σ20) fun σ26 => zgR σ26 8 a0 1 fun x27 => zgR σ26 8 a0 0 fun x28 => zgI σ26 4 x28 6 fun x29 => zck σ26 5 x27 (zb (fX4_raise n x27 a2 a3 (x29 + 1) σ26) fun σ30 => zgR σ30 8 a0 1 fun x31 => zgR σ30 8 a0 0 fun x32 => zgR σ30 4 x32 0 fun x33 => zck σ30 5 x31 (zb (fX4_price n x31 x33 σ30) fun x34 => some (.inl x34, σ30))))) (fun e21 σ22 => some (.inr e21, σ22)))) (fun e11 σ12 => some (.inr e11, σ12))) (fun e7 σ8 => some (.inr e7, σ8))) (fun e3 σ4 => some (.inr e3, σ4)))
theorem mX7_priceIf (F : zFx E) (n : Nat) (a0 : Nat) (a1 : Int32) (a2 : Int32) (a3 : Int32) (σ : zW) (o : (Int32 ⊕ Nat) × zW) (hf : fX7_priceIf n a0 a1 a2 a3 σ = some o) : zMX E qX7_priceIf (.code qX7_priceIf cX7_priceIf 5 (some .int)) 7 [.inr (.inl a0), .inl a1, .inl a2, .inl a3] σ (zfT o) := by
  refine zMX_of (fin := zfT) F (by decide +kernel) rfl (Nat.le_of_ble_eq_true rfl) (lv0 := [some (.inr (.inl a0)), some (.inl a1), some (.inl a2), some (.inl a3), none]) rfl hf rfl (fun K hk he ht => ?_)
  have hk : zk E K "LotSales" cX7_priceIf 5 7 := hk
  unfold fX7_priceIf
  refine z_run hk hX7_priceIf_0 0 2 (pc' := 2) (lv' := [some (.inr (.inl a0)), some (.inl a1), some (.inl a2), some (.inl a3), none]) (st' := [.inl a1, .inr (.inl a0)]) rfl ?_
  refine kX7_needLot F hk (z_row hX7_priceIf_0 2 rfl) wd_510 (by decide) (Nat.le_of_ble_eq_true rfl) (fun x1 σ2 => ?_) (fun e3 σ4 => ?_)
  · refine z_run hk hX7_priceIf_0 3 1 (pc' := 6) (lv' := [some (.inr (.inl a0)), some (.inl a1), some (.inl a2), some (.inl a3), none]) (st' := [.inl a2]) rfl ?_
    refine kX7_needBidder F hk (z_row hX7_priceIf_0 4 rfl) wd_599 (by decide) (Nat.le_of_ble_eq_true rfl) (fun x5 σ6 => ?_) (fun e7 σ8 => ?_)
    · refine z_run hk hX7_priceIf_0 5 2 (pc' := 11) (lv' := [some (.inr (.inl a0)), some (.inl a1), some (.inl a2), some (.inl a3), none]) (st' := [.inl 1, .inl a3]) rfl ?_
      refine z_ldc hk (z_row hX7_priceIf_0 7 rfl) wd_572 ?_
      refine kX7_needWithin F hk (z_row hX7_priceIf_0 8 rfl) wd_350 (by decide) (Nat.le_of_ble_eq_true rfl) (fun x9 σ10 => ?_) (fun e11 σ12 => ?_)
      · refine z_run hk hX7_priceIf_0 9 1 (pc' := 17) (lv' := [some (.inr (.inl a0)), some (.inl a1), some (.inl a2), some (.inl a3), none]) (st' := [.inr (.inl a0)]) rfl ?_
        refine z_gR hk 0 (z_row hX7_priceIf_0 10 rfl) (ci := 7) rfl rfl wd_268 (fun x13 => ?_)
        refine z_gR hk 0 (z_row hX7_priceIf_0 11 rfl) (ci := 3) rfl rfl wd_161 (fun x14 => ?_)
        refine z_run hk hX7_priceIf_0 12 1 (pc' := 24) (lv' := [some (.inr (.inl a0)), some (.inl a1), some (.inl a2), some (.inl a3), none]) (st' := [.inl a3, .inr (.inl x14)]) rfl ?_
        refine kX5_isStep F hk (z_row hX7_priceIf_0 13 rfl) wd_751 (by decide) (Nat.le_of_ble_eq_true rfl) (fun x15 => ?_)
        refine z_ne hk (z_row hX7_priceIf_0 14 rfl) (tgt := 40) rfl ?_ ?_
        · refine z_run hk hX7_priceIf_0 20 1 (pc' := 41) (lv' := [some (.inr (.inl a0)), some (.inl a1), some (.inl a2), some (.inl a3), none]) (st' := [.inr (.inl a0)]) rfl ?_
          refine z_gR hk 0 (z_row hX7_priceIf_0 21 rfl) (ci := 7) rfl rfl wd_268 (fun x16 => ?_)
          refine z_gR hk 3 (z_row hX7_priceIf_0 22 rfl) (ci := 3) rfl rfl wd_167 (fun x17 => ?_)
          refine z_run hk hX7_priceIf_0 23 1 (pc' := 48) (lv' := [some (.inr (.inl a0)), some (.inl a1), some (.inl a2), some (.inl a3), none]) (st' := [.inl a1, .inr (.inl x17)]) rfl ?_
          refine z_aR hk (κ := 25) (by decide) (z_row hX7_priceIf_0 24 rfl) (fun x18 => ?_)
          refine z_run hk hX7_priceIf_0 25 3 (pc' := 54) (lv' := [some (.inr (.inl a0)), some (.inl a1), some (.inl a2), some (.inl a3), some (.inr (.inl x18))]) (st' := [.inl 1, .inr (.inl x18)]) rfl ?_
          refine kX7_needState F hk (z_row hX7_priceIf_0 28 rfl) wd_782 (by decide) (Nat.le_of_ble_eq_true rfl) (fun x19 σ20 => ?_) (fun e21 σ22 => ?_)
          · refine z_run hk hX7_priceIf_0 29 1 (pc' := 58) (lv' := [some (.inr (.inl a0)), some (.inl a1), some (.inl a2), some (.inl a3), some (.inr (.inl x18))]) (st' := [.inr (.inl a0)]) rfl ?_
            refine z_gR hk 1 (z_row hX7_priceIf_0 30 rfl) (ci := 7) rfl rfl wd_269 (fun x23 => ?_)
            refine z_run hk hX7_priceIf_0 31 2 (pc' := 64) (lv' := [some (.inr (.inl a0)), some (.inl a1), some (.inl a2), some (.inl a3), some (.inr (.inl x18))]) (st' := [.inr (.inl a0), .inr (.inl x18), .inr (.inl x23)]) rfl ?_
            refine z_gR hk 0 (z_row hX7_priceIf_0 33 rfl) (ci := 7) rfl rfl wd_268 (fun x24 => ?_)
            refine z_gR hk 0 (z_row hX7_priceIf_0 34 rfl) (ci := 3) rfl rfl wd_161 (fun x25 => ?_)
            refine kX4_settle F hk (z_row hX7_priceIf_0 35 rfl) wd_716 (by decide) (Nat.le_of_ble_eq_true rfl) (fun σ26 => ?_)
            refine z_run hk hX7_priceIf_0 36 1 (pc' := 74) (lv' := [some (.inr (.inl a0)), some (.inl a1), some (.inl a2), some (.inl a3), some (.inr (.inl x18))]) (st' := [.inr (.inl a0)]) rfl ?_
            refine z_gR hk 1 (z_row hX7_priceIf_0 37 rfl) (ci := 7) rfl rfl wd_269 (fun x27 => ?_)
            refine z_run hk hX7_priceIf_0 38 3 (pc' := 80) (lv' := [some (.inr (.inl a0)), some (.inl a1), some (.inl a2), some (.inl a3), some (.inr (.inl x18))]) (st' := [.inr (.inl a0), .inl a3, .inl a2, .inr (.inl x27)]) rfl ?_
            refine z_gR hk 0 (z_row hX7_priceIf_0 41 rfl) (ci := 7) rfl rfl wd_268 (fun x28 => ?_)
            refine z_gI hk 6 (z_row hX7_priceIf_0 42 rfl) (ci := 3) rfl rfl wd_173 (fun x29 => ?_)
            refine z_run hk hX7_priceIf_0 43 2 (pc' := 88) (lv' := [some (.inr (.inl a0)), some (.inl a1), some (.inl a2), some (.inl a3), some (.inr (.inl x18))]) (st' := [.inl (x29 + 1), .inl a3, .inl a2, .inr (.inl x27)]) rfl ?_
            refine kX4_raise F hk (z_row hX7_priceIf_0 45 rfl) wd_818 (by decide) (Nat.le_of_ble_eq_true rfl) (fun σ30 => ?_)
            refine z_run hk hX7_priceIf_0 46 1 (pc' := 92) (lv' := [some (.inr (.inl a0)), some (.inl a1), some (.inl a2), some (.inl a3), some (.inr (.inl x18))]) (st' := [.inr (.inl a0)]) rfl ?_
            refine z_gR hk 1 (z_row hX7_priceIf_0 47 rfl) (ci := 7) rfl rfl wd_269 (fun x31 => ?_)
            refine z_run hk hX7_priceIf_0 48 1 (pc' := 96) (lv' := [some (.inr (.inl a0)), some (.inl a1), some (.inl a2), some (.inl a3), some (.inr (.inl x18))]) (st' := [.inr (.inl a0), .inr (.inl x31)]) rfl ?_
            refine z_gR hk 0 (z_row hX7_priceIf_0 49 rfl) (ci := 7) rfl rfl wd_268 (fun x32 => ?_)
            refine z_gR hk 0 (z_row hX7_priceIf_0 50 rfl) (ci := 3) rfl rfl wd_161 (fun x33 => ?_)
            refine kX4_price F hk (z_row hX7_priceIf_0 51 rfl) wd_731 (by decide) (Nat.le_of_ble_eq_true rfl) (fun x34 => ?_)
            exact z_iret hk he (z_row hX7_priceIf_0 52 rfl) rfl
          · exact z_out hk ht rfl
        · exact z_throw hk ht (is := 229) (text := "the amount is not a step") (kx := 2) (by decide) (by decide) (by decide) (fun _ => rfl) (fun _ => rfl) wd_817 wd_353 wd_14 (by decide +kernel) (z_row hX7_priceIf_0 15 rfl) (z_row hX7_priceIf_0 16 rfl) (z_row hX7_priceIf_0 17 rfl) (z_row hX7_priceIf_0 18 rfl) (z_row hX7_priceIf_0 19 rfl) (by decide) (Nat.le_of_ble_eq_true rfl)
      · exact z_out hk ht rfl
    · exact z_out hk ht rfl
  · exact z_out hk ht rfl
theorem kX7_priceIf {n : Nat} {own : String} {cc : ByteArray} {nL h index : Nat} {α : Type} {fin : α → zO} {σ : zW} {pc : Nat} {lv : zLV} {st : List zV} {a0 : Nat} {a1 : Int32} {a2 : Int32} {a3 : Int32} {c : Int32 → zW → Option α} {t : Nat → zW → Option α} (F : zFx E) (hk : zk E K own cc nL h) (hd : decode cc pc = .ok (.invokevirtual index, 3)) (hl : Cond.methodLink own index qX7_priceIf ∈ lw_tbl) (hh : 7 + 1 ≤ h) (hs : zcat st ≤ 8) (k : ∀ v s, zG E K fin (c v s) s (pc + 3) lv (.inl v :: st)) (kt : ∀ kx s, zT E K fin (t kx s) kx s pc lv) : zG E K fin (zck σ 8 a0 (zbx (fX7_priceIf n a0 a1 a2 a3 σ) c t)) σ pc lv (.inl a3 :: .inl a2 :: .inl a1 :: .inr (.inl a0) :: st) :=
  z_vT (n := 3) (y := qX7_priceIf) (As := [.inl a1, .inl a2, .inl a3]) hk hd hl wd_814 wd_815 wd_1 wd_816 ⟨by decide, by decide, by decide +kernel⟩ ⟨hh, by decide⟩ (ci := 7) rfl rfl rfl (fun o ho => mX7_priceIf F n a0 a1 a2 a3 σ o ho) hs k kt
abbrev qX7_feeOf : MethodName := { cls := "LotSales", name := "feeOf", desc := "(I)I" }
def fX7_feeOf (n : Nat) (a0 : Int32) (σ : zW) : Option (Int32) := zdv 100 (some ((a0 * 2) / 100))
theorem mX7_feeOf (F : zFx E) (n : Nat) (a0 : Int32) (σ : zW) (o : Int32) (hf : fX7_feeOf n a0 σ = some o) : zM E qX7_feeOf cX7_feeOf 1 (some .int) 0 [.inl a0] σ (some (.int o)) σ := by
  refine zM_of (fin := (zfR σ)) F (by decide +kernel) rfl (Nat.le_of_ble_eq_true rfl) (lv0 := [some (.inl a0)]) rfl hf rfl (fun K hk he => ?_)
  have hk : zk E K "LotSales" cX7_feeOf 1 0 := hk
  unfold fX7_feeOf
  refine z_run hk hX7_feeOf_0 0 4 (pc' := 5) (lv' := [some (.inl a0)]) (st' := [.inl 100, .inl (a0 * 2)]) rfl ?_
  refine z_idiv hk (z_row hX7_feeOf_0 4 rfl) ?_
  exact z_iret hk he (z_row hX7_feeOf_0 5 rfl) rfl
theorem kX7_feeOf {n : Nat} {own : String} {cc : ByteArray} {nL h index : Nat} {α : Type} {fin : α → zO} {σ : zW} {pc : Nat} {lv : zLV} {st : List zV} {a0 : Int32} {c : Int32 → Option α} (F : zFx E) (hk : zk E K own cc nL h) (hd : decode cc pc = .ok (.invokestatic index, 3)) (hl : Cond.methodLink own index qX7_feeOf ∈ lw_tbl) (hh : 0 + 1 ≤ h) (hs : zcat st ≤ 8) (k : ∀ v, zG E K fin (c v) σ (pc + 3) lv (.inl v :: st)) : zG E K fin (zb (fX7_feeOf n a0 σ) c) σ pc lv (.inl a0 :: st) :=
  z_qR (n := 1) (y := qX7_feeOf) (As := [.inl a0]) hk hd hl wd_839 wd_1 wd_840 ⟨by decide, by decide, by decide +kernel⟩ ⟨hh, by decide⟩ rfl (fun o ho => mX7_feeOf F n a0 σ o ho) hs k
abbrev qX7_buyIn : MethodName := { cls := "LotSales", name := "buyIn", desc := "(ILLotSales$Lot;)V" }
def fX7_buyIn (n : Nat) (a0 : Nat) (a1 : Int32) (a2 : Nat) (σ : zW) : Option (zW) := zgI σ 3 a2 7 fun x1 => zb (fX7_feeOf n x1 σ) fun x2 => zpI σ 3 a2 4 3 fun σ3 => zgR σ3 8 a0 1 fun x4 => zck σ3 5 x4 (zb (fX4_reasonBelowReserve n x4 σ3) fun x5 => zpI σ3 3 a2 9 x5 fun σ6 => zgR σ6 8 a0 0 fun x7 => zgR σ6 4 x7 2 fun x8 => zgI σ6 3 a2 5 fun x9 => zaI σ6 x8 x9 fun x10 => zsI σ6 x8 x9 (x10 + x2) fun σ11 => zgR σ11 8 a0 0 fun x12 => zgR σ11 4 x12 4 fun x13 => zck σ11 2 x13 (zb (fX1_note n x13 4 a1 (-1) x2 σ11) fun σ14 => some σ14))
theorem mX7_buyIn (F : zFx E) (n : Nat) (a0 : Nat) (a1 : Int32) (a2 : Nat) (σ : zW) (o : zW) (hf : fX7_buyIn n a0 a1 a2 σ = some o) : zM E qX7_buyIn cX7_buyIn 4 none 1 [.inr (.inl a0), .inl a1, .inr (.inl a2)] σ none o := by
  refine zM_of (fin := zfV) F (by decide +kernel) rfl (Nat.le_of_ble_eq_true rfl) (lv0 := [some (.inr (.inl a0)), some (.inl a1), some (.inr (.inl a2)), none]) rfl hf rfl (fun K hk he => ?_)
  have hk : zk E K "LotSales" cX7_buyIn 4 1 := hk
  unfold fX7_buyIn
  refine z_run hk hX7_buyIn_0 0 1 (pc' := 1) (lv' := [some (.inr (.inl a0)), some (.inl a1), some (.inr (.inl a2)), none]) (st' := [.inr (.inl a2)]) rfl ?_
  refine z_gI hk 7 (z_row hX7_buyIn_0 1 rfl) (ci := 2) rfl rfl wd_123 (fun x1 => ?_)
  refine kX7_feeOf F hk (z_row hX7_buyIn_0 2 rfl) wd_838 (by decide) (Nat.le_of_ble_eq_true rfl) (fun x2 => ?_)
  refine z_run hk hX7_buyIn_0 3 3 (pc' := 10) (lv' := [some (.inr (.inl a0)), some (.inl a1), some (.inr (.inl a2)), some (.inl x2)]) (st' := [.inl 3, .inr (.inl a2)]) rfl ?_
  refine z_pI hk 4 (z_row hX7_buyIn_0 6 rfl) (ci := 2) rfl rfl wd_113 rfl rfl rfl (fun σ3 => ?_)
  refine z_run hk hX7_buyIn_0 7 2 (pc' := 15) (lv' := [some (.inr (.inl a0)), some (.inl a1), some (.inr (.inl a2)), some (.inl x2)]) (st' := [.inr (.inl a0), .inr (.inl a2)]) rfl ?_
  refine z_gR hk 1 (z_row hX7_buyIn_0 9 rfl) (ci := 7) rfl rfl wd_269 (fun x4 => ?_)
  refine kX4_reasonBelowReserve F hk (z_row hX7_buyIn_0 10 rfl) wd_841 (by decide) (Nat.le_of_ble_eq_true rfl) (fun x5 => ?_)
  refine z_pI hk 9 (z_row hX7_buyIn_0 11 rfl) (ci := 2) rfl rfl wd_128 rfl rfl rfl (fun σ6 => ?_)
  refine z_run hk hX7_buyIn_0 12 1 (pc' := 25) (lv' := [some (.inr (.inl a0)), some (.inl a1), some (.inr (.inl a2)), some (.inl x2)]) (st' := [.inr (.inl a0)]) rfl ?_
  refine z_gR hk 0 (z_row hX7_buyIn_0 13 rfl) (ci := 7) rfl rfl wd_268 (fun x7 => ?_)
  refine z_gR hk 2 (z_row hX7_buyIn_0 14 rfl) (ci := 3) rfl rfl wd_165 (fun x8 => ?_)
  refine z_run hk hX7_buyIn_0 15 1 (pc' := 32) (lv' := [some (.inr (.inl a0)), some (.inl a1), some (.inr (.inl a2)), some (.inl x2)]) (st' := [.inr (.inl a2), .inr (.inl x8)]) rfl ?_
  refine z_gI hk 5 (z_row hX7_buyIn_0 16 rfl) (ci := 2) rfl rfl wd_116 (fun x9 => ?_)
  refine z_run hk hX7_buyIn_0 17 1 (pc' := 36) (lv' := [some (.inr (.inl a0)), some (.inl a1), some (.inr (.inl a2)), some (.inl x2)]) (st' := [.inl x9, .inr (.inl x8), .inl x9, .inr (.inl x8)]) rfl ?_
  refine z_aI hk (z_row hX7_buyIn_0 18 rfl) (fun x10 => ?_)
  refine z_run hk hX7_buyIn_0 19 2 (pc' := 39) (lv' := [some (.inr (.inl a0)), some (.inl a1), some (.inr (.inl a2)), some (.inl x2)]) (st' := [.inl (x10 + x2), .inl x9, .inr (.inl x8)]) rfl ?_
  refine z_sI hk (z_row hX7_buyIn_0 21 rfl) (fun σ11 => ?_)
  refine z_run hk hX7_buyIn_0 22 1 (pc' := 41) (lv' := [some (.inr (.inl a0)), some (.inl a1), some (.inr (.inl a2)), some (.inl x2)]) (st' := [.inr (.inl a0)]) rfl ?_
  refine z_gR hk 0 (z_row hX7_buyIn_0 23 rfl) (ci := 7) rfl rfl wd_268 (fun x12 => ?_)
  refine z_gR hk 4 (z_row hX7_buyIn_0 24 rfl) (ci := 3) rfl rfl wd_169 (fun x13 => ?_)
  refine z_run hk hX7_buyIn_0 25 4 (pc' := 51) (lv' := [some (.inr (.inl a0)), some (.inl a1), some (.inr (.inl a2)), some (.inl x2)]) (st' := [.inl x2, .inl (-1), .inl a1, .inl 4, .inr (.inl x13)]) rfl ?_
  refine kX1_note F hk (z_row hX7_buyIn_0 29 rfl) wd_636 (by decide) (Nat.le_of_ble_eq_true rfl) (fun σ14 => ?_)
  exact z_vret hk he (z_row hX7_buyIn_0 30 rfl) rfl
theorem kX7_buyIn {n : Nat} {own : String} {cc : ByteArray} {nL h index : Nat} {α : Type} {fin : α → zO} {σ : zW} {pc : Nat} {lv : zLV} {st : List zV} {a0 : Nat} {a1 : Int32} {a2 : Nat} {c : zW → Option α} (F : zFx E) (hk : zk E K own cc nL h) (hd : decode cc pc = .ok (.invokevirtual index, 3)) (hl : Cond.methodLink own index qX7_buyIn ∈ lw_tbl) (hh : 1 + 1 ≤ h) (hs : zcat st ≤ 8) (k : ∀ s, zG E K fin (c s) s (pc + 3) lv st) : zG E K fin (zck σ 8 a0 (zb (fX7_buyIn n a0 a1 a2 σ) c)) σ pc lv (.inr (.inl a2) :: .inl a1 :: .inr (.inl a0) :: st) :=
  z_vV (n := 2) (y := qX7_buyIn) (As := [.inl a1, .inr (.inl a2)]) hk hd hl wd_836 ws_11 wd_1 wd_837 ⟨by decide, by decide, by decide +kernel⟩ ⟨hh, by decide⟩ (ci := 7) rfl rfl rfl (fun o ho => mX7_buyIn F n a0 a1 a2 σ o ho) hs k
end
