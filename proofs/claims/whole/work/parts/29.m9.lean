section
variable {E : zE} {K : zC}

abbrev qL_open : MethodName := { cls := "LotSalesLaw", name := "open", desc := "(LLotSales;I[J)I" }
def fL_open (n : Nat) (a0 : Nat) (a1 : Int32) (a2 : Nat) (σ : zW) : Option (Int32 × zW) := zck σ 8 a0 (zbx (fX7_open n a0 a1 σ) (fun x1 σ2 => zsL σ2 a2 0 x1 fun σ7 => some (0, σ7)) (fun e3 σ4 => if e3 = 1 then some (1, σ4) else if e3 = 3 then some (2, σ4) else none))
theorem mL_open (F : zFx E) (n : Nat) (a0 : Nat) (a1 : Int32) (a2 : Nat) (σ : zW) (o : Int32 × zW) (hf : fL_open n a0 a1 a2 σ = some o) : zMX E qL_open (.codeWith qL_open cL_open 4 (some .int) [(0, 9, 12, 21), (0, 9, 15, 15)]) 8 [.inr (.inl a0), .inl a1, .inr (.inl a2)] σ (.inl (some (.int o.1)), o.2) := by
  refine zMX_ofH (fin := zfW) F (by decide +kernel) rfl (Nat.le_of_ble_eq_true rfl) (lv0 := [some (.inr (.inl a0)), some (.inl a1), some (.inr (.inl a2)), none]) rfl hf rfl (fun K hk he htab => ?_)
  have hk : zk E K "LotSalesLaw" cL_open 4 8 := hk
  unfold fL_open
  refine z_run hk hL_open_0 0 4 (pc' := 4) (lv' := [some (.inr (.inl a0)), some (.inl a1), some (.inr (.inl a2)), none]) (st' := [.inl a1, .inr (.inl a0), .inl 0, .inr (.inl a2)]) rfl ?_
  refine kX7_open F hk (z_row hL_open_0 4 rfl) wd_707 (by decide) (Nat.le_of_ble_eq_true rfl) (fun x1 σ2 => ?_) (fun e3 σ4 => ?_)
  · refine z_run hk hL_open_0 5 1 (pc' := 8) (lv' := [some (.inr (.inl a0)), some (.inl a1), some (.inr (.inl a2)), none]) (st' := [.inr (.inr (.inl (x1.toInt64))), .inl 0, .inr (.inl a2)]) rfl ?_
    refine z_sL hk (z_row hL_open_0 6 rfl) (fun σ7 => ?_)
    refine z_goto hk (z_row hL_open_0 7 rfl) (tgt := 18) rfl ?_
    refine z_run hk hL_open_0 14 1 (pc' := 19) (lv' := [some (.inr (.inl a0)), some (.inl a1), some (.inr (.inl a2)), none]) (st' := [.inl 0]) rfl ?_
    exact z_iret hk he (z_row hL_open_0 15 rfl) rfl
  · refine z_cat0 (own := "LotSalesLaw") ?_
    refine z_catI hk htab (i := 0) (k1 := 1) (hp := 12) rfl (by decide) (by decide) rfl wd_482 wd_517 (by decide) (by decide) (fun q5 => ?_) ?_
    · refine z_run hk hL_open_0 8 2 (pc' := 14) (lv' := [some (.inr (.inl a0)), some (.inl a1), some (.inr (.inl a2)), some (.inr (.inr (.inr (.inr q5))))]) (st' := [.inl 1]) rfl ?_
      exact z_iret hk he (z_row hL_open_0 10 rfl) rfl
    refine z_catI hk htab (i := 1) (k1 := 3) (hp := 15) rfl (by decide) (by decide) rfl wd_345 wd_432 (by decide) (by decide) (fun q6 => ?_) ?_
    · refine z_run hk hL_open_0 11 2 (pc' := 17) (lv' := [some (.inr (.inl a0)), some (.inl a1), some (.inr (.inl a2)), some (.inr (.inr (.inr (.inr q6))))]) (st' := [.inl 2]) rfl ?_
      exact z_iret hk he (z_row hL_open_0 13 rfl) rfl
    exact z_catN
theorem kL_open {n : Nat} {own : String} {cc : ByteArray} {nL h index : Nat} {α : Type} {fin : α → zO} {σ : zW} {pc : Nat} {lv : zLV} {st : List zV} {a0 : Nat} {a1 : Int32} {a2 : Nat} {c : Int32 → zW → Option α} (F : zFx E) (hk : zk E K own cc nL h) (hd : decode cc pc = .ok (.invokestatic index, 3)) (hl : Cond.methodLink own index qL_open ∈ lw_tbl) (hh : 8 + 1 ≤ h) (hs : zcat st ≤ 8) (k : ∀ v s, zG E K fin (c v s) s (pc + 3) lv (.inl v :: st)) : zG E K fin (zb2 (fL_open n a0 a1 a2 σ) c) σ pc lv (.inr (.inl a2) :: .inl a1 :: .inr (.inl a0) :: st) :=
  z_hW (n := 3) (y := qL_open) (As := [.inr (.inl a0), .inl a1, .inr (.inl a2)]) hk hd hl wd_705 wd_0 wd_706 ⟨by decide, by decide, by decide +kernel⟩ ⟨hh, by decide⟩ rfl (fun o ho => mL_open F n a0 a1 a2 σ o ho) hs k
abbrev qL_bid : MethodName := { cls := "LotSalesLaw", name := "bid", desc := "(LLotSales;III[J)I" }
def fL_bid (n : Nat) (a0 : Nat) (a1 : Int32) (a2 : Int32) (a3 : Int32) (a4 : Nat) (σ : zW) : Option (Int32 × zW) := zck σ 8 a0 (zbx (fX7_bid n a0 a1 a2 a3 σ) (fun x1 σ2 => zsL σ2 a4 0 x1 fun σ8 => some (0, σ8)) (fun e3 σ4 => if e3 = 1 then some (1, σ4) else if e3 = 2 then some (2, σ4) else if e3 = 5 then some (3, σ4) else none))
theorem mL_bid (F : zFx E) (n : Nat) (a0 : Nat) (a1 : Int32) (a2 : Int32) (a3 : Int32) (a4 : Nat) (σ : zW) (o : Int32 × zW) (hf : fL_bid n a0 a1 a2 a3 a4 σ = some o) : zMX E qL_bid (.codeWith qL_bid cL_bid 6 (some .int) [(0, 12, 15, 21), (0, 12, 19, 13), (0, 12, 23, 45)]) 8 [.inr (.inl a0), .inl a1, .inl a2, .inl a3, .inr (.inl a4)] σ (.inl (some (.int o.1)), o.2) := by
  refine zMX_ofH (fin := zfW) F (by decide +kernel) rfl (Nat.le_of_ble_eq_true rfl) (lv0 := [some (.inr (.inl a0)), some (.inl a1), some (.inl a2), some (.inl a3), some (.inr (.inl a4)), none]) rfl hf rfl (fun K hk he htab => ?_)
  have hk : zk E K "LotSalesLaw" cL_bid 6 8 := hk
  unfold fL_bid
  refine z_run hk hL_bid_0 0 6 (pc' := 7) (lv' := [some (.inr (.inl a0)), some (.inl a1), some (.inl a2), some (.inl a3), some (.inr (.inl a4)), none]) (st' := [.inl a3, .inl a2, .inl a1, .inr (.inl a0), .inl 0, .inr (.inl a4)]) rfl ?_
  refine kX7_bid F hk (z_row hL_bid_0 6 rfl) wd_739 (by decide) (Nat.le_of_ble_eq_true rfl) (fun x1 σ2 => ?_) (fun e3 σ4 => ?_)
  · refine z_run hk hL_bid_0 7 1 (pc' := 11) (lv' := [some (.inr (.inl a0)), some (.inl a1), some (.inl a2), some (.inl a3), some (.inr (.inl a4)), none]) (st' := [.inr (.inr (.inl (x1.toInt64))), .inl 0, .inr (.inl a4)]) rfl ?_
    refine z_sL hk (z_row hL_bid_0 8 rfl) (fun σ8 => ?_)
    refine z_goto hk (z_row hL_bid_0 9 rfl) (tgt := 27) rfl ?_
    refine z_run hk hL_bid_0 19 1 (pc' := 28) (lv' := [some (.inr (.inl a0)), some (.inl a1), some (.inl a2), some (.inl a3), some (.inr (.inl a4)), none]) (st' := [.inl 0]) rfl ?_
    exact z_iret hk he (z_row hL_bid_0 20 rfl) rfl
  · refine z_cat0 (own := "LotSalesLaw") ?_
    refine z_catI hk htab (i := 0) (k1 := 1) (hp := 15) rfl (by decide) (by decide) rfl wd_482 wd_517 (by decide) (by decide) (fun q5 => ?_) ?_
    · refine z_run hk hL_bid_0 10 2 (pc' := 18) (lv' := [some (.inr (.inl a0)), some (.inl a1), some (.inl a2), some (.inl a3), some (.inr (.inl a4)), some (.inr (.inr (.inr (.inr q5))))]) (st' := [.inl 1]) rfl ?_
      exact z_iret hk he (z_row hL_bid_0 12 rfl) rfl
    refine z_catI hk htab (i := 1) (k1 := 2) (hp := 19) rfl (by decide) (by decide) rfl wd_344 wd_355 (by decide) (by decide) (fun q6 => ?_) ?_
    · refine z_run hk hL_bid_0 13 2 (pc' := 22) (lv' := [some (.inr (.inl a0)), some (.inl a1), some (.inl a2), some (.inl a3), some (.inr (.inl a4)), some (.inr (.inr (.inr (.inr q6))))]) (st' := [.inl 2]) rfl ?_
      exact z_iret hk he (z_row hL_bid_0 15 rfl) rfl
    refine z_catI hk htab (i := 2) (k1 := 5) (hp := 23) rfl (by decide) (by decide) rfl wd_610 wd_663 (by decide) (by decide) (fun q7 => ?_) ?_
    · refine z_run hk hL_bid_0 16 2 (pc' := 26) (lv' := [some (.inr (.inl a0)), some (.inl a1), some (.inl a2), some (.inl a3), some (.inr (.inl a4)), some (.inr (.inr (.inr (.inr q7))))]) (st' := [.inl 3]) rfl ?_
      exact z_iret hk he (z_row hL_bid_0 18 rfl) rfl
    exact z_catN
theorem kL_bid {n : Nat} {own : String} {cc : ByteArray} {nL h index : Nat} {α : Type} {fin : α → zO} {σ : zW} {pc : Nat} {lv : zLV} {st : List zV} {a0 : Nat} {a1 : Int32} {a2 : Int32} {a3 : Int32} {a4 : Nat} {c : Int32 → zW → Option α} (F : zFx E) (hk : zk E K own cc nL h) (hd : decode cc pc = .ok (.invokestatic index, 3)) (hl : Cond.methodLink own index qL_bid ∈ lw_tbl) (hh : 8 + 1 ≤ h) (hs : zcat st ≤ 8) (k : ∀ v s, zG E K fin (c v s) s (pc + 3) lv (.inl v :: st)) : zG E K fin (zb2 (fL_bid n a0 a1 a2 a3 a4 σ) c) σ pc lv (.inr (.inl a4) :: .inl a3 :: .inl a2 :: .inl a1 :: .inr (.inl a0) :: st) :=
  z_hW (n := 5) (y := qL_bid) (As := [.inr (.inl a0), .inl a1, .inl a2, .inl a3, .inr (.inl a4)]) hk hd hl wd_737 wd_0 wd_738 ⟨by decide, by decide, by decide +kernel⟩ ⟨hh, by decide⟩ rfl (fun o ho => mL_bid F n a0 a1 a2 a3 a4 σ o ho) hs k
abbrev qL_refusal : MethodName := { cls := "LotSalesLaw", name := "refusal", desc := "(LLotSales;[J)I" }
def fL_refusal (n : Nat) (a0 : Nat) (a1 : Nat) (σ : zW) : Option (Int32 × zW) := zck σ 8 a0 (zbx (fX7_refusal n a0 σ) (fun x1 σ2 => zsL σ2 a1 0 x1 fun σ6 => some (0, σ6)) (fun e3 σ4 => if e3 = 4 then some (1, σ4) else none))
theorem mL_refusal (F : zFx E) (n : Nat) (a0 : Nat) (a1 : Nat) (σ : zW) (o : Int32 × zW) (hf : fL_refusal n a0 a1 σ = some o) : zMX E qL_refusal (.codeWith qL_refusal cL_refusal 3 (some .int) [(0, 8, 11, 50)]) 7 [.inr (.inl a0), .inr (.inl a1)] σ (.inl (some (.int o.1)), o.2) := by
  refine zMX_ofH (fin := zfW) F (by decide +kernel) rfl (Nat.le_of_ble_eq_true rfl) (lv0 := [some (.inr (.inl a0)), some (.inr (.inl a1)), none]) rfl hf rfl (fun K hk he htab => ?_)
  have hk : zk E K "LotSalesLaw" cL_refusal 3 7 := hk
  unfold fL_refusal
  refine z_run hk hL_refusal_0 0 3 (pc' := 3) (lv' := [some (.inr (.inl a0)), some (.inr (.inl a1)), none]) (st' := [.inr (.inl a0), .inl 0, .inr (.inl a1)]) rfl ?_
  refine kX7_refusal F hk (z_row hL_refusal_0 3 rfl) wd_763 (by decide) (Nat.le_of_ble_eq_true rfl) (fun x1 σ2 => ?_) (fun e3 σ4 => ?_)
  · refine z_run hk hL_refusal_0 4 1 (pc' := 7) (lv' := [some (.inr (.inl a0)), some (.inr (.inl a1)), none]) (st' := [.inr (.inr (.inl (x1.toInt64))), .inl 0, .inr (.inl a1)]) rfl ?_
    refine z_sL hk (z_row hL_refusal_0 5 rfl) (fun σ6 => ?_)
    refine z_goto hk (z_row hL_refusal_0 6 rfl) (tgt := 14) rfl ?_
    refine z_run hk hL_refusal_0 10 1 (pc' := 15) (lv' := [some (.inr (.inl a0)), some (.inr (.inl a1)), none]) (st' := [.inl 0]) rfl ?_
    exact z_iret hk he (z_row hL_refusal_0 11 rfl) rfl
  · refine z_cat0 (own := "LotSalesLaw") ?_
    refine z_catI hk htab (i := 0) (k1 := 4) (hp := 11) rfl (by decide) (by decide) rfl wd_680 wd_647 (by decide) (by decide) (fun q5 => ?_) ?_
    · refine z_run hk hL_refusal_0 7 2 (pc' := 13) (lv' := [some (.inr (.inl a0)), some (.inr (.inl a1)), some (.inr (.inr (.inr (.inr q5))))]) (st' := [.inl 1]) rfl ?_
      exact z_iret hk he (z_row hL_refusal_0 9 rfl) rfl
    exact z_catN
theorem kL_refusal {n : Nat} {own : String} {cc : ByteArray} {nL h index : Nat} {α : Type} {fin : α → zO} {σ : zW} {pc : Nat} {lv : zLV} {st : List zV} {a0 : Nat} {a1 : Nat} {c : Int32 → zW → Option α} (F : zFx E) (hk : zk E K own cc nL h) (hd : decode cc pc = .ok (.invokestatic index, 3)) (hl : Cond.methodLink own index qL_refusal ∈ lw_tbl) (hh : 7 + 1 ≤ h) (hs : zcat st ≤ 8) (k : ∀ v s, zG E K fin (c v s) s (pc + 3) lv (.inl v :: st)) : zG E K fin (zb2 (fL_refusal n a0 a1 σ) c) σ pc lv (.inr (.inl a1) :: .inr (.inl a0) :: st) :=
  z_hW (n := 2) (y := qL_refusal) (As := [.inr (.inl a0), .inr (.inl a1)]) hk hd hl wd_761 wd_0 wd_762 ⟨by decide, by decide, by decide +kernel⟩ ⟨hh, by decide⟩ rfl (fun o ho => mL_refusal F n a0 a1 σ o ho) hs k
abbrev qL_wouldRefuse : MethodName := { cls := "LotSalesLaw", name := "wouldRefuse", desc := "(LLotSales;ZIII[J)I" }
def fL_wouldRefuse (n : Nat) (a0 : Nat) (a1 : Int32) (a2 : Int32) (a3 : Int32) (a4 : Int32) (a5 : Nat) (σ : zW) : Option (Int32 × zW) := zck σ 8 a0 (zbx (fX7_wouldRefuse n a0 a1 a2 a3 a4 σ) (fun x1 σ2 => zsL σ2 a5 0 x1 fun σ7 => some (0, σ7)) (fun e3 σ4 => if e3 = 1 then some (1, σ4) else if e3 = 2 then some (2, σ4) else none))
theorem mL_wouldRefuse (F : zFx E) (n : Nat) (a0 : Nat) (a1 : Int32) (a2 : Int32) (a3 : Int32) (a4 : Int32) (a5 : Nat) (σ : zW) (o : Int32 × zW) (hf : fL_wouldRefuse n a0 a1 a2 a3 a4 a5 σ = some o) : zMX E qL_wouldRefuse (.codeWith qL_wouldRefuse cL_wouldRefuse 7 (some .int) [(0, 14, 17, 21), (0, 14, 21, 13)]) 8 [.inr (.inl a0), .inl a1, .inl a2, .inl a3, .inl a4, .inr (.inl a5)] σ (.inl (some (.int o.1)), o.2) := by
  refine zMX_ofH (fin := zfW) F (by decide +kernel) rfl (Nat.le_of_ble_eq_true rfl) (lv0 := [some (.inr (.inl a0)), some (.inl a1), some (.inl a2), some (.inl a3), some (.inl a4), some (.inr (.inl a5)), none]) rfl hf rfl (fun K hk he htab => ?_)
  have hk : zk E K "LotSalesLaw" cL_wouldRefuse 7 8 := hk
  unfold fL_wouldRefuse
  refine z_run hk hL_wouldRefuse_0 0 7 (pc' := 9) (lv' := [some (.inr (.inl a0)), some (.inl a1), some (.inl a2), some (.inl a3), some (.inl a4), some (.inr (.inl a5)), none]) (st' := [.inl a4, .inl a3, .inl a2, .inl a1, .inr (.inl a0), .inl 0, .inr (.inl a5)]) rfl ?_
  refine kX7_wouldRefuse F hk (z_row hL_wouldRefuse_0 7 rfl) wd_771 (by decide) (Nat.le_of_ble_eq_true rfl) (fun x1 σ2 => ?_) (fun e3 σ4 => ?_)
  · refine z_run hk hL_wouldRefuse_0 8 1 (pc' := 13) (lv' := [some (.inr (.inl a0)), some (.inl a1), some (.inl a2), some (.inl a3), some (.inl a4), some (.inr (.inl a5)), none]) (st' := [.inr (.inr (.inl (x1.toInt64))), .inl 0, .inr (.inl a5)]) rfl ?_
    refine z_sL hk (z_row hL_wouldRefuse_0 9 rfl) (fun σ7 => ?_)
    refine z_goto hk (z_row hL_wouldRefuse_0 10 rfl) (tgt := 25) rfl ?_
    refine z_run hk hL_wouldRefuse_0 17 1 (pc' := 26) (lv' := [some (.inr (.inl a0)), some (.inl a1), some (.inl a2), some (.inl a3), some (.inl a4), some (.inr (.inl a5)), none]) (st' := [.inl 0]) rfl ?_
    exact z_iret hk he (z_row hL_wouldRefuse_0 18 rfl) rfl
  · refine z_cat0 (own := "LotSalesLaw") ?_
    refine z_catI hk htab (i := 0) (k1 := 1) (hp := 17) rfl (by decide) (by decide) rfl wd_482 wd_517 (by decide) (by decide) (fun q5 => ?_) ?_
    · refine z_run hk hL_wouldRefuse_0 11 2 (pc' := 20) (lv' := [some (.inr (.inl a0)), some (.inl a1), some (.inl a2), some (.inl a3), some (.inl a4), some (.inr (.inl a5)), some (.inr (.inr (.inr (.inr q5))))]) (st' := [.inl 1]) rfl ?_
      exact z_iret hk he (z_row hL_wouldRefuse_0 13 rfl) rfl
    refine z_catI hk htab (i := 1) (k1 := 2) (hp := 21) rfl (by decide) (by decide) rfl wd_344 wd_355 (by decide) (by decide) (fun q6 => ?_) ?_
    · refine z_run hk hL_wouldRefuse_0 14 2 (pc' := 24) (lv' := [some (.inr (.inl a0)), some (.inl a1), some (.inl a2), some (.inl a3), some (.inl a4), some (.inr (.inl a5)), some (.inr (.inr (.inr (.inr q6))))]) (st' := [.inl 2]) rfl ?_
      exact z_iret hk he (z_row hL_wouldRefuse_0 16 rfl) rfl
    exact z_catN
theorem kL_wouldRefuse {n : Nat} {own : String} {cc : ByteArray} {nL h index : Nat} {α : Type} {fin : α → zO} {σ : zW} {pc : Nat} {lv : zLV} {st : List zV} {a0 : Nat} {a1 : Int32} {a2 : Int32} {a3 : Int32} {a4 : Int32} {a5 : Nat} {c : Int32 → zW → Option α} (F : zFx E) (hk : zk E K own cc nL h) (hd : decode cc pc = .ok (.invokestatic index, 3)) (hl : Cond.methodLink own index qL_wouldRefuse ∈ lw_tbl) (hh : 8 + 1 ≤ h) (hs : zcat st ≤ 8) (k : ∀ v s, zG E K fin (c v s) s (pc + 3) lv (.inl v :: st)) : zG E K fin (zb2 (fL_wouldRefuse n a0 a1 a2 a3 a4 a5 σ) c) σ pc lv (.inr (.inl a5) :: .inl a4 :: .inl a3 :: .inl a2 :: .inl a1 :: .inr (.inl a0) :: st) :=
  z_hW (n := 6) (y := qL_wouldRefuse) (As := [.inr (.inl a0), .inl a1, .inl a2, .inl a3, .inl a4, .inr (.inl a5)]) hk hd hl wd_769 wd_0 wd_770 ⟨by decide, by decide, by decide +kernel⟩ ⟨hh, by decide⟩ rfl (fun o ho => mL_wouldRefuse F n a0 a1 a2 a3 a4 a5 σ o ho) hs k
abbrev qL_standing : MethodName := { cls := "LotSalesLaw", name := "standing", desc := "(LLotSales;II[J)I" }
def fL_standing (n : Nat) (a0 : Nat) (a1 : Int32) (a2 : Int32) (a3 : Nat) (σ : zW) : Option (Int32 × zW) := zck σ 8 a0 (zbx (fX7_standing n a0 a1 a2 σ) (fun x1 σ2 => zsL σ2 a3 0 x1 fun σ8 => some (0, σ8)) (fun e3 σ4 => if e3 = 1 then some (1, σ4) else if e3 = 2 then some (2, σ4) else if e3 = 3 then some (3, σ4) else none))
theorem mL_standing (F : zFx E) (n : Nat) (a0 : Nat) (a1 : Int32) (a2 : Int32) (a3 : Nat) (σ : zW) (o : Int32 × zW) (hf : fL_standing n a0 a1 a2 a3 σ = some o) : zMX E qL_standing (.codeWith qL_standing cL_standing 5 (some .int) [(0, 10, 13, 21), (0, 10, 17, 13), (0, 10, 21, 15)]) 8 [.inr (.inl a0), .inl a1, .inl a2, .inr (.inl a3)] σ (.inl (some (.int o.1)), o.2) := by
  refine zMX_ofH (fin := zfW) F (by decide +kernel) rfl (Nat.le_of_ble_eq_true rfl) (lv0 := [some (.inr (.inl a0)), some (.inl a1), some (.inl a2), some (.inr (.inl a3)), none]) rfl hf rfl (fun K hk he htab => ?_)
  have hk : zk E K "LotSalesLaw" cL_standing 5 8 := hk
  unfold fL_standing
  refine z_run hk hL_standing_0 0 5 (pc' := 5) (lv' := [some (.inr (.inl a0)), some (.inl a1), some (.inl a2), some (.inr (.inl a3)), none]) (st' := [.inl a2, .inl a1, .inr (.inl a0), .inl 0, .inr (.inl a3)]) rfl ?_
  refine kX7_standing F hk (z_row hL_standing_0 5 rfl) wd_778 (by decide) (Nat.le_of_ble_eq_true rfl) (fun x1 σ2 => ?_) (fun e3 σ4 => ?_)
  · refine z_run hk hL_standing_0 6 1 (pc' := 9) (lv' := [some (.inr (.inl a0)), some (.inl a1), some (.inl a2), some (.inr (.inl a3)), none]) (st' := [.inr (.inr (.inl (x1.toInt64))), .inl 0, .inr (.inl a3)]) rfl ?_
    refine z_sL hk (z_row hL_standing_0 7 rfl) (fun σ8 => ?_)
    refine z_goto hk (z_row hL_standing_0 8 rfl) (tgt := 25) rfl ?_
    refine z_run hk hL_standing_0 18 1 (pc' := 26) (lv' := [some (.inr (.inl a0)), some (.inl a1), some (.inl a2), some (.inr (.inl a3)), none]) (st' := [.inl 0]) rfl ?_
    exact z_iret hk he (z_row hL_standing_0 19 rfl) rfl
  · refine z_cat0 (own := "LotSalesLaw") ?_
    refine z_catI hk htab (i := 0) (k1 := 1) (hp := 13) rfl (by decide) (by decide) rfl wd_482 wd_517 (by decide) (by decide) (fun q5 => ?_) ?_
    · refine z_run hk hL_standing_0 9 2 (pc' := 16) (lv' := [some (.inr (.inl a0)), some (.inl a1), some (.inl a2), some (.inr (.inl a3)), some (.inr (.inr (.inr (.inr q5))))]) (st' := [.inl 1]) rfl ?_
      exact z_iret hk he (z_row hL_standing_0 11 rfl) rfl
    refine z_catI hk htab (i := 1) (k1 := 2) (hp := 17) rfl (by decide) (by decide) rfl wd_344 wd_355 (by decide) (by decide) (fun q6 => ?_) ?_
    · refine z_run hk hL_standing_0 12 2 (pc' := 20) (lv' := [some (.inr (.inl a0)), some (.inl a1), some (.inl a2), some (.inr (.inl a3)), some (.inr (.inr (.inr (.inr q6))))]) (st' := [.inl 2]) rfl ?_
      exact z_iret hk he (z_row hL_standing_0 14 rfl) rfl
    refine z_catI hk htab (i := 2) (k1 := 3) (hp := 21) rfl (by decide) (by decide) rfl wd_345 wd_432 (by decide) (by decide) (fun q7 => ?_) ?_
    · refine z_run hk hL_standing_0 15 2 (pc' := 24) (lv' := [some (.inr (.inl a0)), some (.inl a1), some (.inl a2), some (.inr (.inl a3)), some (.inr (.inr (.inr (.inr q7))))]) (st' := [.inl 3]) rfl ?_
      exact z_iret hk he (z_row hL_standing_0 17 rfl) rfl
    exact z_catN
theorem kL_standing {n : Nat} {own : String} {cc : ByteArray} {nL h index : Nat} {α : Type} {fin : α → zO} {σ : zW} {pc : Nat} {lv : zLV} {st : List zV} {a0 : Nat} {a1 : Int32} {a2 : Int32} {a3 : Nat} {c : Int32 → zW → Option α} (F : zFx E) (hk : zk E K own cc nL h) (hd : decode cc pc = .ok (.invokestatic index, 3)) (hl : Cond.methodLink own index qL_standing ∈ lw_tbl) (hh : 8 + 1 ≤ h) (hs : zcat st ≤ 8) (k : ∀ v s, zG E K fin (c v s) s (pc + 3) lv (.inl v :: st)) : zG E K fin (zb2 (fL_standing n a0 a1 a2 a3 σ) c) σ pc lv (.inr (.inl a3) :: .inl a2 :: .inl a1 :: .inr (.inl a0) :: st) :=
  z_hW (n := 4) (y := qL_standing) (As := [.inr (.inl a0), .inl a1, .inl a2, .inr (.inl a3)]) hk hd hl wd_776 wd_0 wd_777 ⟨by decide, by decide, by decide +kernel⟩ ⟨hh, by decide⟩ rfl (fun o ho => mL_standing F n a0 a1 a2 a3 σ o ho) hs k
abbrev qL_limit : MethodName := { cls := "LotSalesLaw", name := "limit", desc := "(LLotSales;III[J)I" }
def fL_limit (n : Nat) (a0 : Nat) (a1 : Int32) (a2 : Int32) (a3 : Int32) (a4 : Nat) (σ : zW) : Option (Int32 × zW) := zck σ 8 a0 (zbx (fX7_limit n a0 a1 a2 a3 σ) (fun x1 σ2 => zsL σ2 a4 0 x1 fun σ9 => some (0, σ9)) (fun e3 σ4 => if e3 = 1 then some (1, σ4) else if e3 = 2 then some (2, σ4) else if e3 = 3 then some (3, σ4) else if e3 = 4 then some (4, σ4) else none))
theorem mL_limit (F : zFx E) (n : Nat) (a0 : Nat) (a1 : Int32) (a2 : Int32) (a3 : Int32) (a4 : Nat) (σ : zW) (o : Int32 × zW) (hf : fL_limit n a0 a1 a2 a3 a4 σ = some o) : zMX E qL_limit (.codeWith qL_limit cL_limit 6 (some .int) [(0, 12, 15, 21), (0, 12, 19, 13), (0, 12, 23, 15), (0, 12, 27, 50)]) 8 [.inr (.inl a0), .inl a1, .inl a2, .inl a3, .inr (.inl a4)] σ (.inl (some (.int o.1)), o.2) := by
  refine zMX_ofH (fin := zfW) F (by decide +kernel) rfl (Nat.le_of_ble_eq_true rfl) (lv0 := [some (.inr (.inl a0)), some (.inl a1), some (.inl a2), some (.inl a3), some (.inr (.inl a4)), none]) rfl hf rfl (fun K hk he htab => ?_)
  have hk : zk E K "LotSalesLaw" cL_limit 6 8 := hk
  unfold fL_limit
  refine z_run hk hL_limit_0 0 6 (pc' := 7) (lv' := [some (.inr (.inl a0)), some (.inl a1), some (.inl a2), some (.inl a3), some (.inr (.inl a4)), none]) (st' := [.inl a3, .inl a2, .inl a1, .inr (.inl a0), .inl 0, .inr (.inl a4)]) rfl ?_
  refine kX7_limit F hk (z_row hL_limit_0 6 rfl) wd_797 (by decide) (Nat.le_of_ble_eq_true rfl) (fun x1 σ2 => ?_) (fun e3 σ4 => ?_)
  · refine z_run hk hL_limit_0 7 1 (pc' := 11) (lv' := [some (.inr (.inl a0)), some (.inl a1), some (.inl a2), some (.inl a3), some (.inr (.inl a4)), none]) (st' := [.inr (.inr (.inl (x1.toInt64))), .inl 0, .inr (.inl a4)]) rfl ?_
    refine z_sL hk (z_row hL_limit_0 8 rfl) (fun σ9 => ?_)
    refine z_goto hk (z_row hL_limit_0 9 rfl) (tgt := 31) rfl ?_
    refine z_run hk hL_limit_0 22 1 (pc' := 32) (lv' := [some (.inr (.inl a0)), some (.inl a1), some (.inl a2), some (.inl a3), some (.inr (.inl a4)), none]) (st' := [.inl 0]) rfl ?_
    exact z_iret hk he (z_row hL_limit_0 23 rfl) rfl
  · refine z_cat0 (own := "LotSalesLaw") ?_
    refine z_catI hk htab (i := 0) (k1 := 1) (hp := 15) rfl (by decide) (by decide) rfl wd_482 wd_517 (by decide) (by decide) (fun q5 => ?_) ?_
    · refine z_run hk hL_limit_0 10 2 (pc' := 18) (lv' := [some (.inr (.inl a0)), some (.inl a1), some (.inl a2), some (.inl a3), some (.inr (.inl a4)), some (.inr (.inr (.inr (.inr q5))))]) (st' := [.inl 1]) rfl ?_
      exact z_iret hk he (z_row hL_limit_0 12 rfl) rfl
    refine z_catI hk htab (i := 1) (k1 := 2) (hp := 19) rfl (by decide) (by decide) rfl wd_344 wd_355 (by decide) (by decide) (fun q6 => ?_) ?_
    · refine z_run hk hL_limit_0 13 2 (pc' := 22) (lv' := [some (.inr (.inl a0)), some (.inl a1), some (.inl a2), some (.inl a3), some (.inr (.inl a4)), some (.inr (.inr (.inr (.inr q6))))]) (st' := [.inl 2]) rfl ?_
      exact z_iret hk he (z_row hL_limit_0 15 rfl) rfl
    refine z_catI hk htab (i := 2) (k1 := 3) (hp := 23) rfl (by decide) (by decide) rfl wd_345 wd_432 (by decide) (by decide) (fun q7 => ?_) ?_
    · refine z_run hk hL_limit_0 16 2 (pc' := 26) (lv' := [some (.inr (.inl a0)), some (.inl a1), some (.inl a2), some (.inl a3), some (.inr (.inl a4)), some (.inr (.inr (.inr (.inr q7))))]) (st' := [.inl 3]) rfl ?_
      exact z_iret hk he (z_row hL_limit_0 18 rfl) rfl
    refine z_catI hk htab (i := 3) (k1 := 4) (hp := 27) rfl (by decide) (by decide) rfl wd_680 wd_647 (by decide) (by decide) (fun q8 => ?_) ?_
    · refine z_run hk hL_limit_0 19 2 (pc' := 30) (lv' := [some (.inr (.inl a0)), some (.inl a1), some (.inl a2), some (.inl a3), some (.inr (.inl a4)), some (.inr (.inr (.inr (.inr q8))))]) (st' := [.inl 4]) rfl ?_
      exact z_iret hk he (z_row hL_limit_0 21 rfl) rfl
    exact z_catN
theorem kL_limit {n : Nat} {own : String} {cc : ByteArray} {nL h index : Nat} {α : Type} {fin : α → zO} {σ : zW} {pc : Nat} {lv : zLV} {st : List zV} {a0 : Nat} {a1 : Int32} {a2 : Int32} {a3 : Int32} {a4 : Nat} {c : Int32 → zW → Option α} (F : zFx E) (hk : zk E K own cc nL h) (hd : decode cc pc = .ok (.invokestatic index, 3)) (hl : Cond.methodLink own index qL_limit ∈ lw_tbl) (hh : 8 + 1 ≤ h) (hs : zcat st ≤ 8) (k : ∀ v s, zG E K fin (c v s) s (pc + 3) lv (.inl v :: st)) : zG E K fin (zb2 (fL_limit n a0 a1 a2 a3 a4 σ) c) σ pc lv (.inr (.inl a4) :: .inl a3 :: .inl a2 :: .inl a1 :: .inr (.inl a0) :: st) :=
  z_hW (n := 5) (y := qL_limit) (As := [.inr (.inl a0), .inl a1, .inl a2, .inl a3, .inr (.inl a4)]) hk hd hl wd_795 wd_0 wd_796 ⟨by decide, by decide, by decide +kernel⟩ ⟨hh, by decide⟩ rfl (fun o ho => mL_limit F n a0 a1 a2 a3 a4 σ o ho) hs k
abbrev qL_priceIf : MethodName := { cls := "LotSalesLaw", name := "priceIf", desc := "(LLotSales;III[J)I" }
def fL_priceIf (n : Nat) (a0 : Nat) (a1 : Int32) (a2 : Int32) (a3 : Int32) (a4 : Nat) (σ : zW) : Option (Int32 × zW) := zck σ 8 a0 (zbx (fX7_priceIf n a0 a1 a2 a3 σ) (fun x1 σ2 => zsL σ2 a4 0 x1 fun σ8 => some (0, σ8)) (fun e3 σ4 => if e3 = 1 then some (1, σ4) else if e3 = 2 then some (2, σ4) else if e3 = 3 then some (3, σ4) else none))
theorem mL_priceIf (F : zFx E) (n : Nat) (a0 : Nat) (a1 : Int32) (a2 : Int32) (a3 : Int32) (a4 : Nat) (σ : zW) (o : Int32 × zW) (hf : fL_priceIf n a0 a1 a2 a3 a4 σ = some o) : zMX E qL_priceIf (.codeWith qL_priceIf cL_priceIf 6 (some .int) [(0, 12, 15, 21), (0, 12, 19, 13), (0, 12, 23, 15)]) 8 [.inr (.inl a0), .inl a1, .inl a2, .inl a3, .inr (.inl a4)] σ (.inl (some (.int o.1)), o.2) := by
  refine zMX_ofH (fin := zfW) F (by decide +kernel) rfl (Nat.le_of_ble_eq_true rfl) (lv0 := [some (.inr (.inl a0)), some (.inl a1), some (.inl a2), some (.inl a3), some (.inr (.inl a4)), none]) rfl hf rfl (fun K hk he htab => ?_)
  have hk : zk E K "LotSalesLaw" cL_priceIf 6 8 := hk
  unfold fL_priceIf
  refine z_run hk hL_priceIf_0 0 6 (pc' := 7) (lv' := [some (.inr (.inl a0)), some (.inl a1), some (.inl a2), some (.inl a3), some (.inr (.inl a4)), none]) (st' := [.inl a3, .inl a2, .inl a1, .inr (.inl a0), .inl 0, .inr (.inl a4)]) rfl ?_
  refine kX7_priceIf F hk (z_row hL_priceIf_0 6 rfl) wd_813 (by decide) (Nat.le_of_ble_eq_true rfl) (fun x1 σ2 => ?_) (fun e3 σ4 => ?_)
  · refine z_run hk hL_priceIf_0 7 1 (pc' := 11) (lv' := [some (.inr (.inl a0)), some (.inl a1), some (.inl a2), some (.inl a3), some (.inr (.inl a4)), none]) (st' := [.inr (.inr (.inl (x1.toInt64))), .inl 0, .inr (.inl a4)]) rfl ?_
    refine z_sL hk (z_row hL_priceIf_0 8 rfl) (fun σ8 => ?_)
    refine z_goto hk (z_row hL_priceIf_0 9 rfl) (tgt := 27) rfl ?_
    refine z_run hk hL_priceIf_0 19 1 (pc' := 28) (lv' := [some (.inr (.inl a0)), some (.inl a1), some (.inl a2), some (.inl a3), some (.inr (.inl a4)), none]) (st' := [.inl 0]) rfl ?_
    exact z_iret hk he (z_row hL_priceIf_0 20 rfl) rfl
  · refine z_cat0 (own := "LotSalesLaw") ?_
    refine z_catI hk htab (i := 0) (k1 := 1) (hp := 15) rfl (by decide) (by decide) rfl wd_482 wd_517 (by decide) (by decide) (fun q5 => ?_) ?_
    · refine z_run hk hL_priceIf_0 10 2 (pc' := 18) (lv' := [some (.inr (.inl a0)), some (.inl a1), some (.inl a2), some (.inl a3), some (.inr (.inl a4)), some (.inr (.inr (.inr (.inr q5))))]) (st' := [.inl 1]) rfl ?_
      exact z_iret hk he (z_row hL_priceIf_0 12 rfl) rfl
    refine z_catI hk htab (i := 1) (k1 := 2) (hp := 19) rfl (by decide) (by decide) rfl wd_344 wd_355 (by decide) (by decide) (fun q6 => ?_) ?_
    · refine z_run hk hL_priceIf_0 13 2 (pc' := 22) (lv' := [some (.inr (.inl a0)), some (.inl a1), some (.inl a2), some (.inl a3), some (.inr (.inl a4)), some (.inr (.inr (.inr (.inr q6))))]) (st' := [.inl 2]) rfl ?_
      exact z_iret hk he (z_row hL_priceIf_0 15 rfl) rfl
    refine z_catI hk htab (i := 2) (k1 := 3) (hp := 23) rfl (by decide) (by decide) rfl wd_345 wd_432 (by decide) (by decide) (fun q7 => ?_) ?_
    · refine z_run hk hL_priceIf_0 16 2 (pc' := 26) (lv' := [some (.inr (.inl a0)), some (.inl a1), some (.inl a2), some (.inl a3), some (.inr (.inl a4)), some (.inr (.inr (.inr (.inr q7))))]) (st' := [.inl 3]) rfl ?_
      exact z_iret hk he (z_row hL_priceIf_0 18 rfl) rfl
    exact z_catN
theorem kL_priceIf {n : Nat} {own : String} {cc : ByteArray} {nL h index : Nat} {α : Type} {fin : α → zO} {σ : zW} {pc : Nat} {lv : zLV} {st : List zV} {a0 : Nat} {a1 : Int32} {a2 : Int32} {a3 : Int32} {a4 : Nat} {c : Int32 → zW → Option α} (F : zFx E) (hk : zk E K own cc nL h) (hd : decode cc pc = .ok (.invokestatic index, 3)) (hl : Cond.methodLink own index qL_priceIf ∈ lw_tbl) (hh : 8 + 1 ≤ h) (hs : zcat st ≤ 8) (k : ∀ v s, zG E K fin (c v s) s (pc + 3) lv (.inl v :: st)) : zG E K fin (zb2 (fL_priceIf n a0 a1 a2 a3 a4 σ) c) σ pc lv (.inr (.inl a4) :: .inl a3 :: .inl a2 :: .inl a1 :: .inr (.inl a0) :: st) :=
  z_hW (n := 5) (y := qL_priceIf) (As := [.inr (.inl a0), .inl a1, .inl a2, .inl a3, .inr (.inl a4)]) hk hd hl wd_811 wd_0 wd_812 ⟨by decide, by decide, by decide +kernel⟩ ⟨hh, by decide⟩ rfl (fun o ho => mL_priceIf F n a0 a1 a2 a3 a4 σ o ho) hs k
abbrev qL_close : MethodName := { cls := "LotSalesLaw", name := "close", desc := "(LLotSales;I[J)I" }
def fL_close (n : Nat) (a0 : Nat) (a1 : Int32) (a2 : Nat) (σ : zW) : Option (Int32 × zW) := zck σ 8 a0 (zbx (fX7_close n a0 a1 σ) (fun x1 σ2 => zsL σ2 a2 0 x1 fun σ7 => some (0, σ7)) (fun e3 σ4 => if e3 = 1 then some (1, σ4) else if e3 = 3 then some (2, σ4) else none))
theorem mL_close (F : zFx E) (n : Nat) (a0 : Nat) (a1 : Int32) (a2 : Nat) (σ : zW) (o : Int32 × zW) (hf : fL_close n a0 a1 a2 σ = some o) : zMX E qL_close (.codeWith qL_close cL_close 4 (some .int) [(0, 9, 12, 21), (0, 9, 15, 15)]) 8 [.inr (.inl a0), .inl a1, .inr (.inl a2)] σ (.inl (some (.int o.1)), o.2) := by
  refine zMX_ofH (fin := zfW) F (by decide +kernel) rfl (Nat.le_of_ble_eq_true rfl) (lv0 := [some (.inr (.inl a0)), some (.inl a1), some (.inr (.inl a2)), none]) rfl hf rfl (fun K hk he htab => ?_)
  have hk : zk E K "LotSalesLaw" cL_close 4 8 := hk
  unfold fL_close
  refine z_run hk hL_close_0 0 4 (pc' := 4) (lv' := [some (.inr (.inl a0)), some (.inl a1), some (.inr (.inl a2)), none]) (st' := [.inl a1, .inr (.inl a0), .inl 0, .inr (.inl a2)]) rfl ?_
  refine kX7_close F hk (z_row hL_close_0 4 rfl) wd_825 (by decide) (Nat.le_of_ble_eq_true rfl) (fun x1 σ2 => ?_) (fun e3 σ4 => ?_)
  · refine z_run hk hL_close_0 5 1 (pc' := 8) (lv' := [some (.inr (.inl a0)), some (.inl a1), some (.inr (.inl a2)), none]) (st' := [.inr (.inr (.inl (x1.toInt64))), .inl 0, .inr (.inl a2)]) rfl ?_
    refine z_sL hk (z_row hL_close_0 6 rfl) (fun σ7 => ?_)
    refine z_goto hk (z_row hL_close_0 7 rfl) (tgt := 18) rfl ?_
    refine z_run hk hL_close_0 14 1 (pc' := 19) (lv' := [some (.inr (.inl a0)), some (.inl a1), some (.inr (.inl a2)), none]) (st' := [.inl 0]) rfl ?_
    exact z_iret hk he (z_row hL_close_0 15 rfl) rfl
  · refine z_cat0 (own := "LotSalesLaw") ?_
    refine z_catI hk htab (i := 0) (k1 := 1) (hp := 12) rfl (by decide) (by decide) rfl wd_482 wd_517 (by decide) (by decide) (fun q5 => ?_) ?_
    · refine z_run hk hL_close_0 8 2 (pc' := 14) (lv' := [some (.inr (.inl a0)), some (.inl a1), some (.inr (.inl a2)), some (.inr (.inr (.inr (.inr q5))))]) (st' := [.inl 1]) rfl ?_
      exact z_iret hk he (z_row hL_close_0 10 rfl) rfl
    refine z_catI hk htab (i := 1) (k1 := 3) (hp := 15) rfl (by decide) (by decide) rfl wd_345 wd_432 (by decide) (by decide) (fun q6 => ?_) ?_
    · refine z_run hk hL_close_0 11 2 (pc' := 17) (lv' := [some (.inr (.inl a0)), some (.inl a1), some (.inr (.inl a2)), some (.inr (.inr (.inr (.inr q6))))]) (st' := [.inl 2]) rfl ?_
      exact z_iret hk he (z_row hL_close_0 13 rfl) rfl
    exact z_catN
theorem kL_close {n : Nat} {own : String} {cc : ByteArray} {nL h index : Nat} {α : Type} {fin : α → zO} {σ : zW} {pc : Nat} {lv : zLV} {st : List zV} {a0 : Nat} {a1 : Int32} {a2 : Nat} {c : Int32 → zW → Option α} (F : zFx E) (hk : zk E K own cc nL h) (hd : decode cc pc = .ok (.invokestatic index, 3)) (hl : Cond.methodLink own index qL_close ∈ lw_tbl) (hh : 8 + 1 ≤ h) (hs : zcat st ≤ 8) (k : ∀ v s, zG E K fin (c v s) s (pc + 3) lv (.inl v :: st)) : zG E K fin (zb2 (fL_close n a0 a1 a2 σ) c) σ pc lv (.inr (.inl a2) :: .inl a1 :: .inr (.inl a0) :: st) :=
  z_hW (n := 3) (y := qL_close) (As := [.inr (.inl a0), .inl a1, .inr (.inl a2)]) hk hd hl wd_823 wd_0 wd_824 ⟨by decide, by decide, by decide +kernel⟩ ⟨hh, by decide⟩ rfl (fun o ho => mL_close F n a0 a1 a2 σ o ho) hs k
abbrev qL_withdraw : MethodName := { cls := "LotSalesLaw", name := "withdraw", desc := "(LLotSales;I[J)I" }
def fL_withdraw (n : Nat) (a0 : Nat) (a1 : Int32) (a2 : Nat) (σ : zW) : Option (Int32 × zW) := zck σ 8 a0 (zbx (fX7_withdraw n a0 a1 σ) (fun x1 σ2 => zsL σ2 a2 0 x1 fun σ7 => some (0, σ7)) (fun e3 σ4 => if e3 = 1 then some (1, σ4) else if e3 = 3 then some (2, σ4) else none))
theorem mL_withdraw (F : zFx E) (n : Nat) (a0 : Nat) (a1 : Int32) (a2 : Nat) (σ : zW) (o : Int32 × zW) (hf : fL_withdraw n a0 a1 a2 σ = some o) : zMX E qL_withdraw (.codeWith qL_withdraw cL_withdraw 4 (some .int) [(0, 9, 12, 21), (0, 9, 15, 15)]) 8 [.inr (.inl a0), .inl a1, .inr (.inl a2)] σ (.inl (some (.int o.1)), o.2) := by
  refine zMX_ofH (fin := zfW) F (by decide +kernel) rfl (Nat.le_of_ble_eq_true rfl) (lv0 := [some (.inr (.inl a0)), some (.inl a1), some (.inr (.inl a2)), none]) rfl hf rfl (fun K hk he htab => ?_)
  have hk : zk E K "LotSalesLaw" cL_withdraw 4 8 := hk
  unfold fL_withdraw
  refine z_run hk hL_withdraw_0 0 4 (pc' := 4) (lv' := [some (.inr (.inl a0)), some (.inl a1), some (.inr (.inl a2)), none]) (st' := [.inl a1, .inr (.inl a0), .inl 0, .inr (.inl a2)]) rfl ?_
  refine kX7_withdraw F hk (z_row hL_withdraw_0 4 rfl) wd_852 (by decide) (Nat.le_of_ble_eq_true rfl) (fun x1 σ2 => ?_) (fun e3 σ4 => ?_)
  · refine z_run hk hL_withdraw_0 5 1 (pc' := 8) (lv' := [some (.inr (.inl a0)), some (.inl a1), some (.inr (.inl a2)), none]) (st' := [.inr (.inr (.inl (x1.toInt64))), .inl 0, .inr (.inl a2)]) rfl ?_
    refine z_sL hk (z_row hL_withdraw_0 6 rfl) (fun σ7 => ?_)
    refine z_goto hk (z_row hL_withdraw_0 7 rfl) (tgt := 18) rfl ?_
    refine z_run hk hL_withdraw_0 14 1 (pc' := 19) (lv' := [some (.inr (.inl a0)), some (.inl a1), some (.inr (.inl a2)), none]) (st' := [.inl 0]) rfl ?_
    exact z_iret hk he (z_row hL_withdraw_0 15 rfl) rfl
  · refine z_cat0 (own := "LotSalesLaw") ?_
    refine z_catI hk htab (i := 0) (k1 := 1) (hp := 12) rfl (by decide) (by decide) rfl wd_482 wd_517 (by decide) (by decide) (fun q5 => ?_) ?_
    · refine z_run hk hL_withdraw_0 8 2 (pc' := 14) (lv' := [some (.inr (.inl a0)), some (.inl a1), some (.inr (.inl a2)), some (.inr (.inr (.inr (.inr q5))))]) (st' := [.inl 1]) rfl ?_
      exact z_iret hk he (z_row hL_withdraw_0 10 rfl) rfl
    refine z_catI hk htab (i := 1) (k1 := 3) (hp := 15) rfl (by decide) (by decide) rfl wd_345 wd_432 (by decide) (by decide) (fun q6 => ?_) ?_
    · refine z_run hk hL_withdraw_0 11 2 (pc' := 17) (lv' := [some (.inr (.inl a0)), some (.inl a1), some (.inr (.inl a2)), some (.inr (.inr (.inr (.inr q6))))]) (st' := [.inl 2]) rfl ?_
      exact z_iret hk he (z_row hL_withdraw_0 13 rfl) rfl
    exact z_catN
theorem kL_withdraw {n : Nat} {own : String} {cc : ByteArray} {nL h index : Nat} {α : Type} {fin : α → zO} {σ : zW} {pc : Nat} {lv : zLV} {st : List zV} {a0 : Nat} {a1 : Int32} {a2 : Nat} {c : Int32 → zW → Option α} (F : zFx E) (hk : zk E K own cc nL h) (hd : decode cc pc = .ok (.invokestatic index, 3)) (hl : Cond.methodLink own index qL_withdraw ∈ lw_tbl) (hh : 8 + 1 ≤ h) (hs : zcat st ≤ 8) (k : ∀ v s, zG E K fin (c v s) s (pc + 3) lv (.inl v :: st)) : zG E K fin (zb2 (fL_withdraw n a0 a1 a2 σ) c) σ pc lv (.inr (.inl a2) :: .inl a1 :: .inr (.inl a0) :: st) :=
  z_hW (n := 3) (y := qL_withdraw) (As := [.inr (.inl a0), .inl a1, .inr (.inl a2)]) hk hd hl wd_850 wd_0 wd_851 ⟨by decide, by decide, by decide +kernel⟩ ⟨hh, by decide⟩ rfl (fun o ho => mL_withdraw F n a0 a1 a2 σ o ho) hs k
abbrev qL_offer : MethodName := { cls := "LotSalesLaw", name := "offer", desc := "(LLotSales;II[J)I" }
def fL_offer (n : Nat) (a0 : Nat) (a1 : Int32) (a2 : Int32) (a3 : Nat) (σ : zW) : Option (Int32 × zW) := zck σ 8 a0 (zbx (fX7_offer n a0 a1 a2 σ) (fun x1 σ2 => zsL σ2 a3 0 x1 fun σ8 => some (0, σ8)) (fun e3 σ4 => if e3 = 1 then some (1, σ4) else if e3 = 2 then some (2, σ4) else if e3 = 3 then some (3, σ4) else none))
theorem mL_offer (F : zFx E) (n : Nat) (a0 : Nat) (a1 : Int32) (a2 : Int32) (a3 : Nat) (σ : zW) (o : Int32 × zW) (hf : fL_offer n a0 a1 a2 a3 σ = some o) : zMX E qL_offer (.codeWith qL_offer cL_offer 5 (some .int) [(0, 10, 13, 21), (0, 10, 17, 13), (0, 10, 21, 15)]) 8 [.inr (.inl a0), .inl a1, .inl a2, .inr (.inl a3)] σ (.inl (some (.int o.1)), o.2) := by
  refine zMX_ofH (fin := zfW) F (by decide +kernel) rfl (Nat.le_of_ble_eq_true rfl) (lv0 := [some (.inr (.inl a0)), some (.inl a1), some (.inl a2), some (.inr (.inl a3)), none]) rfl hf rfl (fun K hk he htab => ?_)
  have hk : zk E K "LotSalesLaw" cL_offer 5 8 := hk
  unfold fL_offer
  refine z_run hk hL_offer_0 0 5 (pc' := 5) (lv' := [some (.inr (.inl a0)), some (.inl a1), some (.inl a2), some (.inr (.inl a3)), none]) (st' := [.inl a2, .inl a1, .inr (.inl a0), .inl 0, .inr (.inl a3)]) rfl ?_
  refine kX7_offer F hk (z_row hL_offer_0 5 rfl) wd_863 (by decide) (Nat.le_of_ble_eq_true rfl) (fun x1 σ2 => ?_) (fun e3 σ4 => ?_)
  · refine z_run hk hL_offer_0 6 1 (pc' := 9) (lv' := [some (.inr (.inl a0)), some (.inl a1), some (.inl a2), some (.inr (.inl a3)), none]) (st' := [.inr (.inr (.inl (x1.toInt64))), .inl 0, .inr (.inl a3)]) rfl ?_
    refine z_sL hk (z_row hL_offer_0 7 rfl) (fun σ8 => ?_)
    refine z_goto hk (z_row hL_offer_0 8 rfl) (tgt := 25) rfl ?_
    refine z_run hk hL_offer_0 18 1 (pc' := 26) (lv' := [some (.inr (.inl a0)), some (.inl a1), some (.inl a2), some (.inr (.inl a3)), none]) (st' := [.inl 0]) rfl ?_
    exact z_iret hk he (z_row hL_offer_0 19 rfl) rfl
  · refine z_cat0 (own := "LotSalesLaw") ?_
    refine z_catI hk htab (i := 0) (k1 := 1) (hp := 13) rfl (by decide) (by decide) rfl wd_482 wd_517 (by decide) (by decide) (fun q5 => ?_) ?_
    · refine z_run hk hL_offer_0 9 2 (pc' := 16) (lv' := [some (.inr (.inl a0)), some (.inl a1), some (.inl a2), some (.inr (.inl a3)), some (.inr (.inr (.inr (.inr q5))))]) (st' := [.inl 1]) rfl ?_
      exact z_iret hk he (z_row hL_offer_0 11 rfl) rfl
    refine z_catI hk htab (i := 1) (k1 := 2) (hp := 17) rfl (by decide) (by decide) rfl wd_344 wd_355 (by decide) (by decide) (fun q6 => ?_) ?_
    · refine z_run hk hL_offer_0 12 2 (pc' := 20) (lv' := [some (.inr (.inl a0)), some (.inl a1), some (.inl a2), some (.inr (.inl a3)), some (.inr (.inr (.inr (.inr q6))))]) (st' := [.inl 2]) rfl ?_
      exact z_iret hk he (z_row hL_offer_0 14 rfl) rfl
    refine z_catI hk htab (i := 2) (k1 := 3) (hp := 21) rfl (by decide) (by decide) rfl wd_345 wd_432 (by decide) (by decide) (fun q7 => ?_) ?_
    · refine z_run hk hL_offer_0 15 2 (pc' := 24) (lv' := [some (.inr (.inl a0)), some (.inl a1), some (.inl a2), some (.inr (.inl a3)), some (.inr (.inr (.inr (.inr q7))))]) (st' := [.inl 3]) rfl ?_
      exact z_iret hk he (z_row hL_offer_0 17 rfl) rfl
    exact z_catN
theorem kL_offer {n : Nat} {own : String} {cc : ByteArray} {nL h index : Nat} {α : Type} {fin : α → zO} {σ : zW} {pc : Nat} {lv : zLV} {st : List zV} {a0 : Nat} {a1 : Int32} {a2 : Int32} {a3 : Nat} {c : Int32 → zW → Option α} (F : zFx E) (hk : zk E K own cc nL h) (hd : decode cc pc = .ok (.invokestatic index, 3)) (hl : Cond.methodLink own index qL_offer ∈ lw_tbl) (hh : 8 + 1 ≤ h) (hs : zcat st ≤ 8) (k : ∀ v s, zG E K fin (c v s) s (pc + 3) lv (.inl v :: st)) : zG E K fin (zb2 (fL_offer n a0 a1 a2 a3 σ) c) σ pc lv (.inr (.inl a3) :: .inl a2 :: .inl a1 :: .inr (.inl a0) :: st) :=
  z_hW (n := 4) (y := qL_offer) (As := [.inr (.inl a0), .inl a1, .inl a2, .inr (.inl a3)]) hk hd hl wd_861 wd_0 wd_862 ⟨by decide, by decide, by decide +kernel⟩ ⟨hh, by decide⟩ rfl (fun o ho => mL_offer F n a0 a1 a2 a3 σ o ho) hs k
abbrev qL_split : MethodName := { cls := "LotSalesLaw", name := "split", desc := "(LLotSales;II[J)I" }
def fL_split (n : Nat) (a0 : Nat) (a1 : Int32) (a2 : Int32) (a3 : Nat) (σ : zW) : Option (Int32 × zW) := zck σ 8 a0 (zbx (fX7_split n a0 a1 a2 σ) (fun x1 σ2 => zsL σ2 a3 0 x1 fun σ8 => some (0, σ8)) (fun e3 σ4 => if e3 = 1 then some (1, σ4) else if e3 = 2 then some (2, σ4) else if e3 = 3 then some (3, σ4) else none))
theorem mL_split (F : zFx E) (n : Nat) (a0 : Nat) (a1 : Int32) (a2 : Int32) (a3 : Nat) (σ : zW) (o : Int32 × zW) (hf : fL_split n a0 a1 a2 a3 σ = some o) : zMX E qL_split (.codeWith qL_split cL_split 5 (some .int) [(0, 10, 13, 21), (0, 10, 17, 13), (0, 10, 21, 15)]) 8 [.inr (.inl a0), .inl a1, .inl a2, .inr (.inl a3)] σ (.inl (some (.int o.1)), o.2) := by
  refine zMX_ofH (fin := zfW) F (by decide +kernel) rfl (Nat.le_of_ble_eq_true rfl) (lv0 := [some (.inr (.inl a0)), some (.inl a1), some (.inl a2), some (.inr (.inl a3)), none]) rfl hf rfl (fun K hk he htab => ?_)
  have hk : zk E K "LotSalesLaw" cL_split 5 8 := hk
  unfold fL_split
  refine z_run hk hL_split_0 0 5 (pc' := 5) (lv' := [some (.inr (.inl a0)), some (.inl a1), some (.inl a2), some (.inr (.inl a3)), none]) (st' := [.inl a2, .inl a1, .inr (.inl a0), .inl 0, .inr (.inl a3)]) rfl ?_
  refine kX7_split F hk (z_row hL_split_0 5 rfl) wd_870 (by decide) (Nat.le_of_ble_eq_true rfl) (fun x1 σ2 => ?_) (fun e3 σ4 => ?_)
  · refine z_run hk hL_split_0 6 1 (pc' := 9) (lv' := [some (.inr (.inl a0)), some (.inl a1), some (.inl a2), some (.inr (.inl a3)), none]) (st' := [.inr (.inr (.inl (x1.toInt64))), .inl 0, .inr (.inl a3)]) rfl ?_
    refine z_sL hk (z_row hL_split_0 7 rfl) (fun σ8 => ?_)
    refine z_goto hk (z_row hL_split_0 8 rfl) (tgt := 25) rfl ?_
    refine z_run hk hL_split_0 18 1 (pc' := 26) (lv' := [some (.inr (.inl a0)), some (.inl a1), some (.inl a2), some (.inr (.inl a3)), none]) (st' := [.inl 0]) rfl ?_
    exact z_iret hk he (z_row hL_split_0 19 rfl) rfl
  · refine z_cat0 (own := "LotSalesLaw") ?_
    refine z_catI hk htab (i := 0) (k1 := 1) (hp := 13) rfl (by decide) (by decide) rfl wd_482 wd_517 (by decide) (by decide) (fun q5 => ?_) ?_
    · refine z_run hk hL_split_0 9 2 (pc' := 16) (lv' := [some (.inr (.inl a0)), some (.inl a1), some (.inl a2), some (.inr (.inl a3)), some (.inr (.inr (.inr (.inr q5))))]) (st' := [.inl 1]) rfl ?_
      exact z_iret hk he (z_row hL_split_0 11 rfl) rfl
    refine z_catI hk htab (i := 1) (k1 := 2) (hp := 17) rfl (by decide) (by decide) rfl wd_344 wd_355 (by decide) (by decide) (fun q6 => ?_) ?_
    · refine z_run hk hL_split_0 12 2 (pc' := 20) (lv' := [some (.inr (.inl a0)), some (.inl a1), some (.inl a2), some (.inr (.inl a3)), some (.inr (.inr (.inr (.inr q6))))]) (st' := [.inl 2]) rfl ?_
      exact z_iret hk he (z_row hL_split_0 14 rfl) rfl
    refine z_catI hk htab (i := 2) (k1 := 3) (hp := 21) rfl (by decide) (by decide) rfl wd_345 wd_432 (by decide) (by decide) (fun q7 => ?_) ?_
    · refine z_run hk hL_split_0 15 2 (pc' := 24) (lv' := [some (.inr (.inl a0)), some (.inl a1), some (.inl a2), some (.inr (.inl a3)), some (.inr (.inr (.inr (.inr q7))))]) (st' := [.inl 3]) rfl ?_
      exact z_iret hk he (z_row hL_split_0 17 rfl) rfl
    exact z_catN
theorem kL_split {n : Nat} {own : String} {cc : ByteArray} {nL h index : Nat} {α : Type} {fin : α → zO} {σ : zW} {pc : Nat} {lv : zLV} {st : List zV} {a0 : Nat} {a1 : Int32} {a2 : Int32} {a3 : Nat} {c : Int32 → zW → Option α} (F : zFx E) (hk : zk E K own cc nL h) (hd : decode cc pc = .ok (.invokestatic index, 3)) (hl : Cond.methodLink own index qL_split ∈ lw_tbl) (hh : 8 + 1 ≤ h) (hs : zcat st ≤ 8) (k : ∀ v s, zG E K fin (c v s) s (pc + 3) lv (.inl v :: st)) : zG E K fin (zb2 (fL_split n a0 a1 a2 a3 σ) c) σ pc lv (.inr (.inl a3) :: .inl a2 :: .inl a1 :: .inr (.inl a0) :: st) :=
  z_hW (n := 4) (y := qL_split) (As := [.inr (.inl a0), .inl a1, .inl a2, .inr (.inl a3)]) hk hd hl wd_868 wd_0 wd_869 ⟨by decide, by decide, by decide +kernel⟩ ⟨hh, by decide⟩ rfl (fun o ho => mL_split F n a0 a1 a2 a3 σ o ho) hs k
abbrev qL_group : MethodName := { cls := "LotSalesLaw", name := "group", desc := "(LLotSales;II[J)I" }
def fL_group (n : Nat) (a0 : Nat) (a1 : Int32) (a2 : Int32) (a3 : Nat) (σ : zW) : Option (Int32 × zW) := zck σ 8 a0 (zbx (fX7_group n a0 a1 a2 σ) (fun x1 σ2 => zsL σ2 a3 0 x1 fun σ8 => some (0, σ8)) (fun e3 σ4 => if e3 = 1 then some (1, σ4) else if e3 = 2 then some (2, σ4) else if e3 = 3 then some (3, σ4) else none))
theorem mL_group (F : zFx E) (n : Nat) (a0 : Nat) (a1 : Int32) (a2 : Int32) (a3 : Nat) (σ : zW) (o : Int32 × zW) (hf : fL_group n a0 a1 a2 a3 σ = some o) : zMX E qL_group (.codeWith qL_group cL_group 5 (some .int) [(0, 10, 13, 21), (0, 10, 17, 13), (0, 10, 21, 15)]) 8 [.inr (.inl a0), .inl a1, .inl a2, .inr (.inl a3)] σ (.inl (some (.int o.1)), o.2) := by
  refine zMX_ofH (fin := zfW) F (by decide +kernel) rfl (Nat.le_of_ble_eq_true rfl) (lv0 := [some (.inr (.inl a0)), some (.inl a1), some (.inl a2), some (.inr (.inl a3)), none]) rfl hf rfl (fun K hk he htab => ?_)
  have hk : zk E K "LotSalesLaw" cL_group 5 8 := hk
  unfold fL_group
  refine z_run hk hL_group_0 0 5 (pc' := 5) (lv' := [some (.inr (.inl a0)), some (.inl a1), some (.inl a2), some (.inr (.inl a3)), none]) (st' := [.inl a2, .inl a1, .inr (.inl a0), .inl 0, .inr (.inl a3)]) rfl ?_
  refine kX7_group F hk (z_row hL_group_0 5 rfl) wd_899 (by decide) (Nat.le_of_ble_eq_true rfl) (fun x1 σ2 => ?_) (fun e3 σ4 => ?_)
  · refine z_run hk hL_group_0 6 1 (pc' := 9) (lv' := [some (.inr (.inl a0)), some (.inl a1), some (.inl a2), some (.inr (.inl a3)), none]) (st' := [.inr (.inr (.inl (x1.toInt64))), .inl 0, .inr (.inl a3)]) rfl ?_
    refine z_sL hk (z_row hL_group_0 7 rfl) (fun σ8 => ?_)
    refine z_goto hk (z_row hL_group_0 8 rfl) (tgt := 25) rfl ?_
    refine z_run hk hL_group_0 18 1 (pc' := 26) (lv' := [some (.inr (.inl a0)), some (.inl a1), some (.inl a2), some (.inr (.inl a3)), none]) (st' := [.inl 0]) rfl ?_
    exact z_iret hk he (z_row hL_group_0 19 rfl) rfl
  · refine z_cat0 (own := "LotSalesLaw") ?_
    refine z_catI hk htab (i := 0) (k1 := 1) (hp := 13) rfl (by decide) (by decide) rfl wd_482 wd_517 (by decide) (by decide) (fun q5 => ?_) ?_
    · refine z_run hk hL_group_0 9 2 (pc' := 16) (lv' := [some (.inr (.inl a0)), some (.inl a1), some (.inl a2), some (.inr (.inl a3)), some (.inr (.inr (.inr (.inr q5))))]) (st' := [.inl 1]) rfl ?_
      exact z_iret hk he (z_row hL_group_0 11 rfl) rfl
    refine z_catI hk htab (i := 1) (k1 := 2) (hp := 17) rfl (by decide) (by decide) rfl wd_344 wd_355 (by decide) (by decide) (fun q6 => ?_) ?_
    · refine z_run hk hL_group_0 12 2 (pc' := 20) (lv' := [some (.inr (.inl a0)), some (.inl a1), some (.inl a2), some (.inr (.inl a3)), some (.inr (.inr (.inr (.inr q6))))]) (st' := [.inl 2]) rfl ?_
      exact z_iret hk he (z_row hL_group_0 14 rfl) rfl
    refine z_catI hk htab (i := 2) (k1 := 3) (hp := 21) rfl (by decide) (by decide) rfl wd_345 wd_432 (by decide) (by decide) (fun q7 => ?_) ?_
    · refine z_run hk hL_group_0 15 2 (pc' := 24) (lv' := [some (.inr (.inl a0)), some (.inl a1), some (.inl a2), some (.inr (.inl a3)), some (.inr (.inr (.inr (.inr q7))))]) (st' := [.inl 3]) rfl ?_
      exact z_iret hk he (z_row hL_group_0 17 rfl) rfl
    exact z_catN
theorem kL_group {n : Nat} {own : String} {cc : ByteArray} {nL h index : Nat} {α : Type} {fin : α → zO} {σ : zW} {pc : Nat} {lv : zLV} {st : List zV} {a0 : Nat} {a1 : Int32} {a2 : Int32} {a3 : Nat} {c : Int32 → zW → Option α} (F : zFx E) (hk : zk E K own cc nL h) (hd : decode cc pc = .ok (.invokestatic index, 3)) (hl : Cond.methodLink own index qL_group ∈ lw_tbl) (hh : 8 + 1 ≤ h) (hs : zcat st ≤ 8) (k : ∀ v s, zG E K fin (c v s) s (pc + 3) lv (.inl v :: st)) : zG E K fin (zb2 (fL_group n a0 a1 a2 a3 σ) c) σ pc lv (.inr (.inl a3) :: .inl a2 :: .inl a1 :: .inr (.inl a0) :: st) :=
  z_hW (n := 4) (y := qL_group) (As := [.inr (.inl a0), .inl a1, .inl a2, .inr (.inl a3)]) hk hd hl wd_897 wd_0 wd_898 ⟨by decide, by decide, by decide +kernel⟩ ⟨hh, by decide⟩ rfl (fun o ho => mL_group F n a0 a1 a2 a3 σ o ho) hs k
abbrev qL_why : MethodName := { cls := "LotSalesLaw", name := "why", desc := "(LLotSales;I[J)I" }
def fL_why (n : Nat) (a0 : Nat) (a1 : Int32) (a2 : Nat) (σ : zW) : Option (Int32 × zW) := zck σ 8 a0 (zbx (fX7_why n a0 a1 σ) (fun x1 σ2 => zsL σ2 a2 0 x1 fun σ7 => some (0, σ7)) (fun e3 σ4 => if e3 = 1 then some (1, σ4) else if e3 = 4 then some (2, σ4) else none))
theorem mL_why (F : zFx E) (n : Nat) (a0 : Nat) (a1 : Int32) (a2 : Nat) (σ : zW) (o : Int32 × zW) (hf : fL_why n a0 a1 a2 σ = some o) : zMX E qL_why (.codeWith qL_why cL_why 4 (some .int) [(0, 9, 12, 21), (0, 9, 15, 50)]) 8 [.inr (.inl a0), .inl a1, .inr (.inl a2)] σ (.inl (some (.int o.1)), o.2) := by
  refine zMX_ofH (fin := zfW) F (by decide +kernel) rfl (Nat.le_of_ble_eq_true rfl) (lv0 := [some (.inr (.inl a0)), some (.inl a1), some (.inr (.inl a2)), none]) rfl hf rfl (fun K hk he htab => ?_)
  have hk : zk E K "LotSalesLaw" cL_why 4 8 := hk
  unfold fL_why
  refine z_run hk hL_why_0 0 4 (pc' := 4) (lv' := [some (.inr (.inl a0)), some (.inl a1), some (.inr (.inl a2)), none]) (st' := [.inl a1, .inr (.inl a0), .inl 0, .inr (.inl a2)]) rfl ?_
  refine kX7_why F hk (z_row hL_why_0 4 rfl) wd_913 (by decide) (Nat.le_of_ble_eq_true rfl) (fun x1 σ2 => ?_) (fun e3 σ4 => ?_)
  · refine z_run hk hL_why_0 5 1 (pc' := 8) (lv' := [some (.inr (.inl a0)), some (.inl a1), some (.inr (.inl a2)), none]) (st' := [.inr (.inr (.inl (x1.toInt64))), .inl 0, .inr (.inl a2)]) rfl ?_
    refine z_sL hk (z_row hL_why_0 6 rfl) (fun σ7 => ?_)
    refine z_goto hk (z_row hL_why_0 7 rfl) (tgt := 18) rfl ?_
    refine z_run hk hL_why_0 14 1 (pc' := 19) (lv' := [some (.inr (.inl a0)), some (.inl a1), some (.inr (.inl a2)), none]) (st' := [.inl 0]) rfl ?_
    exact z_iret hk he (z_row hL_why_0 15 rfl) rfl
  · refine z_cat0 (own := "LotSalesLaw") ?_
    refine z_catI hk htab (i := 0) (k1 := 1) (hp := 12) rfl (by decide) (by decide) rfl wd_482 wd_517 (by decide) (by decide) (fun q5 => ?_) ?_
    · refine z_run hk hL_why_0 8 2 (pc' := 14) (lv' := [some (.inr (.inl a0)), some (.inl a1), some (.inr (.inl a2)), some (.inr (.inr (.inr (.inr q5))))]) (st' := [.inl 1]) rfl ?_
      exact z_iret hk he (z_row hL_why_0 10 rfl) rfl
    refine z_catI hk htab (i := 1) (k1 := 4) (hp := 15) rfl (by decide) (by decide) rfl wd_680 wd_647 (by decide) (by decide) (fun q6 => ?_) ?_
    · refine z_run hk hL_why_0 11 2 (pc' := 17) (lv' := [some (.inr (.inl a0)), some (.inl a1), some (.inr (.inl a2)), some (.inr (.inr (.inr (.inr q6))))]) (st' := [.inl 2]) rfl ?_
      exact z_iret hk he (z_row hL_why_0 13 rfl) rfl
    exact z_catN
theorem kL_why {n : Nat} {own : String} {cc : ByteArray} {nL h index : Nat} {α : Type} {fin : α → zO} {σ : zW} {pc : Nat} {lv : zLV} {st : List zV} {a0 : Nat} {a1 : Int32} {a2 : Nat} {c : Int32 → zW → Option α} (F : zFx E) (hk : zk E K own cc nL h) (hd : decode cc pc = .ok (.invokestatic index, 3)) (hl : Cond.methodLink own index qL_why ∈ lw_tbl) (hh : 8 + 1 ≤ h) (hs : zcat st ≤ 8) (k : ∀ v s, zG E K fin (c v s) s (pc + 3) lv (.inl v :: st)) : zG E K fin (zb2 (fL_why n a0 a1 a2 σ) c) σ pc lv (.inr (.inl a2) :: .inl a1 :: .inr (.inl a0) :: st) :=
  z_hW (n := 3) (y := qL_why) (As := [.inr (.inl a0), .inl a1, .inr (.inl a2)]) hk hd hl wd_911 wd_0 wd_912 ⟨by decide, by decide, by decide +kernel⟩ ⟨hh, by decide⟩ rfl (fun o ho => mL_why F n a0 a1 a2 σ o ho) hs k
abbrev qL_sold : MethodName := { cls := "LotSalesLaw", name := "sold", desc := "(LLotSales;IZ[J)I" }
def fL_sold (n : Nat) (a0 : Nat) (a1 : Int32) (a2 : Int32) (a3 : Nat) (σ : zW) : Option (Int32 × zW) := zck σ 8 a0 (zbx (fX7_sold n a0 a1 a2 σ) (fun x1 σ2 => zsL σ2 a3 0 x1 fun σ7 => some (0, σ7)) (fun e3 σ4 => if e3 = 1 then some (1, σ4) else if e3 = 4 then some (2, σ4) else none))
theorem mL_sold (F : zFx E) (n : Nat) (a0 : Nat) (a1 : Int32) (a2 : Int32) (a3 : Nat) (σ : zW) (o : Int32 × zW) (hf : fL_sold n a0 a1 a2 a3 σ = some o) : zMX E qL_sold (.codeWith qL_sold cL_sold 5 (some .int) [(0, 10, 13, 21), (0, 10, 17, 50)]) 8 [.inr (.inl a0), .inl a1, .inl a2, .inr (.inl a3)] σ (.inl (some (.int o.1)), o.2) := by
  refine zMX_ofH (fin := zfW) F (by decide +kernel) rfl (Nat.le_of_ble_eq_true rfl) (lv0 := [some (.inr (.inl a0)), some (.inl a1), some (.inl a2), some (.inr (.inl a3)), none]) rfl hf rfl (fun K hk he htab => ?_)
  have hk : zk E K "LotSalesLaw" cL_sold 5 8 := hk
  unfold fL_sold
  refine z_run hk hL_sold_0 0 5 (pc' := 5) (lv' := [some (.inr (.inl a0)), some (.inl a1), some (.inl a2), some (.inr (.inl a3)), none]) (st' := [.inl a2, .inl a1, .inr (.inl a0), .inl 0, .inr (.inl a3)]) rfl ?_
  refine kX7_sold F hk (z_row hL_sold_0 5 rfl) wd_921 (by decide) (Nat.le_of_ble_eq_true rfl) (fun x1 σ2 => ?_) (fun e3 σ4 => ?_)
  · refine z_run hk hL_sold_0 6 1 (pc' := 9) (lv' := [some (.inr (.inl a0)), some (.inl a1), some (.inl a2), some (.inr (.inl a3)), none]) (st' := [.inr (.inr (.inl (x1.toInt64))), .inl 0, .inr (.inl a3)]) rfl ?_
    refine z_sL hk (z_row hL_sold_0 7 rfl) (fun σ7 => ?_)
    refine z_goto hk (z_row hL_sold_0 8 rfl) (tgt := 21) rfl ?_
    refine z_run hk hL_sold_0 15 1 (pc' := 22) (lv' := [some (.inr (.inl a0)), some (.inl a1), some (.inl a2), some (.inr (.inl a3)), none]) (st' := [.inl 0]) rfl ?_
    exact z_iret hk he (z_row hL_sold_0 16 rfl) rfl
  · refine z_cat0 (own := "LotSalesLaw") ?_
    refine z_catI hk htab (i := 0) (k1 := 1) (hp := 13) rfl (by decide) (by decide) rfl wd_482 wd_517 (by decide) (by decide) (fun q5 => ?_) ?_
    · refine z_run hk hL_sold_0 9 2 (pc' := 16) (lv' := [some (.inr (.inl a0)), some (.inl a1), some (.inl a2), some (.inr (.inl a3)), some (.inr (.inr (.inr (.inr q5))))]) (st' := [.inl 1]) rfl ?_
      exact z_iret hk he (z_row hL_sold_0 11 rfl) rfl
    refine z_catI hk htab (i := 1) (k1 := 4) (hp := 17) rfl (by decide) (by decide) rfl wd_680 wd_647 (by decide) (by decide) (fun q6 => ?_) ?_
    · refine z_run hk hL_sold_0 12 2 (pc' := 20) (lv' := [some (.inr (.inl a0)), some (.inl a1), some (.inl a2), some (.inr (.inl a3)), some (.inr (.inr (.inr (.inr q6))))]) (st' := [.inl 2]) rfl ?_
      exact z_iret hk he (z_row hL_sold_0 14 rfl) rfl
    exact z_catN
theorem kL_sold {n : Nat} {own : String} {cc : ByteArray} {nL h index : Nat} {α : Type} {fin : α → zO} {σ : zW} {pc : Nat} {lv : zLV} {st : List zV} {a0 : Nat} {a1 : Int32} {a2 : Int32} {a3 : Nat} {c : Int32 → zW → Option α} (F : zFx E) (hk : zk E K own cc nL h) (hd : decode cc pc = .ok (.invokestatic index, 3)) (hl : Cond.methodLink own index qL_sold ∈ lw_tbl) (hh : 8 + 1 ≤ h) (hs : zcat st ≤ 8) (k : ∀ v s, zG E K fin (c v s) s (pc + 3) lv (.inl v :: st)) : zG E K fin (zb2 (fL_sold n a0 a1 a2 a3 σ) c) σ pc lv (.inr (.inl a3) :: .inl a2 :: .inl a1 :: .inr (.inl a0) :: st) :=
  z_hW (n := 4) (y := qL_sold) (As := [.inr (.inl a0), .inl a1, .inl a2, .inr (.inl a3)]) hk hd hl wd_919 wd_0 wd_920 ⟨by decide, by decide, by decide +kernel⟩ ⟨hh, by decide⟩ rfl (fun o ho => mL_sold F n a0 a1 a2 a3 σ o ho) hs k
abbrev qL_premium : MethodName := { cls := "LotSalesLaw", name := "premium", desc := "(LLotSales;I[J)I" }
def fL_premium (n : Nat) (a0 : Nat) (a1 : Int32) (a2 : Nat) (σ : zW) : Option (Int32 × zW) := zck σ 8 a0 (zbx (fX7_premium n a0 a1 σ) (fun x1 σ2 => zsL σ2 a2 0 x1 fun σ6 => some (0, σ6)) (fun e3 σ4 => if e3 = 2 then some (1, σ4) else none))
theorem mL_premium (F : zFx E) (n : Nat) (a0 : Nat) (a1 : Int32) (a2 : Nat) (σ : zW) (o : Int32 × zW) (hf : fL_premium n a0 a1 a2 σ = some o) : zMX E qL_premium (.codeWith qL_premium cL_premium 4 (some .int) [(0, 9, 12, 13)]) 8 [.inr (.inl a0), .inl a1, .inr (.inl a2)] σ (.inl (some (.int o.1)), o.2) := by
  refine zMX_ofH (fin := zfW) F (by decide +kernel) rfl (Nat.le_of_ble_eq_true rfl) (lv0 := [some (.inr (.inl a0)), some (.inl a1), some (.inr (.inl a2)), none]) rfl hf rfl (fun K hk he htab => ?_)
  have hk : zk E K "LotSalesLaw" cL_premium 4 8 := hk
  unfold fL_premium
  refine z_run hk hL_premium_0 0 4 (pc' := 4) (lv' := [some (.inr (.inl a0)), some (.inl a1), some (.inr (.inl a2)), none]) (st' := [.inl a1, .inr (.inl a0), .inl 0, .inr (.inl a2)]) rfl ?_
  refine kX7_premium F hk (z_row hL_premium_0 4 rfl) wd_929 (by decide) (Nat.le_of_ble_eq_true rfl) (fun x1 σ2 => ?_) (fun e3 σ4 => ?_)
  · refine z_run hk hL_premium_0 5 1 (pc' := 8) (lv' := [some (.inr (.inl a0)), some (.inl a1), some (.inr (.inl a2)), none]) (st' := [.inr (.inr (.inl (x1.toInt64))), .inl 0, .inr (.inl a2)]) rfl ?_
    refine z_sL hk (z_row hL_premium_0 6 rfl) (fun σ6 => ?_)
    refine z_goto hk (z_row hL_premium_0 7 rfl) (tgt := 15) rfl ?_
    refine z_run hk hL_premium_0 11 1 (pc' := 16) (lv' := [some (.inr (.inl a0)), some (.inl a1), some (.inr (.inl a2)), none]) (st' := [.inl 0]) rfl ?_
    exact z_iret hk he (z_row hL_premium_0 12 rfl) rfl
  · refine z_cat0 (own := "LotSalesLaw") ?_
    refine z_catI hk htab (i := 0) (k1 := 2) (hp := 12) rfl (by decide) (by decide) rfl wd_344 wd_355 (by decide) (by decide) (fun q5 => ?_) ?_
    · refine z_run hk hL_premium_0 8 2 (pc' := 14) (lv' := [some (.inr (.inl a0)), some (.inl a1), some (.inr (.inl a2)), some (.inr (.inr (.inr (.inr q5))))]) (st' := [.inl 1]) rfl ?_
      exact z_iret hk he (z_row hL_premium_0 10 rfl) rfl
    exact z_catN
theorem kL_premium {n : Nat} {own : String} {cc : ByteArray} {nL h index : Nat} {α : Type} {fin : α → zO} {σ : zW} {pc : Nat} {lv : zLV} {st : List zV} {a0 : Nat} {a1 : Int32} {a2 : Nat} {c : Int32 → zW → Option α} (F : zFx E) (hk : zk E K own cc nL h) (hd : decode cc pc = .ok (.invokestatic index, 3)) (hl : Cond.methodLink own index qL_premium ∈ lw_tbl) (hh : 8 + 1 ≤ h) (hs : zcat st ≤ 8) (k : ∀ v s, zG E K fin (c v s) s (pc + 3) lv (.inl v :: st)) : zG E K fin (zb2 (fL_premium n a0 a1 a2 σ) c) σ pc lv (.inr (.inl a2) :: .inl a1 :: .inr (.inl a0) :: st) :=
  z_hW (n := 3) (y := qL_premium) (As := [.inr (.inl a0), .inl a1, .inr (.inl a2)]) hk hd hl wd_927 wd_0 wd_928 ⟨by decide, by decide, by decide +kernel⟩ ⟨hh, by decide⟩ rfl (fun o ho => mL_premium F n a0 a1 a2 σ o ho) hs k
abbrev qL_bidder : MethodName := { cls := "LotSalesLaw", name := "bidder", desc := "(LLotSales;II[J)I" }
def fL_bidder (n : Nat) (a0 : Nat) (a1 : Int32) (a2 : Int32) (a3 : Nat) (σ : zW) : Option (Int32 × zW) := zck σ 8 a0 (zbx (fX7_bidder n a0 a1 a2 σ) (fun x1 σ2 => zsL σ2 a3 0 x1 fun σ7 => some (0, σ7)) (fun e3 σ4 => if e3 = 1 then some (1, σ4) else if e3 = 2 then some (2, σ4) else none))
theorem mL_bidder (F : zFx E) (n : Nat) (a0 : Nat) (a1 : Int32) (a2 : Int32) (a3 : Nat) (σ : zW) (o : Int32 × zW) (hf : fL_bidder n a0 a1 a2 a3 σ = some o) : zMX E qL_bidder (.codeWith qL_bidder cL_bidder 5 (some .int) [(0, 10, 13, 21), (0, 10, 17, 13)]) 8 [.inr (.inl a0), .inl a1, .inl a2, .inr (.inl a3)] σ (.inl (some (.int o.1)), o.2) := by
  refine zMX_ofH (fin := zfW) F (by decide +kernel) rfl (Nat.le_of_ble_eq_true rfl) (lv0 := [some (.inr (.inl a0)), some (.inl a1), some (.inl a2), some (.inr (.inl a3)), none]) rfl hf rfl (fun K hk he htab => ?_)
  have hk : zk E K "LotSalesLaw" cL_bidder 5 8 := hk
  unfold fL_bidder
  refine z_run hk hL_bidder_0 0 5 (pc' := 5) (lv' := [some (.inr (.inl a0)), some (.inl a1), some (.inl a2), some (.inr (.inl a3)), none]) (st' := [.inl a2, .inl a1, .inr (.inl a0), .inl 0, .inr (.inl a3)]) rfl ?_
  refine kX7_bidder F hk (z_row hL_bidder_0 5 rfl) wd_940 (by decide) (Nat.le_of_ble_eq_true rfl) (fun x1 σ2 => ?_) (fun e3 σ4 => ?_)
  · refine z_run hk hL_bidder_0 6 1 (pc' := 9) (lv' := [some (.inr (.inl a0)), some (.inl a1), some (.inl a2), some (.inr (.inl a3)), none]) (st' := [.inr (.inr (.inl (x1.toInt64))), .inl 0, .inr (.inl a3)]) rfl ?_
    refine z_sL hk (z_row hL_bidder_0 7 rfl) (fun σ7 => ?_)
    refine z_goto hk (z_row hL_bidder_0 8 rfl) (tgt := 21) rfl ?_
    refine z_run hk hL_bidder_0 15 1 (pc' := 22) (lv' := [some (.inr (.inl a0)), some (.inl a1), some (.inl a2), some (.inr (.inl a3)), none]) (st' := [.inl 0]) rfl ?_
    exact z_iret hk he (z_row hL_bidder_0 16 rfl) rfl
  · refine z_cat0 (own := "LotSalesLaw") ?_
    refine z_catI hk htab (i := 0) (k1 := 1) (hp := 13) rfl (by decide) (by decide) rfl wd_482 wd_517 (by decide) (by decide) (fun q5 => ?_) ?_
    · refine z_run hk hL_bidder_0 9 2 (pc' := 16) (lv' := [some (.inr (.inl a0)), some (.inl a1), some (.inl a2), some (.inr (.inl a3)), some (.inr (.inr (.inr (.inr q5))))]) (st' := [.inl 1]) rfl ?_
      exact z_iret hk he (z_row hL_bidder_0 11 rfl) rfl
    refine z_catI hk htab (i := 1) (k1 := 2) (hp := 17) rfl (by decide) (by decide) rfl wd_344 wd_355 (by decide) (by decide) (fun q6 => ?_) ?_
    · refine z_run hk hL_bidder_0 12 2 (pc' := 20) (lv' := [some (.inr (.inl a0)), some (.inl a1), some (.inl a2), some (.inr (.inl a3)), some (.inr (.inr (.inr (.inr q6))))]) (st' := [.inl 2]) rfl ?_
      exact z_iret hk he (z_row hL_bidder_0 14 rfl) rfl
    exact z_catN
theorem kL_bidder {n : Nat} {own : String} {cc : ByteArray} {nL h index : Nat} {α : Type} {fin : α → zO} {σ : zW} {pc : Nat} {lv : zLV} {st : List zV} {a0 : Nat} {a1 : Int32} {a2 : Int32} {a3 : Nat} {c : Int32 → zW → Option α} (F : zFx E) (hk : zk E K own cc nL h) (hd : decode cc pc = .ok (.invokestatic index, 3)) (hl : Cond.methodLink own index qL_bidder ∈ lw_tbl) (hh : 8 + 1 ≤ h) (hs : zcat st ≤ 8) (k : ∀ v s, zG E K fin (c v s) s (pc + 3) lv (.inl v :: st)) : zG E K fin (zb2 (fL_bidder n a0 a1 a2 a3 σ) c) σ pc lv (.inr (.inl a3) :: .inl a2 :: .inl a1 :: .inr (.inl a0) :: st) :=
  z_hW (n := 4) (y := qL_bidder) (As := [.inr (.inl a0), .inl a1, .inl a2, .inr (.inl a3)]) hk hd hl wd_938 wd_0 wd_939 ⟨by decide, by decide, by decide +kernel⟩ ⟨hh, by decide⟩ rfl (fun o ho => mL_bidder F n a0 a1 a2 a3 σ o ho) hs k
abbrev qL_seller : MethodName := { cls := "LotSalesLaw", name := "seller", desc := "(LLotSales;II[J)I" }
def fL_seller (n : Nat) (a0 : Nat) (a1 : Int32) (a2 : Int32) (a3 : Nat) (σ : zW) : Option (Int32 × zW) := zck σ 8 a0 (zbx (fX7_seller n a0 a1 a2 σ) (fun x1 σ2 => zsL σ2 a3 0 x1 fun σ7 => some (0, σ7)) (fun e3 σ4 => if e3 = 1 then some (1, σ4) else if e3 = 2 then some (2, σ4) else none))
theorem mL_seller (F : zFx E) (n : Nat) (a0 : Nat) (a1 : Int32) (a2 : Int32) (a3 : Nat) (σ : zW) (o : Int32 × zW) (hf : fL_seller n a0 a1 a2 a3 σ = some o) : zMX E qL_seller (.codeWith qL_seller cL_seller 5 (some .int) [(0, 10, 13, 21), (0, 10, 17, 13)]) 8 [.inr (.inl a0), .inl a1, .inl a2, .inr (.inl a3)] σ (.inl (some (.int o.1)), o.2) := by
  refine zMX_ofH (fin := zfW) F (by decide +kernel) rfl (Nat.le_of_ble_eq_true rfl) (lv0 := [some (.inr (.inl a0)), some (.inl a1), some (.inl a2), some (.inr (.inl a3)), none]) rfl hf rfl (fun K hk he htab => ?_)
  have hk : zk E K "LotSalesLaw" cL_seller 5 8 := hk
  unfold fL_seller
  refine z_run hk hL_seller_0 0 5 (pc' := 5) (lv' := [some (.inr (.inl a0)), some (.inl a1), some (.inl a2), some (.inr (.inl a3)), none]) (st' := [.inl a2, .inl a1, .inr (.inl a0), .inl 0, .inr (.inl a3)]) rfl ?_
  refine kX7_seller F hk (z_row hL_seller_0 5 rfl) wd_960 (by decide) (Nat.le_of_ble_eq_true rfl) (fun x1 σ2 => ?_) (fun e3 σ4 => ?_)
  · refine z_run hk hL_seller_0 6 1 (pc' := 9) (lv' := [some (.inr (.inl a0)), some (.inl a1), some (.inl a2), some (.inr (.inl a3)), none]) (st' := [.inr (.inr (.inl (x1.toInt64))), .inl 0, .inr (.inl a3)]) rfl ?_
    refine z_sL hk (z_row hL_seller_0 7 rfl) (fun σ7 => ?_)
    refine z_goto hk (z_row hL_seller_0 8 rfl) (tgt := 21) rfl ?_
    refine z_run hk hL_seller_0 15 1 (pc' := 22) (lv' := [some (.inr (.inl a0)), some (.inl a1), some (.inl a2), some (.inr (.inl a3)), none]) (st' := [.inl 0]) rfl ?_
    exact z_iret hk he (z_row hL_seller_0 16 rfl) rfl
  · refine z_cat0 (own := "LotSalesLaw") ?_
    refine z_catI hk htab (i := 0) (k1 := 1) (hp := 13) rfl (by decide) (by decide) rfl wd_482 wd_517 (by decide) (by decide) (fun q5 => ?_) ?_
    · refine z_run hk hL_seller_0 9 2 (pc' := 16) (lv' := [some (.inr (.inl a0)), some (.inl a1), some (.inl a2), some (.inr (.inl a3)), some (.inr (.inr (.inr (.inr q5))))]) (st' := [.inl 1]) rfl ?_
      exact z_iret hk he (z_row hL_seller_0 11 rfl) rfl
    refine z_catI hk htab (i := 1) (k1 := 2) (hp := 17) rfl (by decide) (by decide) rfl wd_344 wd_355 (by decide) (by decide) (fun q6 => ?_) ?_
    · refine z_run hk hL_seller_0 12 2 (pc' := 20) (lv' := [some (.inr (.inl a0)), some (.inl a1), some (.inl a2), some (.inr (.inl a3)), some (.inr (.inr (.inr (.inr q6))))]) (st' := [.inl 2]) rfl ?_
      exact z_iret hk he (z_row hL_seller_0 14 rfl) rfl
    exact z_catN
theorem kL_seller {n : Nat} {own : String} {cc : ByteArray} {nL h index : Nat} {α : Type} {fin : α → zO} {σ : zW} {pc : Nat} {lv : zLV} {st : List zV} {a0 : Nat} {a1 : Int32} {a2 : Int32} {a3 : Nat} {c : Int32 → zW → Option α} (F : zFx E) (hk : zk E K own cc nL h) (hd : decode cc pc = .ok (.invokestatic index, 3)) (hl : Cond.methodLink own index qL_seller ∈ lw_tbl) (hh : 8 + 1 ≤ h) (hs : zcat st ≤ 8) (k : ∀ v s, zG E K fin (c v s) s (pc + 3) lv (.inl v :: st)) : zG E K fin (zb2 (fL_seller n a0 a1 a2 a3 σ) c) σ pc lv (.inr (.inl a3) :: .inl a2 :: .inl a1 :: .inr (.inl a0) :: st) :=
  z_hW (n := 4) (y := qL_seller) (As := [.inr (.inl a0), .inl a1, .inl a2, .inr (.inl a3)]) hk hd hl wd_958 wd_0 wd_959 ⟨by decide, by decide, by decide +kernel⟩ ⟨hh, by decide⟩ rfl (fun o ho => mL_seller F n a0 a1 a2 a3 σ o ho) hs k
abbrev qL_house : MethodName := { cls := "LotSalesLaw", name := "house", desc := "(LLotSales;I[J)I" }
def fL_house (n : Nat) (a0 : Nat) (a1 : Int32) (a2 : Nat) (σ : zW) : Option (Int32 × zW) := zck σ 8 a0 (zbx (fX7_house n a0 a1 σ) (fun x1 σ2 => zsL σ2 a2 0 x1 fun σ6 => some (0, σ6)) (fun e3 σ4 => if e3 = 2 then some (1, σ4) else none))
theorem mL_house (F : zFx E) (n : Nat) (a0 : Nat) (a1 : Int32) (a2 : Nat) (σ : zW) (o : Int32 × zW) (hf : fL_house n a0 a1 a2 σ = some o) : zMX E qL_house (.codeWith qL_house cL_house 4 (some .int) [(0, 9, 12, 13)]) 8 [.inr (.inl a0), .inl a1, .inr (.inl a2)] σ (.inl (some (.int o.1)), o.2) := by
  refine zMX_ofH (fin := zfW) F (by decide +kernel) rfl (Nat.le_of_ble_eq_true rfl) (lv0 := [some (.inr (.inl a0)), some (.inl a1), some (.inr (.inl a2)), none]) rfl hf rfl (fun K hk he htab => ?_)
  have hk : zk E K "LotSalesLaw" cL_house 4 8 := hk
  unfold fL_house
  refine z_run hk hL_house_0 0 4 (pc' := 4) (lv' := [some (.inr (.inl a0)), some (.inl a1), some (.inr (.inl a2)), none]) (st' := [.inl a1, .inr (.inl a0), .inl 0, .inr (.inl a2)]) rfl ?_
  refine kX7_house F hk (z_row hL_house_0 4 rfl) wd_990 (by decide) (Nat.le_of_ble_eq_true rfl) (fun x1 σ2 => ?_) (fun e3 σ4 => ?_)
  · refine z_run hk hL_house_0 5 1 (pc' := 8) (lv' := [some (.inr (.inl a0)), some (.inl a1), some (.inr (.inl a2)), none]) (st' := [.inr (.inr (.inl (x1.toInt64))), .inl 0, .inr (.inl a2)]) rfl ?_
    refine z_sL hk (z_row hL_house_0 6 rfl) (fun σ6 => ?_)
    refine z_goto hk (z_row hL_house_0 7 rfl) (tgt := 15) rfl ?_
    refine z_run hk hL_house_0 11 1 (pc' := 16) (lv' := [some (.inr (.inl a0)), some (.inl a1), some (.inr (.inl a2)), none]) (st' := [.inl 0]) rfl ?_
    exact z_iret hk he (z_row hL_house_0 12 rfl) rfl
  · refine z_cat0 (own := "LotSalesLaw") ?_
    refine z_catI hk htab (i := 0) (k1 := 2) (hp := 12) rfl (by decide) (by decide) rfl wd_344 wd_355 (by decide) (by decide) (fun q5 => ?_) ?_
    · refine z_run hk hL_house_0 8 2 (pc' := 14) (lv' := [some (.inr (.inl a0)), some (.inl a1), some (.inr (.inl a2)), some (.inr (.inr (.inr (.inr q5))))]) (st' := [.inl 1]) rfl ?_
      exact z_iret hk he (z_row hL_house_0 10 rfl) rfl
    exact z_catN
theorem kL_house {n : Nat} {own : String} {cc : ByteArray} {nL h index : Nat} {α : Type} {fin : α → zO} {σ : zW} {pc : Nat} {lv : zLV} {st : List zV} {a0 : Nat} {a1 : Int32} {a2 : Nat} {c : Int32 → zW → Option α} (F : zFx E) (hk : zk E K own cc nL h) (hd : decode cc pc = .ok (.invokestatic index, 3)) (hl : Cond.methodLink own index qL_house ∈ lw_tbl) (hh : 8 + 1 ≤ h) (hs : zcat st ≤ 8) (k : ∀ v s, zG E K fin (c v s) s (pc + 3) lv (.inl v :: st)) : zG E K fin (zb2 (fL_house n a0 a1 a2 σ) c) σ pc lv (.inr (.inl a2) :: .inl a1 :: .inr (.inl a0) :: st) :=
  z_hW (n := 3) (y := qL_house) (As := [.inr (.inl a0), .inl a1, .inr (.inl a2)]) hk hd hl wd_988 wd_0 wd_989 ⟨by decide, by decide, by decide +kernel⟩ ⟨hh, by decide⟩ rfl (fun o ho => mL_house F n a0 a1 a2 σ o ho) hs k
abbrev qL_soldShare : MethodName := { cls := "LotSalesLaw", name := "soldShare", desc := "(LLotSales;[D)I" }
def fL_soldShare (n : Nat) (a0 : Nat) (a1 : Nat) (σ : zW) : Option (Int32 × zW) := zck σ 8 a0 (zbx (fX7_soldShare n a0 σ) (fun x1 σ2 => zsD σ2 a1 0 x1 fun σ6 => some (0, σ6)) (fun e3 σ4 => if e3 = 6 then some (1, σ4) else none))
theorem mL_soldShare (F : zFx E) (n : Nat) (a0 : Nat) (a1 : Nat) (σ : zW) (o : Int32 × zW) (hf : fL_soldShare n a0 a1 σ = some o) : zMX E qL_soldShare (.codeWith qL_soldShare cL_soldShare 3 (some .int) [(0, 7, 10, 119)]) 7 [.inr (.inl a0), .inr (.inl a1)] σ (.inl (some (.int o.1)), o.2) := by
  refine zMX_ofH (fin := zfW) F (by decide +kernel) rfl (Nat.le_of_ble_eq_true rfl) (lv0 := [some (.inr (.inl a0)), some (.inr (.inl a1)), none]) rfl hf rfl (fun K hk he htab => ?_)
  have hk : zk E K "LotSalesLaw" cL_soldShare 3 7 := hk
  unfold fL_soldShare
  refine z_run hk hL_soldShare_0 0 3 (pc' := 3) (lv' := [some (.inr (.inl a0)), some (.inr (.inl a1)), none]) (st' := [.inr (.inl a0), .inl 0, .inr (.inl a1)]) rfl ?_
  refine kX7_soldShare F hk (z_row hL_soldShare_0 3 rfl) wd_1011 (by decide) (Nat.le_of_ble_eq_true rfl) (fun x1 σ2 => ?_) (fun e3 σ4 => ?_)
  · refine z_sD hk (z_row hL_soldShare_0 4 rfl) (fun σ6 => ?_)
    refine z_goto hk (z_row hL_soldShare_0 5 rfl) (tgt := 13) rfl ?_
    refine z_run hk hL_soldShare_0 9 1 (pc' := 14) (lv' := [some (.inr (.inl a0)), some (.inr (.inl a1)), none]) (st' := [.inl 0]) rfl ?_
    exact z_iret hk he (z_row hL_soldShare_0 10 rfl) rfl
  · refine z_cat0 (own := "LotSalesLaw") ?_
    refine z_catI hk htab (i := 0) (k1 := 6) (hp := 10) rfl (by decide) (by decide) rfl wd_997 wd_1009 (by decide) (by decide) (fun q5 => ?_) ?_
    · refine z_run hk hL_soldShare_0 6 2 (pc' := 12) (lv' := [some (.inr (.inl a0)), some (.inr (.inl a1)), some (.inr (.inr (.inr (.inr q5))))]) (st' := [.inl 1]) rfl ?_
      exact z_iret hk he (z_row hL_soldShare_0 8 rfl) rfl
    exact z_catN
theorem kL_soldShare {n : Nat} {own : String} {cc : ByteArray} {nL h index : Nat} {α : Type} {fin : α → zO} {σ : zW} {pc : Nat} {lv : zLV} {st : List zV} {a0 : Nat} {a1 : Nat} {c : Int32 → zW → Option α} (F : zFx E) (hk : zk E K own cc nL h) (hd : decode cc pc = .ok (.invokestatic index, 3)) (hl : Cond.methodLink own index qL_soldShare ∈ lw_tbl) (hh : 7 + 1 ≤ h) (hs : zcat st ≤ 8) (k : ∀ v s, zG E K fin (c v s) s (pc + 3) lv (.inl v :: st)) : zG E K fin (zb2 (fL_soldShare n a0 a1 σ) c) σ pc lv (.inr (.inl a1) :: .inr (.inl a0) :: st) :=
  z_hW (n := 2) (y := qL_soldShare) (As := [.inr (.inl a0), .inr (.inl a1)]) hk hd hl wd_995 wd_0 wd_996 ⟨by decide, by decide, by decide +kernel⟩ ⟨hh, by decide⟩ rfl (fun o ho => mL_soldShare F n a0 a1 σ o ho) hs k
abbrev qL_events : MethodName := { cls := "LotSalesLaw", name := "events", desc := "(LLotSales;I[J)I" }
def fL_events (n : Nat) (a0 : Nat) (a1 : Int32) (a2 : Nat) (σ : zW) : Option (Int32 × zW) := zck σ 8 a0 (zbx (fX7_events n a0 a1 σ) (fun x1 σ2 => zsL σ2 a2 0 x1 fun σ6 => some (0, σ6)) (fun e3 σ4 => if e3 = 2 then some (1, σ4) else none))
theorem mL_events (F : zFx E) (n : Nat) (a0 : Nat) (a1 : Int32) (a2 : Nat) (σ : zW) (o : Int32 × zW) (hf : fL_events n a0 a1 a2 σ = some o) : zMX E qL_events (.codeWith qL_events cL_events 4 (some .int) [(0, 9, 12, 13)]) 8 [.inr (.inl a0), .inl a1, .inr (.inl a2)] σ (.inl (some (.int o.1)), o.2) := by
  refine zMX_ofH (fin := zfW) F (by decide +kernel) rfl (Nat.le_of_ble_eq_true rfl) (lv0 := [some (.inr (.inl a0)), some (.inl a1), some (.inr (.inl a2)), none]) rfl hf rfl (fun K hk he htab => ?_)
  have hk : zk E K "LotSalesLaw" cL_events 4 8 := hk
  unfold fL_events
  refine z_run hk hL_events_0 0 4 (pc' := 4) (lv' := [some (.inr (.inl a0)), some (.inl a1), some (.inr (.inl a2)), none]) (st' := [.inl a1, .inr (.inl a0), .inl 0, .inr (.inl a2)]) rfl ?_
  refine kX7_events F hk (z_row hL_events_0 4 rfl) wd_1025 (by decide) (Nat.le_of_ble_eq_true rfl) (fun x1 σ2 => ?_) (fun e3 σ4 => ?_)
  · refine z_run hk hL_events_0 5 1 (pc' := 8) (lv' := [some (.inr (.inl a0)), some (.inl a1), some (.inr (.inl a2)), none]) (st' := [.inr (.inr (.inl (x1.toInt64))), .inl 0, .inr (.inl a2)]) rfl ?_
    refine z_sL hk (z_row hL_events_0 6 rfl) (fun σ6 => ?_)
    refine z_goto hk (z_row hL_events_0 7 rfl) (tgt := 15) rfl ?_
    refine z_run hk hL_events_0 11 1 (pc' := 16) (lv' := [some (.inr (.inl a0)), some (.inl a1), some (.inr (.inl a2)), none]) (st' := [.inl 0]) rfl ?_
    exact z_iret hk he (z_row hL_events_0 12 rfl) rfl
  · refine z_cat0 (own := "LotSalesLaw") ?_
    refine z_catI hk htab (i := 0) (k1 := 2) (hp := 12) rfl (by decide) (by decide) rfl wd_344 wd_355 (by decide) (by decide) (fun q5 => ?_) ?_
    · refine z_run hk hL_events_0 8 2 (pc' := 14) (lv' := [some (.inr (.inl a0)), some (.inl a1), some (.inr (.inl a2)), some (.inr (.inr (.inr (.inr q5))))]) (st' := [.inl 1]) rfl ?_
      exact z_iret hk he (z_row hL_events_0 10 rfl) rfl
    exact z_catN
theorem kL_events {n : Nat} {own : String} {cc : ByteArray} {nL h index : Nat} {α : Type} {fin : α → zO} {σ : zW} {pc : Nat} {lv : zLV} {st : List zV} {a0 : Nat} {a1 : Int32} {a2 : Nat} {c : Int32 → zW → Option α} (F : zFx E) (hk : zk E K own cc nL h) (hd : decode cc pc = .ok (.invokestatic index, 3)) (hl : Cond.methodLink own index qL_events ∈ lw_tbl) (hh : 8 + 1 ≤ h) (hs : zcat st ≤ 8) (k : ∀ v s, zG E K fin (c v s) s (pc + 3) lv (.inl v :: st)) : zG E K fin (zb2 (fL_events n a0 a1 a2 σ) c) σ pc lv (.inr (.inl a2) :: .inl a1 :: .inr (.inl a0) :: st) :=
  z_hW (n := 3) (y := qL_events) (As := [.inr (.inl a0), .inl a1, .inr (.inl a2)]) hk hd hl wd_1023 wd_0 wd_1024 ⟨by decide, by decide, by decide +kernel⟩ ⟨hh, by decide⟩ rfl (fun o ho => mL_events F n a0 a1 a2 σ o ho) hs k
abbrev qL_event : MethodName := { cls := "LotSalesLaw", name := "event", desc := "(LLotSales;II[J)I" }
def fL_event (n : Nat) (a0 : Nat) (a1 : Int32) (a2 : Int32) (a3 : Nat) (σ : zW) : Option (Int32 × zW) := zck σ 8 a0 (zbx (fX7_event n a0 a1 a2 σ) (fun x1 σ2 => zsL σ2 a3 0 x1 fun σ7 => some (0, σ7)) (fun e3 σ4 => if e3 = 1 then some (1, σ4) else if e3 = 2 then some (2, σ4) else none))
theorem mL_event (F : zFx E) (n : Nat) (a0 : Nat) (a1 : Int32) (a2 : Int32) (a3 : Nat) (σ : zW) (o : Int32 × zW) (hf : fL_event n a0 a1 a2 a3 σ = some o) : zMX E qL_event (.codeWith qL_event cL_event 5 (some .int) [(0, 10, 13, 21), (0, 10, 17, 13)]) 8 [.inr (.inl a0), .inl a1, .inl a2, .inr (.inl a3)] σ (.inl (some (.int o.1)), o.2) := by
  refine zMX_ofH (fin := zfW) F (by decide +kernel) rfl (Nat.le_of_ble_eq_true rfl) (lv0 := [some (.inr (.inl a0)), some (.inl a1), some (.inl a2), some (.inr (.inl a3)), none]) rfl hf rfl (fun K hk he htab => ?_)
  have hk : zk E K "LotSalesLaw" cL_event 5 8 := hk
  unfold fL_event
  refine z_run hk hL_event_0 0 5 (pc' := 5) (lv' := [some (.inr (.inl a0)), some (.inl a1), some (.inl a2), some (.inr (.inl a3)), none]) (st' := [.inl a2, .inl a1, .inr (.inl a0), .inl 0, .inr (.inl a3)]) rfl ?_
  refine kX7_event F hk (z_row hL_event_0 5 rfl) wd_1032 (by decide) (Nat.le_of_ble_eq_true rfl) (fun x1 σ2 => ?_) (fun e3 σ4 => ?_)
  · refine z_run hk hL_event_0 6 1 (pc' := 9) (lv' := [some (.inr (.inl a0)), some (.inl a1), some (.inl a2), some (.inr (.inl a3)), none]) (st' := [.inr (.inr (.inl (x1.toInt64))), .inl 0, .inr (.inl a3)]) rfl ?_
    refine z_sL hk (z_row hL_event_0 7 rfl) (fun σ7 => ?_)
    refine z_goto hk (z_row hL_event_0 8 rfl) (tgt := 21) rfl ?_
    refine z_run hk hL_event_0 15 1 (pc' := 22) (lv' := [some (.inr (.inl a0)), some (.inl a1), some (.inl a2), some (.inr (.inl a3)), none]) (st' := [.inl 0]) rfl ?_
    exact z_iret hk he (z_row hL_event_0 16 rfl) rfl
  · refine z_cat0 (own := "LotSalesLaw") ?_
    refine z_catI hk htab (i := 0) (k1 := 1) (hp := 13) rfl (by decide) (by decide) rfl wd_482 wd_517 (by decide) (by decide) (fun q5 => ?_) ?_
    · refine z_run hk hL_event_0 9 2 (pc' := 16) (lv' := [some (.inr (.inl a0)), some (.inl a1), some (.inl a2), some (.inr (.inl a3)), some (.inr (.inr (.inr (.inr q5))))]) (st' := [.inl 1]) rfl ?_
      exact z_iret hk he (z_row hL_event_0 11 rfl) rfl
    refine z_catI hk htab (i := 1) (k1 := 2) (hp := 17) rfl (by decide) (by decide) rfl wd_344 wd_355 (by decide) (by decide) (fun q6 => ?_) ?_
    · refine z_run hk hL_event_0 12 2 (pc' := 20) (lv' := [some (.inr (.inl a0)), some (.inl a1), some (.inl a2), some (.inr (.inl a3)), some (.inr (.inr (.inr (.inr q6))))]) (st' := [.inl 2]) rfl ?_
      exact z_iret hk he (z_row hL_event_0 14 rfl) rfl
    exact z_catN
theorem kL_event {n : Nat} {own : String} {cc : ByteArray} {nL h index : Nat} {α : Type} {fin : α → zO} {σ : zW} {pc : Nat} {lv : zLV} {st : List zV} {a0 : Nat} {a1 : Int32} {a2 : Int32} {a3 : Nat} {c : Int32 → zW → Option α} (F : zFx E) (hk : zk E K own cc nL h) (hd : decode cc pc = .ok (.invokestatic index, 3)) (hl : Cond.methodLink own index qL_event ∈ lw_tbl) (hh : 8 + 1 ≤ h) (hs : zcat st ≤ 8) (k : ∀ v s, zG E K fin (c v s) s (pc + 3) lv (.inl v :: st)) : zG E K fin (zb2 (fL_event n a0 a1 a2 a3 σ) c) σ pc lv (.inr (.inl a3) :: .inl a2 :: .inl a1 :: .inr (.inl a0) :: st) :=
  z_hW (n := 4) (y := qL_event) (As := [.inr (.inl a0), .inl a1, .inl a2, .inr (.inl a3)]) hk hd hl wd_1030 wd_0 wd_1031 ⟨by decide, by decide, by decide +kernel⟩ ⟨hh, by decide⟩ rfl (fun o ho => mL_event F n a0 a1 a2 a3 σ o ho) hs k
abbrev qL_append : MethodName := { cls := "LotSalesLaw", name := "append", desc := "(LLotSales;C)I" }
def fL_append (n : Nat) (a0 : Nat) (a1 : Int32) (σ : zW) : Option (Int32 × zW) := zck σ 8 a0 (zbx (fX7_append n a0 a1 σ) (fun _ σ2 => some (0, σ2)) (fun e3 σ4 => if e3 = 3 then some (1, σ4) else none))
theorem mL_append (F : zFx E) (n : Nat) (a0 : Nat) (a1 : Int32) (σ : zW) (o : Int32 × zW) (hf : fL_append n a0 a1 σ = some o) : zMX E qL_append (.codeWith qL_append cL_append 3 (some .int) [(0, 5, 8, 15)]) 7 [.inr (.inl a0), .inl a1] σ (.inl (some (.int o.1)), o.2) := by
  refine zMX_ofH (fin := zfW) F (by decide +kernel) rfl (Nat.le_of_ble_eq_true rfl) (lv0 := [some (.inr (.inl a0)), some (.inl a1), none]) rfl hf rfl (fun K hk he htab => ?_)
  have hk : zk E K "LotSalesLaw" cL_append 3 7 := hk
  unfold fL_append
  refine z_run hk hL_append_0 0 2 (pc' := 2) (lv' := [some (.inr (.inl a0)), some (.inl a1), none]) (st' := [.inl a1, .inr (.inl a0)]) rfl ?_
  refine kX7_append F hk (z_row hL_append_0 2 rfl) wd_1040 (by decide) (Nat.le_of_ble_eq_true rfl) (fun x1 σ2 => ?_) (fun e3 σ4 => ?_)
  · refine z_goto hk (z_row hL_append_0 3 rfl) (tgt := 11) rfl ?_
    refine z_run hk hL_append_0 7 1 (pc' := 12) (lv' := [some (.inr (.inl a0)), some (.inl a1), none]) (st' := [.inl 0]) rfl ?_
    exact z_iret hk he (z_row hL_append_0 8 rfl) rfl
  · refine z_cat0 (own := "LotSalesLaw") ?_
    refine z_catI hk htab (i := 0) (k1 := 3) (hp := 8) rfl (by decide) (by decide) rfl wd_345 wd_432 (by decide) (by decide) (fun q5 => ?_) ?_
    · refine z_run hk hL_append_0 4 2 (pc' := 10) (lv' := [some (.inr (.inl a0)), some (.inl a1), some (.inr (.inr (.inr (.inr q5))))]) (st' := [.inl 1]) rfl ?_
      exact z_iret hk he (z_row hL_append_0 6 rfl) rfl
    exact z_catN
theorem kL_append {n : Nat} {own : String} {cc : ByteArray} {nL h index : Nat} {α : Type} {fin : α → zO} {σ : zW} {pc : Nat} {lv : zLV} {st : List zV} {a0 : Nat} {a1 : Int32} {c : Int32 → zW → Option α} (F : zFx E) (hk : zk E K own cc nL h) (hd : decode cc pc = .ok (.invokestatic index, 3)) (hl : Cond.methodLink own index qL_append ∈ lw_tbl) (hh : 7 + 1 ≤ h) (hs : zcat st ≤ 8) (k : ∀ v s, zG E K fin (c v s) s (pc + 3) lv (.inl v :: st)) : zG E K fin (zb2 (fL_append n a0 a1 σ) c) σ pc lv (.inl a1 :: .inr (.inl a0) :: st) :=
  z_hW (n := 2) (y := qL_append) (As := [.inr (.inl a0), .inl a1]) hk hd hl wd_1038 wd_0 wd_1039 ⟨by decide, by decide, by decide +kernel⟩ ⟨hh, by decide⟩ rfl (fun o ho => mL_append F n a0 a1 σ o ho) hs k
abbrev qL_read : MethodName := { cls := "LotSalesLaw", name := "read", desc := "(LLotSales;[J)I" }
def fL_read (n : Nat) (a0 : Nat) (a1 : Nat) (σ : zW) : Option (Int32 × zW) := zck σ 8 a0 (zbx (fX7_read n a0 σ) (fun x1 σ2 => zsL σ2 a1 0 x1 fun σ6 => some (0, σ6)) (fun e3 σ4 => if e3 = 2 then some (1, σ4) else none))
theorem mL_read (F : zFx E) (n : Nat) (a0 : Nat) (a1 : Nat) (σ : zW) (o : Int32 × zW) (hf : fL_read n a0 a1 σ = some o) : zMX E qL_read (.codeWith qL_read cL_read 3 (some .int) [(0, 8, 11, 13)]) 8 [.inr (.inl a0), .inr (.inl a1)] σ (.inl (some (.int o.1)), o.2) := by
  refine zMX_ofH (fin := zfW) F (by decide +kernel) rfl (Nat.le_of_ble_eq_true rfl) (lv0 := [some (.inr (.inl a0)), some (.inr (.inl a1)), none]) rfl hf rfl (fun K hk he htab => ?_)
  have hk : zk E K "LotSalesLaw" cL_read 3 8 := hk
  unfold fL_read
  refine z_run hk hL_read_0 0 3 (pc' := 3) (lv' := [some (.inr (.inl a0)), some (.inr (.inl a1)), none]) (st' := [.inr (.inl a0), .inl 0, .inr (.inl a1)]) rfl ?_
  refine kX7_read F hk (z_row hL_read_0 3 rfl) wd_1052 (by decide) (Nat.le_of_ble_eq_true rfl) (fun x1 σ2 => ?_) (fun e3 σ4 => ?_)
  · refine z_run hk hL_read_0 4 1 (pc' := 7) (lv' := [some (.inr (.inl a0)), some (.inr (.inl a1)), none]) (st' := [.inr (.inr (.inl (x1.toInt64))), .inl 0, .inr (.inl a1)]) rfl ?_
    refine z_sL hk (z_row hL_read_0 5 rfl) (fun σ6 => ?_)
    refine z_goto hk (z_row hL_read_0 6 rfl) (tgt := 14) rfl ?_
    refine z_run hk hL_read_0 10 1 (pc' := 15) (lv' := [some (.inr (.inl a0)), some (.inr (.inl a1)), none]) (st' := [.inl 0]) rfl ?_
    exact z_iret hk he (z_row hL_read_0 11 rfl) rfl
  · refine z_cat0 (own := "LotSalesLaw") ?_
    refine z_catI hk htab (i := 0) (k1 := 2) (hp := 11) rfl (by decide) (by decide) rfl wd_344 wd_355 (by decide) (by decide) (fun q5 => ?_) ?_
    · refine z_run hk hL_read_0 7 2 (pc' := 13) (lv' := [some (.inr (.inl a0)), some (.inr (.inl a1)), some (.inr (.inr (.inr (.inr q5))))]) (st' := [.inl 1]) rfl ?_
      exact z_iret hk he (z_row hL_read_0 9 rfl) rfl
    exact z_catN
theorem kL_read {n : Nat} {own : String} {cc : ByteArray} {nL h index : Nat} {α : Type} {fin : α → zO} {σ : zW} {pc : Nat} {lv : zLV} {st : List zV} {a0 : Nat} {a1 : Nat} {c : Int32 → zW → Option α} (F : zFx E) (hk : zk E K own cc nL h) (hd : decode cc pc = .ok (.invokestatic index, 3)) (hl : Cond.methodLink own index qL_read ∈ lw_tbl) (hh : 8 + 1 ≤ h) (hs : zcat st ≤ 8) (k : ∀ v s, zG E K fin (c v s) s (pc + 3) lv (.inl v :: st)) : zG E K fin (zb2 (fL_read n a0 a1 σ) c) σ pc lv (.inr (.inl a1) :: .inr (.inl a0) :: st) :=
  z_hW (n := 2) (y := qL_read) (As := [.inr (.inl a0), .inr (.inl a1)]) hk hd hl wd_1050 wd_0 wd_1051 ⟨by decide, by decide, by decide +kernel⟩ ⟨hh, by decide⟩ rfl (fun o ho => mL_read F n a0 a1 σ o ho) hs k
abbrev qL_undo : MethodName := { cls := "LotSalesLaw", name := "undo", desc := "(LLotSales;[J)I" }
def fL_undo (n : Nat) (a0 : Nat) (a1 : Nat) (σ : zW) : Option (Int32 × zW) := zck σ 8 a0 (zbx (fX7_undo n a0 σ) (fun x1 σ2 => zsL σ2 a1 0 x1 fun σ6 => some (0, σ6)) (fun e3 σ4 => if e3 = 3 then some (1, σ4) else none))
theorem mL_undo (F : zFx E) (n : Nat) (a0 : Nat) (a1 : Nat) (σ : zW) (o : Int32 × zW) (hf : fL_undo n a0 a1 σ = some o) : zMX E qL_undo (.codeWith qL_undo cL_undo 3 (some .int) [(0, 8, 11, 15)]) 7 [.inr (.inl a0), .inr (.inl a1)] σ (.inl (some (.int o.1)), o.2) := by
  refine zMX_ofH (fin := zfW) F (by decide +kernel) rfl (Nat.le_of_ble_eq_true rfl) (lv0 := [some (.inr (.inl a0)), some (.inr (.inl a1)), none]) rfl hf rfl (fun K hk he htab => ?_)
  have hk : zk E K "LotSalesLaw" cL_undo 3 7 := hk
  unfold fL_undo
  refine z_run hk hL_undo_0 0 3 (pc' := 3) (lv' := [some (.inr (.inl a0)), some (.inr (.inl a1)), none]) (st' := [.inr (.inl a0), .inl 0, .inr (.inl a1)]) rfl ?_
  refine kX7_undo F hk (z_row hL_undo_0 3 rfl) wd_1091 (by decide) (Nat.le_of_ble_eq_true rfl) (fun x1 σ2 => ?_) (fun e3 σ4 => ?_)
  · refine z_run hk hL_undo_0 4 1 (pc' := 7) (lv' := [some (.inr (.inl a0)), some (.inr (.inl a1)), none]) (st' := [.inr (.inr (.inl (x1.toInt64))), .inl 0, .inr (.inl a1)]) rfl ?_
    refine z_sL hk (z_row hL_undo_0 5 rfl) (fun σ6 => ?_)
    refine z_goto hk (z_row hL_undo_0 6 rfl) (tgt := 14) rfl ?_
    refine z_run hk hL_undo_0 10 1 (pc' := 15) (lv' := [some (.inr (.inl a0)), some (.inr (.inl a1)), none]) (st' := [.inl 0]) rfl ?_
    exact z_iret hk he (z_row hL_undo_0 11 rfl) rfl
  · refine z_cat0 (own := "LotSalesLaw") ?_
    refine z_catI hk htab (i := 0) (k1 := 3) (hp := 11) rfl (by decide) (by decide) rfl wd_345 wd_432 (by decide) (by decide) (fun q5 => ?_) ?_
    · refine z_run hk hL_undo_0 7 2 (pc' := 13) (lv' := [some (.inr (.inl a0)), some (.inr (.inl a1)), some (.inr (.inr (.inr (.inr q5))))]) (st' := [.inl 1]) rfl ?_
      exact z_iret hk he (z_row hL_undo_0 9 rfl) rfl
    exact z_catN
theorem kL_undo {n : Nat} {own : String} {cc : ByteArray} {nL h index : Nat} {α : Type} {fin : α → zO} {σ : zW} {pc : Nat} {lv : zLV} {st : List zV} {a0 : Nat} {a1 : Nat} {c : Int32 → zW → Option α} (F : zFx E) (hk : zk E K own cc nL h) (hd : decode cc pc = .ok (.invokestatic index, 3)) (hl : Cond.methodLink own index qL_undo ∈ lw_tbl) (hh : 7 + 1 ≤ h) (hs : zcat st ≤ 8) (k : ∀ v s, zG E K fin (c v s) s (pc + 3) lv (.inl v :: st)) : zG E K fin (zb2 (fL_undo n a0 a1 σ) c) σ pc lv (.inr (.inl a1) :: .inr (.inl a0) :: st) :=
  z_hW (n := 2) (y := qL_undo) (As := [.inr (.inl a0), .inr (.inl a1)]) hk hd hl wd_1089 wd_0 wd_1090 ⟨by decide, by decide, by decide +kernel⟩ ⟨hh, by decide⟩ rfl (fun o ho => mL_undo F n a0 a1 σ o ho) hs k
abbrev qL_restore : MethodName := { cls := "LotSalesLaw", name := "restore", desc := "(LLotSales;)I" }
def fL_restore (n : Nat) (a0 : Nat) (σ : zW) : Option (Int32 × zW) := zck σ 8 a0 (zbx (fX7_restore n a0 σ) (fun _ σ2 => some (0, σ2)) (fun e3 σ4 => if e3 = 3 then some (1, σ4) else none))
theorem mL_restore (F : zFx E) (n : Nat) (a0 : Nat) (σ : zW) (o : Int32 × zW) (hf : fL_restore n a0 σ = some o) : zMX E qL_restore (.codeWith qL_restore cL_restore 2 (some .int) [(0, 4, 7, 15)]) 7 [.inr (.inl a0)] σ (.inl (some (.int o.1)), o.2) := by
  refine zMX_ofH (fin := zfW) F (by decide +kernel) rfl (Nat.le_of_ble_eq_true rfl) (lv0 := [some (.inr (.inl a0)), none]) rfl hf rfl (fun K hk he htab => ?_)
  have hk : zk E K "LotSalesLaw" cL_restore 2 7 := hk
  unfold fL_restore
  refine z_run hk hL_restore_0 0 1 (pc' := 1) (lv' := [some (.inr (.inl a0)), none]) (st' := [.inr (.inl a0)]) rfl ?_
  refine kX7_restore F hk (z_row hL_restore_0 1 rfl) wd_1103 (by decide) (Nat.le_of_ble_eq_true rfl) (fun x1 σ2 => ?_) (fun e3 σ4 => ?_)
  · refine z_goto hk (z_row hL_restore_0 2 rfl) (tgt := 10) rfl ?_
    refine z_run hk hL_restore_0 6 1 (pc' := 11) (lv' := [some (.inr (.inl a0)), none]) (st' := [.inl 0]) rfl ?_
    exact z_iret hk he (z_row hL_restore_0 7 rfl) rfl
  · refine z_cat0 (own := "LotSalesLaw") ?_
    refine z_catI hk htab (i := 0) (k1 := 3) (hp := 7) rfl (by decide) (by decide) rfl wd_345 wd_432 (by decide) (by decide) (fun q5 => ?_) ?_
    · refine z_run hk hL_restore_0 3 2 (pc' := 9) (lv' := [some (.inr (.inl a0)), some (.inr (.inr (.inr (.inr q5))))]) (st' := [.inl 1]) rfl ?_
      exact z_iret hk he (z_row hL_restore_0 5 rfl) rfl
    exact z_catN
theorem kL_restore {n : Nat} {own : String} {cc : ByteArray} {nL h index : Nat} {α : Type} {fin : α → zO} {σ : zW} {pc : Nat} {lv : zLV} {st : List zV} {a0 : Nat} {c : Int32 → zW → Option α} (F : zFx E) (hk : zk E K own cc nL h) (hd : decode cc pc = .ok (.invokestatic index, 3)) (hl : Cond.methodLink own index qL_restore ∈ lw_tbl) (hh : 7 + 1 ≤ h) (hs : zcat st ≤ 8) (k : ∀ v s, zG E K fin (c v s) s (pc + 3) lv (.inl v :: st)) : zG E K fin (zb2 (fL_restore n a0 σ) c) σ pc lv (.inr (.inl a0) :: st) :=
  z_hW (n := 1) (y := qL_restore) (As := [.inr (.inl a0)]) hk hd hl wd_1101 wd_0 wd_1102 ⟨by decide, by decide, by decide +kernel⟩ ⟨hh, by decide⟩ rfl (fun o ho => mL_restore F n a0 σ o ho) hs k
end
