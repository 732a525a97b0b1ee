section
variable {E : zE} {K : zC}

abbrev qX7_tryClose : MethodName := { cls := "LotSales", name := "tryClose", desc := "(I)I" }
def fX7_tryClose (n : Nat) (a0 : Nat) (a1 : Int32) (σ : zW) : Option (Int32 × zW) := zgR σ 8 a0 0 fun x1 => zck σ 4 x1 (zb (fX3_has n x1 a1 σ) fun x2 => if x2 = 0 then some ((-1), σ) else zgR σ 8 a0 0 fun x3 => zgR σ 4 x3 3 fun x4 => zaR σ 25 x4 a1 fun x5 => zgI σ 3 x5 4 fun x6 => if x6 = 1 then zgR σ 8 a0 2 fun x7 => zgR σ 8 a0 0 fun x8 => zck σ 1 x7 (zb (fX0_keep n x7 x8 σ) fun σ9 => zgR σ9 8 a0 1 fun x10 => zgR σ9 8 a0 0 fun x11 => zgR σ9 4 x11 0 fun x12 => zck σ9 5 x10 (zb (fX4_settle n x10 x5 x12 σ9) fun σ13 => zck σ13 3 x5 (zb (fX2_removeOrders n x5 σ13) fun σ14 => zgR σ14 8 a0 1 fun x15 => zgI σ14 3 x5 7 fun x16 => zgR σ14 8 a0 0 fun x17 => zgR σ14 4 x17 0 fun x18 => zck σ14 5 x15 (zb (fX4_meets n x15 x16 x18 σ14) fun x19 => if x19 = 0 then zck σ14 8 a0 (zb (fX7_buyIn n a0 a1 x5 σ14) fun σ32 => some (0, σ32)) else zgR σ14 8 a0 1 fun x20 => zgR σ14 8 a0 0 fun x21 => zgR σ14 4 x21 0 fun x22 => zck σ14 5 x20 (zb (fX4_price n x20 x22 σ14) fun x23 => zgR σ14 8 a0 1 fun x24 => zgI σ14 5 x24 3 fun x25 => zck σ14 3 x5 (zb (fX2_sell n x5 x25 x23 σ14) fun σ26 => zgR σ26 8 a0 0 fun x27 => zgR σ26 4 x27 4 fun x28 => zgR σ26 8 a0 1 fun x29 => zgI σ26 5 x29 3 fun x30 => zck σ26 2 x28 (zb (fX1_note n x28 3 a1 x30 x23 σ26) fun σ31 => some (x23, σ31)))))))) else some ((-3), σ))
theorem mX7_tryClose (F : zFx E) (n : Nat) (a0 : Nat) (a1 : Int32) (σ : zW) (o : Int32 × zW) (hf : fX7_tryClose n a0 a1 σ = some o) : zM E qX7_tryClose cX7_tryClose 4 (some .int) 5 [.inr (.inl a0), .inl a1] σ (some (.int o.1)) o.2 := by
  refine zM_of (fin := zfW) F (by decide +kernel) rfl (Nat.le_of_ble_eq_true rfl) (lv0 := [some (.inr (.inl a0)), some (.inl a1), none, none]) rfl hf rfl (fun K hk he => ?_)
  have hk : zk E K "LotSales" cX7_tryClose 4 5 := hk
  unfold fX7_tryClose
  refine z_run hk hX7_tryClose_0 0 1 (pc' := 1) (lv' := [some (.inr (.inl a0)), some (.inl a1), none, none]) (st' := [.inr (.inl a0)]) rfl ?_
  refine z_gR hk 0 (z_row hX7_tryClose_0 1 rfl) (ci := 7) rfl rfl wd_268 (fun x1 => ?_)
  refine z_run hk hX7_tryClose_0 2 1 (pc' := 5) (lv' := [some (.inr (.inl a0)), some (.inl a1), none, none]) (st' := [.inl a1, .inr (.inl x1)]) rfl ?_
  refine kX3_has F hk (z_row hX7_tryClose_0 3 rfl) wd_514 (by decide) (Nat.le_of_ble_eq_true rfl) (fun x2 => ?_)
  refine z_ne hk (z_row hX7_tryClose_0 4 rfl) (tgt := 13) rfl ?_ ?_
  · refine z_run hk hX7_tryClose_0 7 1 (pc' := 14) (lv' := [some (.inr (.inl a0)), some (.inl a1), none, none]) (st' := [.inr (.inl a0)]) rfl ?_
    refine z_gR hk 0 (z_row hX7_tryClose_0 8 rfl) (ci := 7) rfl rfl wd_268 (fun x3 => ?_)
    refine z_gR hk 3 (z_row hX7_tryClose_0 9 rfl) (ci := 3) rfl rfl wd_167 (fun x4 => ?_)
    refine z_run hk hX7_tryClose_0 10 1 (pc' := 21) (lv' := [some (.inr (.inl a0)), some (.inl a1), none, none]) (st' := [.inl a1, .inr (.inl x4)]) rfl ?_
    refine z_aR hk (κ := 25) (by decide) (z_row hX7_tryClose_0 11 rfl) (fun x5 => ?_)
    refine z_run hk hX7_tryClose_0 12 2 (pc' := 24) (lv' := [some (.inr (.inl a0)), some (.inl a1), some (.inr (.inl x5)), none]) (st' := [.inr (.inl x5)]) rfl ?_
    refine z_gI hk 4 (z_row hX7_tryClose_0 14 rfl) (ci := 2) rfl rfl wd_113 (fun x6 => ?_)
    refine z_run hk hX7_tryClose_0 15 1 (pc' := 28) (lv' := [some (.inr (.inl a0)), some (.inl a1), some (.inr (.inl x5)), none]) (st' := [.inl 1, .inl x6]) rfl ?_
    refine z_ceq hk (z_row hX7_tryClose_0 16 rfl) (tgt := 34) rfl ?_ ?_
    · refine z_run hk hX7_tryClose_0 19 1 (pc' := 35) (lv' := [some (.inr (.inl a0)), some (.inl a1), some (.inr (.inl x5)), none]) (st' := [.inr (.inl a0)]) rfl ?_
      refine z_gR hk 2 (z_row hX7_tryClose_0 20 rfl) (ci := 7) rfl rfl wd_270 (fun x7 => ?_)
      refine z_run hk hX7_tryClose_0 21 1 (pc' := 39) (lv' := [some (.inr (.inl a0)), some (.inl a1), some (.inr (.inl x5)), none]) (st' := [.inr (.inl a0), .inr (.inl x7)]) rfl ?_
      refine z_gR hk 0 (z_row hX7_tryClose_0 22 rfl) (ci := 7) rfl rfl wd_268 (fun x8 => ?_)
      refine kX0_keep F hk (z_row hX7_tryClose_0 23 rfl) wd_446 (by decide) (Nat.le_of_ble_eq_true rfl) (fun σ9 => ?_)
      refine z_run hk hX7_tryClose_0 24 1 (pc' := 46) (lv' := [some (.inr (.inl a0)), some (.inl a1), some (.inr (.inl x5)), none]) (st' := [.inr (.inl a0)]) rfl ?_
      refine z_gR hk 1 (z_row hX7_tryClose_0 25 rfl) (ci := 7) rfl rfl wd_269 (fun x10 => ?_)
      refine z_run hk hX7_tryClose_0 26 2 (pc' := 51) (lv' := [some (.inr (.inl a0)), some (.inl a1), some (.inr (.inl x5)), none]) (st' := [.inr (.inl a0), .inr (.inl x5), .inr (.inl x10)]) rfl ?_
      refine z_gR hk 0 (z_row hX7_tryClose_0 28 rfl) (ci := 7) rfl rfl wd_268 (fun x11 => ?_)
      refine z_gR hk 0 (z_row hX7_tryClose_0 29 rfl) (ci := 3) rfl rfl wd_161 (fun x12 => ?_)
      refine kX4_settle F hk (z_row hX7_tryClose_0 30 rfl) wd_716 (by decide) (Nat.le_of_ble_eq_true rfl) (fun σ13 => ?_)
      refine z_run hk hX7_tryClose_0 31 1 (pc' := 61) (lv' := [some (.inr (.inl a0)), some (.inl a1), some (.inr (.inl x5)), none]) (st' := [.inr (.inl x5)]) rfl ?_
      refine kX2_removeOrders F hk (z_row hX7_tryClose_0 32 rfl) wd_833 (by decide) (Nat.le_of_ble_eq_true rfl) (fun σ14 => ?_)
      refine z_run hk hX7_tryClose_0 33 1 (pc' := 65) (lv' := [some (.inr (.inl a0)), some (.inl a1), some (.inr (.inl x5)), none]) (st' := [.inr (.inl a0)]) rfl ?_
      refine z_gR hk 1 (z_row hX7_tryClose_0 34 rfl) (ci := 7) rfl rfl wd_269 (fun x15 => ?_)
      refine z_run hk hX7_tryClose_0 35 1 (pc' := 69) (lv' := [some (.inr (.inl a0)), some (.inl a1), some (.inr (.inl x5)), none]) (st' := [.inr (.inl x5), .inr (.inl x15)]) rfl ?_
      refine z_gI hk 7 (z_row hX7_tryClose_0 36 rfl) (ci := 2) rfl rfl wd_123 (fun x16 => ?_)
      refine z_run hk hX7_tryClose_0 37 1 (pc' := 73) (lv' := [some (.inr (.inl a0)), some (.inl a1), some (.inr (.inl x5)), none]) (st' := [.inr (.inl a0), .inl x16, .inr (.inl x15)]) rfl ?_
      refine z_gR hk 0 (z_row hX7_tryClose_0 38 rfl) (ci := 7) rfl rfl wd_268 (fun x17 => ?_)
      refine z_gR hk 0 (z_row hX7_tryClose_0 39 rfl) (ci := 3) rfl rfl wd_161 (fun x18 => ?_)
      refine kX4_meets F hk (z_row hX7_tryClose_0 40 rfl) wd_785 (by decide) (Nat.le_of_ble_eq_true rfl) (fun x19 => ?_)
      refine z_ne hk (z_row hX7_tryClose_0 41 rfl) (tgt := 93) rfl ?_ ?_
      · refine z_run hk hX7_tryClose_0 48 1 (pc' := 94) (lv' := [some (.inr (.inl a0)), some (.inl a1), some (.inr (.inl x5)), none]) (st' := [.inr (.inl a0)]) rfl ?_
        refine z_gR hk 1 (z_row hX7_tryClose_0 49 rfl) (ci := 7) rfl rfl wd_269 (fun x20 => ?_)
        refine z_run hk hX7_tryClose_0 50 1 (pc' := 98) (lv' := [some (.inr (.inl a0)), some (.inl a1), some (.inr (.inl x5)), none]) (st' := [.inr (.inl a0), .inr (.inl x20)]) rfl ?_
        refine z_gR hk 0 (z_row hX7_tryClose_0 51 rfl) (ci := 7) rfl rfl wd_268 (fun x21 => ?_)
        refine z_gR hk 0 (z_row hX7_tryClose_0 52 rfl) (ci := 3) rfl rfl wd_161 (fun x22 => ?_)
        refine kX4_price F hk (z_row hX7_tryClose_0 53 rfl) wd_731 (by decide) (Nat.le_of_ble_eq_true rfl) (fun x23 => ?_)
        refine z_run hk hX7_tryClose_0 54 3 (pc' := 110) (lv' := [some (.inr (.inl a0)), some (.inl a1), some (.inr (.inl x5)), some (.inl x23)]) (st' := [.inr (.inl a0), .inr (.inl x5)]) rfl ?_
        refine z_gR hk 1 (z_row hX7_tryClose_0 57 rfl) (ci := 7) rfl rfl wd_269 (fun x24 => ?_)
        refine z_gI hk 3 (z_row hX7_tryClose_0 58 rfl) (ci := 4) rfl rfl wd_201 (fun x25 => ?_)
        refine z_run hk hX7_tryClose_0 59 1 (pc' := 117) (lv' := [some (.inr (.inl a0)), some (.inl a1), some (.inr (.inl x5)), some (.inl x23)]) (st' := [.inl x23, .inl x25, .inr (.inl x5)]) rfl ?_
        refine kX2_sell F hk (z_row hX7_tryClose_1 0 rfl) wd_845 (by decide) (Nat.le_of_ble_eq_true rfl) (fun σ26 => ?_)
        refine z_run hk hX7_tryClose_1 1 1 (pc' := 121) (lv' := [some (.inr (.inl a0)), some (.inl a1), some (.inr (.inl x5)), some (.inl x23)]) (st' := [.inr (.inl a0)]) rfl ?_
        refine z_gR hk 0 (z_row hX7_tryClose_1 2 rfl) (ci := 7) rfl rfl wd_268 (fun x27 => ?_)
        refine z_gR hk 4 (z_row hX7_tryClose_1 3 rfl) (ci := 3) rfl rfl wd_169 (fun x28 => ?_)
        refine z_run hk hX7_tryClose_1 4 3 (pc' := 130) (lv' := [some (.inr (.inl a0)), some (.inl a1), some (.inr (.inl x5)), some (.inl x23)]) (st' := [.inr (.inl a0), .inl a1, .inl 3, .inr (.inl x28)]) rfl ?_
        refine z_gR hk 1 (z_row hX7_tryClose_1 7 rfl) (ci := 7) rfl rfl wd_269 (fun x29 => ?_)
        refine z_gI hk 3 (z_row hX7_tryClose_1 8 rfl) (ci := 4) rfl rfl wd_201 (fun x30 => ?_)
        refine z_run hk hX7_tryClose_1 9 1 (pc' := 137) (lv' := [some (.inr (.inl a0)), some (.inl a1), some (.inr (.inl x5)), some (.inl x23)]) (st' := [.inl x23, .inl x30, .inl a1, .inl 3, .inr (.inl x28)]) rfl ?_
        refine kX1_note F hk (z_row hX7_tryClose_1 10 rfl) wd_636 (by decide) (Nat.le_of_ble_eq_true rfl) (fun σ31 => ?_)
        refine z_run hk hX7_tryClose_1 11 1 (pc' := 141) (lv' := [some (.inr (.inl a0)), some (.inl a1), some (.inr (.inl x5)), some (.inl x23)]) (st' := [.inl x23]) rfl ?_
        exact z_iret hk he (z_row hX7_tryClose_1 12 rfl) rfl
      · refine z_run hk hX7_tryClose_0 42 3 (pc' := 88) (lv' := [some (.inr (.inl a0)), some (.inl a1), some (.inr (.inl x5)), none]) (st' := [.inr (.inl x5), .inl a1, .inr (.inl a0)]) rfl ?_
        refine kX7_buyIn F hk (z_row hX7_tryClose_0 45 rfl) wd_834 (by decide) (Nat.le_of_ble_eq_true rfl) (fun σ32 => ?_)
        refine z_run hk hX7_tryClose_0 46 1 (pc' := 92) (lv' := [some (.inr (.inl a0)), some (.inl a1), some (.inr (.inl x5)), none]) (st' := [.inl 0]) rfl ?_
        exact z_iret hk he (z_row hX7_tryClose_0 47 rfl) rfl
    · refine z_run hk hX7_tryClose_0 17 1 (pc' := 33) (lv' := [some (.inr (.inl a0)), some (.inl a1), some (.inr (.inl x5)), none]) (st' := [.inl (-3)]) rfl ?_
      exact z_iret hk he (z_row hX7_tryClose_0 18 rfl) rfl
  · refine z_run hk hX7_tryClose_0 5 1 (pc' := 12) (lv' := [some (.inr (.inl a0)), some (.inl a1), none, none]) (st' := [.inl (-1)]) rfl ?_
    exact z_iret hk he (z_row hX7_tryClose_0 6 rfl) rfl
theorem kX7_tryClose {n : Nat} {own : String} {cc : ByteArray} {nL h index : Nat} {α : Type} {fin : α → zO} {σ : zW} {pc : Nat} {lv : zLV} {st : List zV} {a0 : Nat} {a1 : Int32} {c : Int32 → zW → Option α} (F : zFx E) (hk : zk E K own cc nL h) (hd : decode cc pc = .ok (.invokevirtual index, 3)) (hl : Cond.methodLink own index qX7_tryClose ∈ lw_tbl) (hh : 5 + 1 ≤ h) (hs : zcat st ≤ 8) (k : ∀ v s, zG E K fin (c v s) s (pc + 3) lv (.inl v :: st)) : zG E K fin (zck σ 8 a0 (zb2 (fX7_tryClose n a0 a1 σ) c)) σ pc lv (.inl a1 :: .inr (.inl a0) :: st) :=
  z_vW (n := 1) (y := qX7_tryClose) (As := [.inl a1]) hk hd hl wd_831 ws_10 wd_1 wd_832 ⟨by decide, by decide, by decide +kernel⟩ ⟨hh, by decide⟩ (ci := 7) rfl rfl rfl (fun o ho => mX7_tryClose F n a0 a1 σ o ho) hs k
abbrev qX7_close : MethodName := { cls := "LotSales", name := "close", desc := "(I)I" }
def fX7_close (n : Nat) (a0 : Nat) (a1 : Int32) (σ : zW) : Option ((Int32 ⊕ Nat) × zW) := zck σ 8 a0 (zb2 (fX7_tryClose n a0 a1 σ) fun x1 σ2 => zbx (fX7_answered n x1 σ2) (fun x3 σ4 => some (.inl x3, σ4)) (fun e5 σ6 => some (.inr e5, σ6)))
theorem mX7_close (F : zFx E) (n : Nat) (a0 : Nat) (a1 : Int32) (σ : zW) (o : (Int32 ⊕ Nat) × zW) (hf : fX7_close n a0 a1 σ = some o) : zMX E qX7_close (.code qX7_close cX7_close 2 (some .int)) 7 [.inr (.inl a0), .inl a1] σ (zfT o) := by
  refine zMX_of (fin := zfT) F (by decide +kernel) rfl (Nat.le_of_ble_eq_true rfl) (lv0 := [some (.inr (.inl a0)), some (.inl a1)]) rfl hf rfl (fun K hk he ht => ?_)
  have hk : zk E K "LotSales" cX7_close 2 7 := hk
  unfold fX7_close
  refine z_run hk hX7_close_0 0 2 (pc' := 2) (lv' := [some (.inr (.inl a0)), some (.inl a1)]) (st' := [.inl a1, .inr (.inl a0)]) rfl ?_
  refine kX7_tryClose F hk (z_row hX7_close_0 2 rfl) wd_829 (by decide) (Nat.le_of_ble_eq_true rfl) (fun x1 σ2 => ?_)
  refine kX7_answered F hk (z_row hX7_close_0 3 rfl) wd_640 (by decide) (Nat.le_of_ble_eq_true rfl) (fun x3 σ4 => ?_) (fun e5 σ6 => ?_)
  · exact z_iret hk he (z_row hX7_close_0 4 rfl) rfl
  · exact z_out hk ht rfl
theorem kX7_close {n : Nat} {own : String} {cc : ByteArray} {nL h index : Nat} {α : Type} {fin : α → zO} {σ : zW} {pc : Nat} {lv : zLV} {st : List zV} {a0 : Nat} {a1 : Int32} {c : Int32 → zW → Option α} {t : Nat → zW → Option α} (F : zFx E) (hk : zk E K own cc nL h) (hd : decode cc pc = .ok (.invokevirtual index, 3)) (hl : Cond.methodLink own index qX7_close ∈ lw_tbl) (hh : 7 + 1 ≤ h) (hs : zcat st ≤ 8) (k : ∀ v s, zG E K fin (c v s) s (pc + 3) lv (.inl v :: st)) (kt : ∀ kx s, zT E K fin (t kx s) kx s pc lv) : zG E K fin (zck σ 8 a0 (zbx (fX7_close n a0 a1 σ) c t)) σ pc lv (.inl a1 :: .inr (.inl a0) :: st) :=
  z_vT (n := 1) (y := qX7_close) (As := [.inl a1]) hk hd hl wd_826 wd_827 wd_1 wd_828 ⟨by decide, by decide, by decide +kernel⟩ ⟨hh, by decide⟩ (ci := 7) rfl rfl rfl (fun o ho => mX7_close F n a0 a1 σ o ho) hs k kt
abbrev qX7_tryWithdraw : MethodName := { cls := "LotSales", name := "tryWithdraw", desc := "(I)I" }
def fX7_tryWithdraw (n : Nat) (a0 : Nat) (a1 : Int32) (σ : zW) : Option (Int32 × zW) := zgR σ 8 a0 0 fun x1 => zck σ 4 x1 (zb (fX3_has n x1 a1 σ) fun x2 => if x2 = 0 then some ((-1), σ) else zgR σ 8 a0 0 fun x3 => zgR σ 4 x3 3 fun x4 => zaR σ 25 x4 a1 fun x5 => zgI σ 3 x5 4 fun x6 => if x6 = 0 then zgR σ 8 a0 2 fun x7 => zgR σ 8 a0 0 fun x8 => zck σ 1 x7 (zb (fX0_keep n x7 x8 σ) fun σ9 => zck σ9 3 x5 (zb (fX2_orderCount n x5 σ9) fun x10 => zck σ9 3 x5 (zb (fX2_removeOrders n x5 σ9) fun σ11 => zpI σ11 3 x5 4 4 fun σ12 => zgR σ12 8 a0 0 fun x13 => zgR σ12 4 x13 4 fun x14 => zck σ12 2 x14 (zb (fX1_note n x14 5 a1 (-1) 0 σ12) fun σ15 => some (x10, σ15))))) else some ((-3), σ))
theorem mX7_tryWithdraw (F : zFx E) (n : Nat) (a0 : Nat) (a1 : Int32) (σ : zW) (o : Int32 × zW) (hf : fX7_tryWithdraw n a0 a1 σ = some o) : zM E qX7_tryWithdraw cX7_tryWithdraw 4 (some .int) 5 [.inr (.inl a0), .inl a1] σ (some (.int o.1)) o.2 := by
  refine zM_of (fin := zfW) F (by decide +kernel) rfl (Nat.le_of_ble_eq_true rfl) (lv0 := [some (.inr (.inl a0)), some (.inl a1), none, none]) rfl hf rfl (fun K hk he => ?_)
  have hk : zk E K "LotSales" cX7_tryWithdraw 4 5 := hk
  unfold fX7_tryWithdraw
  refine z_run hk hX7_tryWithdraw_0 0 1 (pc' := 1) (lv' := [some (.inr (.inl a0)), some (.inl a1), none, none]) (st' := [.inr (.inl a0)]) rfl ?_
  refine z_gR hk 0 (z_row hX7_tryWithdraw_0 1 rfl) (ci := 7) rfl rfl wd_268 (fun x1 => ?_)
  refine z_run hk hX7_tryWithdraw_0 2 1 (pc' := 5) (lv' := [some (.inr (.inl a0)), some (.inl a1), none, none]) (st' := [.inl a1, .inr (.inl x1)]) rfl ?_
  refine kX3_has F hk (z_row hX7_tryWithdraw_0 3 rfl) wd_514 (by decide) (Nat.le_of_ble_eq_true rfl) (fun x2 => ?_)
  refine z_ne hk (z_row hX7_tryWithdraw_0 4 rfl) (tgt := 13) rfl ?_ ?_
  · refine z_run hk hX7_tryWithdraw_0 7 1 (pc' := 14) (lv' := [some (.inr (.inl a0)), some (.inl a1), none, none]) (st' := [.inr (.inl a0)]) rfl ?_
    refine z_gR hk 0 (z_row hX7_tryWithdraw_0 8 rfl) (ci := 7) rfl rfl wd_268 (fun x3 => ?_)
    refine z_gR hk 3 (z_row hX7_tryWithdraw_0 9 rfl) (ci := 3) rfl rfl wd_167 (fun x4 => ?_)
    refine z_run hk hX7_tryWithdraw_0 10 1 (pc' := 21) (lv' := [some (.inr (.inl a0)), some (.inl a1), none, none]) (st' := [.inl a1, .inr (.inl x4)]) rfl ?_
    refine z_aR hk (κ := 25) (by decide) (z_row hX7_tryWithdraw_0 11 rfl) (fun x5 => ?_)
    refine z_run hk hX7_tryWithdraw_0 12 2 (pc' := 24) (lv' := [some (.inr (.inl a0)), some (.inl a1), some (.inr (.inl x5)), none]) (st' := [.inr (.inl x5)]) rfl ?_
    refine z_gI hk 4 (z_row hX7_tryWithdraw_0 14 rfl) (ci := 2) rfl rfl wd_113 (fun x6 => ?_)
    refine z_eq hk (z_row hX7_tryWithdraw_0 15 rfl) (tgt := 33) rfl ?_ ?_
    · refine z_run hk hX7_tryWithdraw_0 18 1 (pc' := 34) (lv' := [some (.inr (.inl a0)), some (.inl a1), some (.inr (.inl x5)), none]) (st' := [.inr (.inl a0)]) rfl ?_
      refine z_gR hk 2 (z_row hX7_tryWithdraw_0 19 rfl) (ci := 7) rfl rfl wd_270 (fun x7 => ?_)
      refine z_run hk hX7_tryWithdraw_0 20 1 (pc' := 38) (lv' := [some (.inr (.inl a0)), some (.inl a1), some (.inr (.inl x5)), none]) (st' := [.inr (.inl a0), .inr (.inl x7)]) rfl ?_
      refine z_gR hk 0 (z_row hX7_tryWithdraw_0 21 rfl) (ci := 7) rfl rfl wd_268 (fun x8 => ?_)
      refine kX0_keep F hk (z_row hX7_tryWithdraw_0 22 rfl) wd_446 (by decide) (Nat.le_of_ble_eq_true rfl) (fun σ9 => ?_)
      refine z_run hk hX7_tryWithdraw_0 23 1 (pc' := 45) (lv' := [some (.inr (.inl a0)), some (.inl a1), some (.inr (.inl x5)), none]) (st' := [.inr (.inl x5)]) rfl ?_
      refine kX2_orderCount F hk (z_row hX7_tryWithdraw_0 24 rfl) wd_703 (by decide) (Nat.le_of_ble_eq_true rfl) (fun x10 => ?_)
      refine z_run hk hX7_tryWithdraw_0 25 2 (pc' := 50) (lv' := [some (.inr (.inl a0)), some (.inl a1), some (.inr (.inl x5)), some (.inl x10)]) (st' := [.inr (.inl x5)]) rfl ?_
      refine kX2_removeOrders F hk (z_row hX7_tryWithdraw_0 27 rfl) wd_833 (by decide) (Nat.le_of_ble_eq_true rfl) (fun σ11 => ?_)
      refine z_run hk hX7_tryWithdraw_0 28 2 (pc' := 55) (lv' := [some (.inr (.inl a0)), some (.inl a1), some (.inr (.inl x5)), some (.inl x10)]) (st' := [.inl 4, .inr (.inl x5)]) rfl ?_
      refine z_pI hk 4 (z_row hX7_tryWithdraw_0 30 rfl) (ci := 2) rfl rfl wd_113 rfl rfl rfl (fun σ12 => ?_)
      refine z_run hk hX7_tryWithdraw_0 31 1 (pc' := 59) (lv' := [some (.inr (.inl a0)), some (.inl a1), some (.inr (.inl x5)), some (.inl x10)]) (st' := [.inr (.inl a0)]) rfl ?_
      refine z_gR hk 0 (z_row hX7_tryWithdraw_0 32 rfl) (ci := 7) rfl rfl wd_268 (fun x13 => ?_)
      refine z_gR hk 4 (z_row hX7_tryWithdraw_0 33 rfl) (ci := 3) rfl rfl wd_169 (fun x14 => ?_)
      refine z_run hk hX7_tryWithdraw_0 34 4 (pc' := 69) (lv' := [some (.inr (.inl a0)), some (.inl a1), some (.inr (.inl x5)), some (.inl x10)]) (st' := [.inl 0, .inl (-1), .inl a1, .inl 5, .inr (.inl x14)]) rfl ?_
      refine kX1_note F hk (z_row hX7_tryWithdraw_0 38 rfl) wd_636 (by decide) (Nat.le_of_ble_eq_true rfl) (fun σ15 => ?_)
      refine z_run hk hX7_tryWithdraw_0 39 1 (pc' := 73) (lv' := [some (.inr (.inl a0)), some (.inl a1), some (.inr (.inl x5)), some (.inl x10)]) (st' := [.inl x10]) rfl ?_
      exact z_iret hk he (z_row hX7_tryWithdraw_0 40 rfl) rfl
    · refine z_run hk hX7_tryWithdraw_0 16 1 (pc' := 32) (lv' := [some (.inr (.inl a0)), some (.inl a1), some (.inr (.inl x5)), none]) (st' := [.inl (-3)]) rfl ?_
      exact z_iret hk he (z_row hX7_tryWithdraw_0 17 rfl) rfl
  · refine z_run hk hX7_tryWithdraw_0 5 1 (pc' := 12) (lv' := [some (.inr (.inl a0)), some (.inl a1), none, none]) (st' := [.inl (-1)]) rfl ?_
    exact z_iret hk he (z_row hX7_tryWithdraw_0 6 rfl) rfl
theorem kX7_tryWithdraw {n : Nat} {own : String} {cc : ByteArray} {nL h index : Nat} {α : Type} {fin : α → zO} {σ : zW} {pc : Nat} {lv : zLV} {st : List zV} {a0 : Nat} {a1 : Int32} {c : Int32 → zW → Option α} (F : zFx E) (hk : zk E K own cc nL h) (hd : decode cc pc = .ok (.invokevirtual index, 3)) (hl : Cond.methodLink own index qX7_tryWithdraw ∈ lw_tbl) (hh : 5 + 1 ≤ h) (hs : zcat st ≤ 8) (k : ∀ v s, zG E K fin (c v s) s (pc + 3) lv (.inl v :: st)) : zG E K fin (zck σ 8 a0 (zb2 (fX7_tryWithdraw n a0 a1 σ) c)) σ pc lv (.inl a1 :: .inr (.inl a0) :: st) :=
  z_vW (n := 1) (y := qX7_tryWithdraw) (As := [.inl a1]) hk hd hl wd_858 ws_12 wd_1 wd_859 ⟨by decide, by decide, by decide +kernel⟩ ⟨hh, by decide⟩ (ci := 7) rfl rfl rfl (fun o ho => mX7_tryWithdraw F n a0 a1 σ o ho) hs k
abbrev qX7_withdraw : MethodName := { cls := "LotSales", name := "withdraw", desc := "(I)I" }
def fX7_withdraw (n : Nat) (a0 : Nat) (a1 : Int32) (σ : zW) : Option ((Int32 ⊕ Nat) × zW) := zck σ 8 a0 (zb2 (fX7_tryWithdraw n a0 a1 σ) fun x1 σ2 => zbx (fX7_answered n x1 σ2) (fun x3 σ4 => some (.inl x3, σ4)) (fun e5 σ6 => some (.inr e5, σ6)))
theorem mX7_withdraw (F : zFx E) (n : Nat) (a0 : Nat) (a1 : Int32) (σ : zW) (o : (Int32 ⊕ Nat) × zW) (hf : fX7_withdraw n a0 a1 σ = some o) : zMX E qX7_withdraw (.code qX7_withdraw cX7_withdraw 2 (some .int)) 7 [.inr (.inl a0), .inl a1] σ (zfT o) := by
  refine zMX_of (fin := zfT) F (by decide +kernel) rfl (Nat.le_of_ble_eq_true rfl) (lv0 := [some (.inr (.inl a0)), some (.inl a1)]) rfl hf rfl (fun K hk he ht => ?_)
  have hk : zk E K "LotSales" cX7_withdraw 2 7 := hk
  unfold fX7_withdraw
  refine z_run hk hX7_withdraw_0 0 2 (pc' := 2) (lv' := [some (.inr (.inl a0)), some (.inl a1)]) (st' := [.inl a1, .inr (.inl a0)]) rfl ?_
  refine kX7_tryWithdraw F hk (z_row hX7_withdraw_0 2 rfl) wd_856 (by decide) (Nat.le_of_ble_eq_true rfl) (fun x1 σ2 => ?_)
  refine kX7_answered F hk (z_row hX7_withdraw_0 3 rfl) wd_640 (by decide) (Nat.le_of_ble_eq_true rfl) (fun x3 σ4 => ?_) (fun e5 σ6 => ?_)
  · exact z_iret hk he (z_row hX7_withdraw_0 4 rfl) rfl
  · exact z_out hk ht rfl
theorem kX7_withdraw {n : Nat} {own : String} {cc : ByteArray} {nL h index : Nat} {α : Type} {fin : α → zO} {σ : zW} {pc : Nat} {lv : zLV} {st : List zV} {a0 : Nat} {a1 : Int32} {c : Int32 → zW → Option α} {t : Nat → zW → Option α} (F : zFx E) (hk : zk E K own cc nL h) (hd : decode cc pc = .ok (.invokevirtual index, 3)) (hl : Cond.methodLink own index qX7_withdraw ∈ lw_tbl) (hh : 7 + 1 ≤ h) (hs : zcat st ≤ 8) (k : ∀ v s, zG E K fin (c v s) s (pc + 3) lv (.inl v :: st)) (kt : ∀ kx s, zT E K fin (t kx s) kx s pc lv) : zG E K fin (zck σ 8 a0 (zbx (fX7_withdraw n a0 a1 σ) c t)) σ pc lv (.inl a1 :: .inr (.inl a0) :: st) :=
  z_vT (n := 1) (y := qX7_withdraw) (As := [.inl a1]) hk hd hl wd_853 wd_854 wd_1 wd_855 ⟨by decide, by decide, by decide +kernel⟩ ⟨hh, by decide⟩ (ci := 7) rfl rfl rfl (fun o ho => mX7_withdraw F n a0 a1 σ o ho) hs k kt
abbrev qX7_offer : MethodName := { cls := "LotSales", name := "offer", desc := "(II)I" }
def fX7_offer (n : Nat) (a0 : Nat) (a1 : Int32) (a2 : Int32) (σ : zW) : Option ((Int32 ⊕ Nat) × zW) := zck σ 8 a0 (zbx (fX7_needLot n a0 a1 σ) (fun _ σ2 => zgR σ2 8 a0 0 fun x5 => zgR σ2 4 x5 3 fun x6 => zaR σ2 25 x6 a1 fun x7 => zgI σ2 3 x7 7 fun x8 => zbx (fX7_needWithin n a2 0 (x8 - 1) σ2) (fun _ σ10 => zbx (fX7_needState n x7 3 σ10) (fun _ σ14 => zgR σ14 8 a0 2 fun x17 => zgR σ14 8 a0 0 fun x18 => zck σ14 1 x17 (zb (fX0_keep n x17 x18 σ14) fun σ19 => zpI σ19 3 x7 7 a2 fun σ20 => zpI σ20 3 x7 4 0 fun σ21 => zgR σ21 8 a0 0 fun x22 => zgR σ21 4 x22 4 fun x23 => zck σ21 2 x23 (zb (fX1_note n x23 8 a1 (-1) a2 σ21) fun σ24 => some (.inl x8, σ24)))) (fun e15 σ16 => some (.inr e15, σ16))) (fun e11 σ12 => some (.inr e11, σ12))) (fun e3 σ4 => some (.inr e3, σ4)))
theorem mX7_offer (F : zFx E) (n : Nat) (a0 : Nat) (a1 : Int32) (a2 : Int32) (σ : zW) (o : (Int32 ⊕ Nat) × zW) (hf : fX7_offer n a0 a1 a2 σ = some o) : zMX E qX7_offer (.code qX7_offer cX7_offer 5 (some .int)) 7 [.inr (.inl a0), .inl a1, .inl a2] σ (zfT o) := by
  refine zMX_of (fin := zfT) F (by decide +kernel) rfl (Nat.le_of_ble_eq_true rfl) (lv0 := [some (.inr (.inl a0)), some (.inl a1), some (.inl a2), none, none]) rfl hf rfl (fun K hk he ht => ?_)
  have hk : zk E K "LotSales" cX7_offer 5 7 := hk
  unfold fX7_offer
  refine z_run hk hX7_offer_0 0 2 (pc' := 2) (lv' := [some (.inr (.inl a0)), some (.inl a1), some (.inl a2), none, none]) (st' := [.inl a1, .inr (.inl a0)]) rfl ?_
  refine kX7_needLot F hk (z_row hX7_offer_0 2 rfl) wd_510 (by decide) (Nat.le_of_ble_eq_true rfl) (fun x1 σ2 => ?_) (fun e3 σ4 => ?_)
  · refine z_run hk hX7_offer_0 3 1 (pc' := 6) (lv' := [some (.inr (.inl a0)), some (.inl a1), some (.inl a2), none, none]) (st' := [.inr (.inl a0)]) rfl ?_
    refine z_gR hk 0 (z_row hX7_offer_0 4 rfl) (ci := 7) rfl rfl wd_268 (fun x5 => ?_)
    refine z_gR hk 3 (z_row hX7_offer_0 5 rfl) (ci := 3) rfl rfl wd_167 (fun x6 => ?_)
    refine z_run hk hX7_offer_0 6 1 (pc' := 13) (lv' := [some (.inr (.inl a0)), some (.inl a1), some (.inl a2), none, none]) (st' := [.inl a1, .inr (.inl x6)]) rfl ?_
    refine z_aR hk (κ := 25) (by decide) (z_row hX7_offer_0 7 rfl) (fun x7 => ?_)
    refine z_run hk hX7_offer_0 8 2 (pc' := 16) (lv' := [some (.inr (.inl a0)), some (.inl a1), some (.inl a2), some (.inr (.inl x7)), none]) (st' := [.inr (.inl x7)]) rfl ?_
    refine z_gI hk 7 (z_row hX7_offer_0 10 rfl) (ci := 2) rfl rfl wd_123 (fun x8 => ?_)
    refine z_run hk hX7_offer_0 11 6 (pc' := 27) (lv' := [some (.inr (.inl a0)), some (.inl a1), some (.inl a2), some (.inr (.inl x7)), some (.inl x8)]) (st' := [.inl (x8 - 1), .inl 0, .inl a2]) rfl ?_
    refine kX7_needWithin F hk (z_row hX7_offer_0 17 rfl) wd_350 (by decide) (Nat.le_of_ble_eq_true rfl) (fun x9 σ10 => ?_) (fun e11 σ12 => ?_)
    · refine z_run hk hX7_offer_0 18 2 (pc' := 32) (lv' := [some (.inr (.inl a0)), some (.inl a1), some (.inl a2), some (.inr (.inl x7)), some (.inl x8)]) (st' := [.inl 3, .inr (.inl x7)]) rfl ?_
      refine kX7_needState F hk (z_row hX7_offer_0 20 rfl) wd_782 (by decide) (Nat.le_of_ble_eq_true rfl) (fun x13 σ14 => ?_) (fun e15 σ16 => ?_)
      · refine z_run hk hX7_offer_0 21 1 (pc' := 36) (lv' := [some (.inr (.inl a0)), some (.inl a1), some (.inl a2), some (.inr (.inl x7)), some (.inl x8)]) (st' := [.inr (.inl a0)]) rfl ?_
        refine z_gR hk 2 (z_row hX7_offer_0 22 rfl) (ci := 7) rfl rfl wd_270 (fun x17 => ?_)
        refine z_run hk hX7_offer_0 23 1 (pc' := 40) (lv' := [some (.inr (.inl a0)), some (.inl a1), some (.inl a2), some (.inr (.inl x7)), some (.inl x8)]) (st' := [.inr (.inl a0), .inr (.inl x17)]) rfl ?_
        refine z_gR hk 0 (z_row hX7_offer_0 24 rfl) (ci := 7) rfl rfl wd_268 (fun x18 => ?_)
        refine kX0_keep F hk (z_row hX7_offer_0 25 rfl) wd_446 (by decide) (Nat.le_of_ble_eq_true rfl) (fun σ19 => ?_)
        refine z_run hk hX7_offer_0 26 2 (pc' := 48) (lv' := [some (.inr (.inl a0)), some (.inl a1), some (.inl a2), some (.inr (.inl x7)), some (.inl x8)]) (st' := [.inl a2, .inr (.inl x7)]) rfl ?_
        refine z_pI hk 7 (z_row hX7_offer_0 28 rfl) (ci := 2) rfl rfl wd_123 rfl rfl rfl (fun σ20 => ?_)
        refine z_run hk hX7_offer_0 29 2 (pc' := 53) (lv' := [some (.inr (.inl a0)), some (.inl a1), some (.inl a2), some (.inr (.inl x7)), some (.inl x8)]) (st' := [.inl 0, .inr (.inl x7)]) rfl ?_
        refine z_pI hk 4 (z_row hX7_offer_0 31 rfl) (ci := 2) rfl rfl wd_113 rfl rfl rfl (fun σ21 => ?_)
        refine z_run hk hX7_offer_0 32 1 (pc' := 57) (lv' := [some (.inr (.inl a0)), some (.inl a1), some (.inl a2), some (.inr (.inl x7)), some (.inl x8)]) (st' := [.inr (.inl a0)]) rfl ?_
        refine z_gR hk 0 (z_row hX7_offer_0 33 rfl) (ci := 7) rfl rfl wd_268 (fun x22 => ?_)
        refine z_gR hk 4 (z_row hX7_offer_0 34 rfl) (ci := 3) rfl rfl wd_169 (fun x23 => ?_)
        refine z_run hk hX7_offer_0 35 4 (pc' := 68) (lv' := [some (.inr (.inl a0)), some (.inl a1), some (.inl a2), some (.inr (.inl x7)), some (.inl x8)]) (st' := [.inl a2, .inl (-1), .inl a1, .inl 8, .inr (.inl x23)]) rfl ?_
        refine kX1_note F hk (z_row hX7_offer_0 39 rfl) wd_636 (by decide) (Nat.le_of_ble_eq_true rfl) (fun σ24 => ?_)
        refine z_run hk hX7_offer_0 40 1 (pc' := 73) (lv' := [some (.inr (.inl a0)), some (.inl a1), some (.inl a2), some (.inr (.inl x7)), some (.inl x8)]) (st' := [.inl x8]) rfl ?_
        exact z_iret hk he (z_row hX7_offer_0 41 rfl) rfl
      · exact z_out hk ht rfl
    · exact z_out hk ht rfl
  · exact z_out hk ht rfl
theorem kX7_offer {n : Nat} {own : String} {cc : ByteArray} {nL h index : Nat} {α : Type} {fin : α → zO} {σ : zW} {pc : Nat} {lv : zLV} {st : List zV} {a0 : Nat} {a1 : Int32} {a2 : Int32} {c : Int32 → zW → Option α} {t : Nat → zW → Option α} (F : zFx E) (hk : zk E K own cc nL h) (hd : decode cc pc = .ok (.invokevirtual index, 3)) (hl : Cond.methodLink own index qX7_offer ∈ lw_tbl) (hh : 7 + 1 ≤ h) (hs : zcat st ≤ 8) (k : ∀ v s, zG E K fin (c v s) s (pc + 3) lv (.inl v :: st)) (kt : ∀ kx s, zT E K fin (t kx s) kx s pc lv) : zG E K fin (zck σ 8 a0 (zbx (fX7_offer n a0 a1 a2 σ) c t)) σ pc lv (.inl a2 :: .inl a1 :: .inr (.inl a0) :: st) :=
  z_vT (n := 2) (y := qX7_offer) (As := [.inl a1, .inl a2]) hk hd hl wd_864 wd_865 wd_1 wd_866 ⟨by decide, by decide, by decide +kernel⟩ ⟨hh, by decide⟩ (ci := 7) rfl rfl rfl (fun o ho => mX7_offer F n a0 a1 a2 σ o ho) hs k kt
abbrev qX7_split : MethodName := { cls := "LotSales", name := "split", desc := "(II)I" }
def sX7_split_97 (n : Nat) : Nat → Nat → Int32 → Int32 → Nat → Int32 → Int32 → zW → Option ((Int32 ⊕ Nat) × zW)
  | 0, _, _, _, _, _, _, _ => none
  | k + 1, v0, v1, v2, v3, v4, v5, σ => if v5 < v2 then zgR σ 8 v0 0 fun x6 => zck σ 3 v3 (zb (fX2_quantityOfPart n v3 v5 v2 σ) fun x7 => zck σ 4 x6 (zb (fX3_makePart n x6 v3 x7 σ) fun σ8 => sX7_split_97 n k v0 v1 v2 v3 v4 (v5 + 1) σ8)) else zpI σ 3 v3 4 5 fun σ1 => zck σ1 3 v3 (zb (fX2_removeOrders n v3 σ1) fun σ2 => zgR σ2 8 v0 0 fun x3 => zgR σ2 4 x3 4 fun x4 => zck σ2 2 x4 (zb (fX1_note n x4 6 v1 (-1) v4 σ2) fun σ5 => some (.inl v4, σ5)))
def fX7_split (n : Nat) (a0 : Nat) (a1 : Int32) (a2 : Int32) (σ : zW) : Option ((Int32 ⊕ Nat) × zW) := zck σ 8 a0 (zbx (fX7_needLot n a0 a1 σ) (fun _ σ10 => zgR σ10 8 a0 0 fun x13 => zgR σ10 4 x13 3 fun x14 => zaR σ10 25 x14 a1 fun x15 => zbx (fX7_needWithin n a2 2 4 σ10) (fun _ σ17 => zgI σ17 3 x15 6 fun x20 => zbx (fX7_needWithin n a2 2 x20 σ17) (fun _ σ22 => zbx (fX7_needState n x15 0 σ22) (fun _ σ26 => zck σ26 8 a0 (zbx (fX7_needRoomForLots n a0 a2 σ26) (fun _ σ30 => zgR σ30 8 a0 0 fun x33 => zck σ30 4 x33 (zb (fX3_orderCount n x33 σ30) fun x34 => zck σ30 3 x15 (zb (fX2_orderCount n x15 σ30) fun x35 => zck σ30 3 x15 (zb (fX2_ordersOfParts n x15 a2 σ30) fun x36 => if 40 < ((x34 - x35) + x36) then zth σ30 fun σ42 => some (.inr 3, σ42) else zgR σ30 8 a0 2 fun x37 => zgR σ30 8 a0 0 fun x38 => zck σ30 1 x37 (zb (fX0_keep n x37 x38 σ30) fun σ39 => zgR σ39 8 a0 0 fun x40 => zgI σ39 4 x40 5 fun x41 => sX7_split_97 n n a0 a1 a2 x15 x41 0 σ39))))) (fun e31 σ32 => some (.inr e31, σ32)))) (fun e27 σ28 => some (.inr e27, σ28))) (fun e23 σ24 => some (.inr e23, σ24))) (fun e18 σ19 => some (.inr e18, σ19))) (fun e11 σ12 => some (.inr e11, σ12)))
theorem gsX7_split_97 (F : zFx E) (n : Nat) (hk : zk E K "LotSales" cX7_split 6 7) (he : zend E K (some .int) "split") (ht : zthr E K) : ∀ (k : Nat) (v0 : Nat) (v1 : Int32) (v2 : Int32) (v3 : Nat) (v4 : Int32) (v5 : Int32) (σ : zW), zG E K zfT (sX7_split_97 n k v0 v1 v2 v3 v4 v5 σ) σ 97 [some (.inr (.inl v0)), some (.inl v1), some (.inl v2), some (.inr (.inl v3)), some (.inl v4), some (.inl v5)] [] := by
  intro k
  induction k with
  | zero =>
    intro v0 v1 v2 v3 v4 v5 σ
    intro hX
    exact z_none hX
  | succ k ih =>
    intro v0 v1 v2 v3 v4 v5 σ
    rw [sX7_split_97]
    refine z_run hk hX7_split_0 52 2 (pc' := 100) (lv' := [some (.inr (.inl v0)), some (.inl v1), some (.inl v2), some (.inr (.inl v3)), some (.inl v4), some (.inl v5)]) (st' := [.inl v2, .inl v5]) rfl ?_
    refine z_cge hk (z_row hX7_split_0 54 rfl) (tgt := 124) rfl ?_ ?_
    · refine z_run hk hX7_split_1 5 2 (pc' := 126) (lv' := [some (.inr (.inl v0)), some (.inl v1), some (.inl v2), some (.inr (.inl v3)), some (.inl v4), some (.inl v5)]) (st' := [.inl 5, .inr (.inl v3)]) rfl ?_
      refine z_pI hk 4 (z_row hX7_split_1 7 rfl) (ci := 2) rfl rfl wd_113 rfl rfl rfl (fun σ1 => ?_)
      refine z_run hk hX7_split_1 8 1 (pc' := 130) (lv' := [some (.inr (.inl v0)), some (.inl v1), some (.inl v2), some (.inr (.inl v3)), some (.inl v4), some (.inl v5)]) (st' := [.inr (.inl v3)]) rfl ?_
      refine kX2_removeOrders F hk (z_row hX7_split_1 9 rfl) wd_833 (by decide) (Nat.le_of_ble_eq_true rfl) (fun σ2 => ?_)
      refine z_run hk hX7_split_1 10 1 (pc' := 134) (lv' := [some (.inr (.inl v0)), some (.inl v1), some (.inl v2), some (.inr (.inl v3)), some (.inl v4), some (.inl v5)]) (st' := [.inr (.inl v0)]) rfl ?_
      refine z_gR hk 0 (z_row hX7_split_1 11 rfl) (ci := 7) rfl rfl wd_268 (fun x3 => ?_)
      refine z_gR hk 4 (z_row hX7_split_1 12 rfl) (ci := 3) rfl rfl wd_169 (fun x4 => ?_)
      refine z_run hk hX7_split_1 13 4 (pc' := 146) (lv' := [some (.inr (.inl v0)), some (.inl v1), some (.inl v2), some (.inr (.inl v3)), some (.inl v4), some (.inl v5)]) (st' := [.inl v4, .inl (-1), .inl v1, .inl 6, .inr (.inl x4)]) rfl ?_
      refine kX1_note F hk (z_row hX7_split_1 17 rfl) wd_636 (by decide) (Nat.le_of_ble_eq_true rfl) (fun σ5 => ?_)
      refine z_run hk hX7_split_1 18 1 (pc' := 151) (lv' := [some (.inr (.inl v0)), some (.inl v1), some (.inl v2), some (.inr (.inl v3)), some (.inl v4), some (.inl v5)]) (st' := [.inl v4]) rfl ?_
      exact z_iret hk he (z_row hX7_split_1 19 rfl) rfl
    · refine z_run hk hX7_split_0 55 1 (pc' := 104) (lv' := [some (.inr (.inl v0)), some (.inl v1), some (.inl v2), some (.inr (.inl v3)), some (.inl v4), some (.inl v5)]) (st' := [.inr (.inl v0)]) rfl ?_
      refine z_gR hk 0 (z_row hX7_split_0 56 rfl) (ci := 7) rfl rfl wd_268 (fun x6 => ?_)
      refine z_run hk hX7_split_0 57 3 (pc' := 111) (lv' := [some (.inr (.inl v0)), some (.inl v1), some (.inl v2), some (.inr (.inl v3)), some (.inl v4), some (.inl v5)]) (st' := [.inl v5, .inr (.inl v3), .inr (.inl v3), .inr (.inl x6)]) rfl ?_
      refine z_run hk hX7_split_1 0 1 (pc' := 112) (lv' := [some (.inr (.inl v0)), some (.inl v1), some (.inl v2), some (.inr (.inl v3)), some (.inl v4), some (.inl v5)]) (st' := [.inl v2, .inl v5, .inr (.inl v3), .inr (.inl v3), .inr (.inl x6)]) rfl ?_
      refine kX2_quantityOfPart F hk (z_row hX7_split_1 1 rfl) wd_887 (by decide) (Nat.le_of_ble_eq_true rfl) (fun x7 => ?_)
      refine kX3_makePart F hk (z_row hX7_split_1 2 rfl) wd_888 (by decide) (Nat.le_of_ble_eq_true rfl) (fun σ8 => ?_)
      refine z_run hk hX7_split_1 3 1 (pc' := 121) (lv' := [some (.inr (.inl v0)), some (.inl v1), some (.inl v2), some (.inr (.inl v3)), some (.inl v4), some (.inl (v5 + 1))]) (st' := []) rfl ?_
      refine z_goto hk (z_row hX7_split_1 4 rfl) (tgt := 97) rfl ?_
      exact ih v0 v1 v2 v3 v4 (v5 + 1) σ8
theorem mX7_split (F : zFx E) (n : Nat) (a0 : Nat) (a1 : Int32) (a2 : Int32) (σ : zW) (o : (Int32 ⊕ Nat) × zW) (hf : fX7_split n a0 a1 a2 σ = some o) : zMX E qX7_split (.code qX7_split cX7_split 6 (some .int)) 7 [.inr (.inl a0), .inl a1, .inl a2] σ (zfT o) := by
  refine zMX_of (fin := zfT) F (by decide +kernel) rfl (Nat.le_of_ble_eq_true rfl) (lv0 := [some (.inr (.inl a0)), some (.inl a1), some (.inl a2), none, none, none]) rfl hf rfl (fun K hk he ht => ?_)
  have hk : zk E K "LotSales" cX7_split 6 7 := hk
  unfold fX7_split
  refine z_run hk hX7_split_0 0 2 (pc' := 2) (lv' := [some (.inr (.inl a0)), some (.inl a1), some (.inl a2), none, none, none]) (st' := [.inl a1, .inr (.inl a0)]) rfl ?_
  refine kX7_needLot F hk (z_row hX7_split_0 2 rfl) wd_510 (by decide) (Nat.le_of_ble_eq_true rfl) (fun x9 σ10 => ?_) (fun e11 σ12 => ?_)
  · refine z_run hk hX7_split_0 3 1 (pc' := 6) (lv' := [some (.inr (.inl a0)), some (.inl a1), some (.inl a2), none, none, none]) (st' := [.inr (.inl a0)]) rfl ?_
    refine z_gR hk 0 (z_row hX7_split_0 4 rfl) (ci := 7) rfl rfl wd_268 (fun x13 => ?_)
    refine z_gR hk 3 (z_row hX7_split_0 5 rfl) (ci := 3) rfl rfl wd_167 (fun x14 => ?_)
    refine z_run hk hX7_split_0 6 1 (pc' := 13) (lv' := [some (.inr (.inl a0)), some (.inl a1), some (.inl a2), none, none, none]) (st' := [.inl a1, .inr (.inl x14)]) rfl ?_
    refine z_aR hk (κ := 25) (by decide) (z_row hX7_split_0 7 rfl) (fun x15 => ?_)
    refine z_run hk hX7_split_0 8 4 (pc' := 18) (lv' := [some (.inr (.inl a0)), some (.inl a1), some (.inl a2), some (.inr (.inl x15)), none, none]) (st' := [.inl 4, .inl 2, .inl a2]) rfl ?_
    refine kX7_needWithin F hk (z_row hX7_split_0 12 rfl) wd_350 (by decide) (Nat.le_of_ble_eq_true rfl) (fun x16 σ17 => ?_) (fun e18 σ19 => ?_)
    · refine z_run hk hX7_split_0 13 3 (pc' := 24) (lv' := [some (.inr (.inl a0)), some (.inl a1), some (.inl a2), some (.inr (.inl x15)), none, none]) (st' := [.inr (.inl x15), .inl 2, .inl a2]) rfl ?_
      refine z_gI hk 6 (z_row hX7_split_0 16 rfl) (ci := 2) rfl rfl wd_119 (fun x20 => ?_)
      refine kX7_needWithin F hk (z_row hX7_split_0 17 rfl) wd_350 (by decide) (Nat.le_of_ble_eq_true rfl) (fun x21 σ22 => ?_) (fun e23 σ24 => ?_)
      · refine z_run hk hX7_split_0 18 2 (pc' := 32) (lv' := [some (.inr (.inl a0)), some (.inl a1), some (.inl a2), some (.inr (.inl x15)), none, none]) (st' := [.inl 0, .inr (.inl x15)]) rfl ?_
        refine kX7_needState F hk (z_row hX7_split_0 20 rfl) wd_782 (by decide) (Nat.le_of_ble_eq_true rfl) (fun x25 σ26 => ?_) (fun e27 σ28 => ?_)
        · refine z_run hk hX7_split_0 21 2 (pc' := 37) (lv' := [some (.inr (.inl a0)), some (.inl a1), some (.inl a2), some (.inr (.inl x15)), none, none]) (st' := [.inl a2, .inr (.inl a0)]) rfl ?_
          refine kX7_needRoomForLots F hk (z_row hX7_split_0 23 rfl) wd_426 (by decide) (Nat.le_of_ble_eq_true rfl) (fun x29 σ30 => ?_) (fun e31 σ32 => ?_)
          · refine z_run hk hX7_split_0 24 1 (pc' := 41) (lv' := [some (.inr (.inl a0)), some (.inl a1), some (.inl a2), some (.inr (.inl x15)), none, none]) (st' := [.inr (.inl a0)]) rfl ?_
            refine z_gR hk 0 (z_row hX7_split_0 25 rfl) (ci := 7) rfl rfl wd_268 (fun x33 => ?_)
            refine kX3_orderCount F hk (z_row hX7_split_0 26 rfl) wd_623 (by decide) (Nat.le_of_ble_eq_true rfl) (fun x34 => ?_)
            refine z_run hk hX7_split_0 27 1 (pc' := 48) (lv' := [some (.inr (.inl a0)), some (.inl a1), some (.inl a2), some (.inr (.inl x15)), none, none]) (st' := [.inr (.inl x15), .inl x34]) rfl ?_
            refine kX2_orderCount F hk (z_row hX7_split_0 28 rfl) wd_703 (by decide) (Nat.le_of_ble_eq_true rfl) (fun x35 => ?_)
            refine z_run hk hX7_split_0 29 3 (pc' := 54) (lv' := [some (.inr (.inl a0)), some (.inl a1), some (.inl a2), some (.inr (.inl x15)), none, none]) (st' := [.inl a2, .inr (.inl x15), .inl (x34 - x35)]) rfl ?_
            refine kX2_ordersOfParts F hk (z_row hX7_split_0 32 rfl) wd_874 (by decide) (Nat.le_of_ble_eq_true rfl) (fun x36 => ?_)
            refine z_run hk hX7_split_0 33 2 (pc' := 60) (lv' := [some (.inr (.inl a0)), some (.inl a1), some (.inl a2), some (.inr (.inl x15)), none, none]) (st' := [.inl 40, .inl ((x34 - x35) + x36)]) rfl ?_
            refine z_cle hk (z_row hX7_split_0 35 rfl) (tgt := 74) rfl ?_ ?_
            · refine z_run hk hX7_split_0 41 1 (pc' := 75) (lv' := [some (.inr (.inl a0)), some (.inl a1), some (.inl a2), some (.inr (.inl x15)), none, none]) (st' := [.inr (.inl a0)]) rfl ?_
              refine z_gR hk 2 (z_row hX7_split_0 42 rfl) (ci := 7) rfl rfl wd_270 (fun x37 => ?_)
              refine z_run hk hX7_split_0 43 1 (pc' := 79) (lv' := [some (.inr (.inl a0)), some (.inl a1), some (.inl a2), some (.inr (.inl x15)), none, none]) (st' := [.inr (.inl a0), .inr (.inl x37)]) rfl ?_
              refine z_gR hk 0 (z_row hX7_split_0 44 rfl) (ci := 7) rfl rfl wd_268 (fun x38 => ?_)
              refine kX0_keep F hk (z_row hX7_split_0 45 rfl) wd_446 (by decide) (Nat.le_of_ble_eq_true rfl) (fun σ39 => ?_)
              refine z_run hk hX7_split_0 46 1 (pc' := 86) (lv' := [some (.inr (.inl a0)), some (.inl a1), some (.inl a2), some (.inr (.inl x15)), none, none]) (st' := [.inr (.inl a0)]) rfl ?_
              refine z_gR hk 0 (z_row hX7_split_0 47 rfl) (ci := 7) rfl rfl wd_268 (fun x40 => ?_)
              refine z_gI hk 5 (z_row hX7_split_0 48 rfl) (ci := 3) rfl rfl wd_171 (fun x41 => ?_)
              refine z_run hk hX7_split_0 49 3 (pc' := 97) (lv' := [some (.inr (.inl a0)), some (.inl a1), some (.inl a2), some (.inr (.inl x15)), some (.inl x41), some (.inl 0)]) (st' := []) rfl ?_
              exact gsX7_split_97 F n hk he ht n a0 a1 a2 x15 x41 0 σ39
            · exact z_throwW hk ht (is := 256) (text := "too many orders") (kx := 3) (by decide) (by decide) (by decide) (fun _ => rfl) (fun _ => rfl) wd_886 wd_430 wd_15 (by decide +kernel) (z_row hX7_split_0 36 rfl) (z_row hX7_split_0 37 rfl) (z_row hX7_split_0 38 rfl) (z_row hX7_split_0 39 rfl) (z_row hX7_split_0 40 rfl) (by decide) (Nat.le_of_ble_eq_true rfl)
          · exact z_out hk ht rfl
        · exact z_out hk ht rfl
      · exact z_out hk ht rfl
    · exact z_out hk ht rfl
  · exact z_out hk ht rfl
theorem kX7_split {n : Nat} {own : String} {cc : ByteArray} {nL h index : Nat} {α : Type} {fin : α → zO} {σ : zW} {pc : Nat} {lv : zLV} {st : List zV} {a0 : Nat} {a1 : Int32} {a2 : Int32} {c : Int32 → zW → Option α} {t : Nat → zW → Option α} (F : zFx E) (hk : zk E K own cc nL h) (hd : decode cc pc = .ok (.invokevirtual index, 3)) (hl : Cond.methodLink own index qX7_split ∈ lw_tbl) (hh : 7 + 1 ≤ h) (hs : zcat st ≤ 8) (k : ∀ v s, zG E K fin (c v s) s (pc + 3) lv (.inl v :: st)) (kt : ∀ kx s, zT E K fin (t kx s) kx s pc lv) : zG E K fin (zck σ 8 a0 (zbx (fX7_split n a0 a1 a2 σ) c t)) σ pc lv (.inl a2 :: .inl a1 :: .inr (.inl a0) :: st) :=
  z_vT (n := 2) (y := qX7_split) (As := [.inl a1, .inl a2]) hk hd hl wd_871 wd_872 wd_1 wd_873 ⟨by decide, by decide, by decide +kernel⟩ ⟨hh, by decide⟩ (ci := 7) rfl rfl rfl (fun o ho => mX7_split F n a0 a1 a2 σ o ho) hs k kt
abbrev qX7_group : MethodName := { cls := "LotSales", name := "group", desc := "(II)I" }
def sX7_group_48 (n : Nat) (σ : zW) : Option ((Int32 ⊕ Nat) × zW) := zth σ fun σ1 => some (.inr 2, σ1)
def fX7_group (n : Nat) (a0 : Nat) (a1 : Int32) (a2 : Int32) (σ : zW) : Option ((Int32 ⊕ Nat) × zW) := zck σ 8 a0 (zbx (fX7_needLot n a0 a1 σ) (fun _ σ3 => zck σ3 8 a0 (zbx (fX7_needLot n a0 a2 σ3) (fun _ σ7 => zgR σ7 8 a0 0 fun x10 => zgR σ7 4 x10 3 fun x11 => zaR σ7 25 x11 a1 fun x12 => zgR σ7 8 a0 0 fun x13 => zgR σ7 4 x13 3 fun x14 => zaR σ7 25 x14 a2 fun x15 => if a1 = a2 then sX7_group_48 n σ7 else zgI σ7 3 x12 5 fun x16 => zgI σ7 3 x15 5 fun x17 => if x16 = x17 then zgI σ7 3 x12 6 fun x18 => zgI σ7 3 x15 6 fun x19 => zbx (fX7_needWithin n (x18 + x19) 1 20 σ7) (fun _ σ21 => zgI σ21 3 x12 7 fun x24 => zgI σ21 3 x15 7 fun x25 => zbx (fX7_needWithin n (x24 + x25) 0 90000 σ21) (fun _ σ27 => zbx (fX7_needState n x12 0 σ27) (fun _ σ31 => zbx (fX7_needState n x15 0 σ31) (fun _ σ35 => zck σ35 8 a0 (zbx (fX7_needRoomForLots n a0 1 σ35) (fun _ σ39 => zgR σ39 8 a0 2 fun x42 => zgR σ39 8 a0 0 fun x43 => zck σ39 1 x42 (zb (fX0_keep n x42 x43 σ39) fun σ44 => zgR σ44 8 a0 0 fun x45 => zck σ44 4 x45 (zb2 (fX3_makeGroup n x45 x12 x15 σ44) fun x46 σ47 => zpI σ47 3 x12 4 6 fun σ48 => zpI σ48 3 x15 4 6 fun σ49 => zck σ49 3 x12 (zb (fX2_removeOrders n x12 σ49) fun σ50 => zck σ50 3 x15 (zb (fX2_removeOrders n x15 σ50) fun σ51 => zgR σ51 8 a0 0 fun x52 => zgR σ51 4 x52 4 fun x53 => zck σ51 2 x53 (zb (fX1_note n x53 7 a1 (-1) x46 σ51) fun σ54 => some (.inl x46, σ54))))))) (fun e40 σ41 => some (.inr e40, σ41)))) (fun e36 σ37 => some (.inr e36, σ37))) (fun e32 σ33 => some (.inr e32, σ33))) (fun e28 σ29 => some (.inr e28, σ29))) (fun e22 σ23 => some (.inr e22, σ23)) else sX7_group_48 n σ7) (fun e8 σ9 => some (.inr e8, σ9)))) (fun e4 σ5 => some (.inr e4, σ5)))
theorem gsX7_group_48 (F : zFx E) (n : Nat) (hk : zk E K "LotSales" cX7_group 6 7) (he : zend E K (some .int) "group") (ht : zthr E K) (σ : zW) : zG E K zfT (sX7_group_48 n σ) σ 48 [none, none, none, none, none, none] [] := by
  unfold sX7_group_48
  exact z_throwW hk ht (is := 267) (text := "not two lots of one seller") (kx := 2) (by decide) (by decide) (by decide) (fun _ => rfl) (fun _ => rfl) wd_903 wd_353 wd_14 (by decide +kernel) (z_row hX7_group_0 26 rfl) (z_row hX7_group_0 27 rfl) (z_row hX7_group_0 28 rfl) (z_row hX7_group_0 29 rfl) (z_row hX7_group_0 30 rfl) (by decide) (Nat.le_of_ble_eq_true rfl)
theorem mX7_group (F : zFx E) (n : Nat) (a0 : Nat) (a1 : Int32) (a2 : Int32) (σ : zW) (o : (Int32 ⊕ Nat) × zW) (hf : fX7_group n a0 a1 a2 σ = some o) : zMX E qX7_group (.code qX7_group cX7_group 6 (some .int)) 7 [.inr (.inl a0), .inl a1, .inl a2] σ (zfT o) := by
  refine zMX_of (fin := zfT) F (by decide +kernel) rfl (Nat.le_of_ble_eq_true rfl) (lv0 := [some (.inr (.inl a0)), some (.inl a1), some (.inl a2), none, none, none]) rfl hf rfl (fun K hk he ht => ?_)
  have hk : zk E K "LotSales" cX7_group 6 7 := hk
  unfold fX7_group
  refine z_run hk hX7_group_0 0 2 (pc' := 2) (lv' := [some (.inr (.inl a0)), some (.inl a1), some (.inl a2), none, none, none]) (st' := [.inl a1, .inr (.inl a0)]) rfl ?_
  refine kX7_needLot F hk (z_row hX7_group_0 2 rfl) wd_510 (by decide) (Nat.le_of_ble_eq_true rfl) (fun x2 σ3 => ?_) (fun e4 σ5 => ?_)
  · refine z_run hk hX7_group_0 3 2 (pc' := 7) (lv' := [some (.inr (.inl a0)), some (.inl a1), some (.inl a2), none, none, none]) (st' := [.inl a2, .inr (.inl a0)]) rfl ?_
    refine kX7_needLot F hk (z_row hX7_group_0 5 rfl) wd_510 (by decide) (Nat.le_of_ble_eq_true rfl) (fun x6 σ7 => ?_) (fun e8 σ9 => ?_)
    · refine z_run hk hX7_group_0 6 1 (pc' := 11) (lv' := [some (.inr (.inl a0)), some (.inl a1), some (.inl a2), none, none, none]) (st' := [.inr (.inl a0)]) rfl ?_
      refine z_gR hk 0 (z_row hX7_group_0 7 rfl) (ci := 7) rfl rfl wd_268 (fun x10 => ?_)
      refine z_gR hk 3 (z_row hX7_group_0 8 rfl) (ci := 3) rfl rfl wd_167 (fun x11 => ?_)
      refine z_run hk hX7_group_0 9 1 (pc' := 18) (lv' := [some (.inr (.inl a0)), some (.inl a1), some (.inl a2), none, none, none]) (st' := [.inl a1, .inr (.inl x11)]) rfl ?_
      refine z_aR hk (κ := 25) (by decide) (z_row hX7_group_0 10 rfl) (fun x12 => ?_)
      refine z_run hk hX7_group_0 11 2 (pc' := 21) (lv' := [some (.inr (.inl a0)), some (.inl a1), some (.inl a2), some (.inr (.inl x12)), none, none]) (st' := [.inr (.inl a0)]) rfl ?_
      refine z_gR hk 0 (z_row hX7_group_0 13 rfl) (ci := 7) rfl rfl wd_268 (fun x13 => ?_)
      refine z_gR hk 3 (z_row hX7_group_0 14 rfl) (ci := 3) rfl rfl wd_167 (fun x14 => ?_)
      refine z_run hk hX7_group_0 15 1 (pc' := 28) (lv' := [some (.inr (.inl a0)), some (.inl a1), some (.inl a2), some (.inr (.inl x12)), none, none]) (st' := [.inl a2, .inr (.inl x14)]) rfl ?_
      refine z_aR hk (κ := 25) (by decide) (z_row hX7_group_0 16 rfl) (fun x15 => ?_)
      refine z_run hk hX7_group_0 17 3 (pc' := 33) (lv' := [some (.inr (.inl a0)), some (.inl a1), some (.inl a2), some (.inr (.inl x12)), some (.inr (.inl x15)), none]) (st' := [.inl a2, .inl a1]) rfl ?_
      refine z_ceq hk (z_row hX7_group_0 20 rfl) (tgt := 48) rfl ?_ ?_
      · refine z_mask [false, false, false, false, false, false] rfl ?_
        exact gsX7_group_48 F n hk he ht σ7
      · refine z_run hk hX7_group_0 21 1 (pc' := 37) (lv' := [some (.inr (.inl a0)), some (.inl a1), some (.inl a2), some (.inr (.inl x12)), some (.inr (.inl x15)), none]) (st' := [.inr (.inl x12)]) rfl ?_
        refine z_gI hk 5 (z_row hX7_group_0 22 rfl) (ci := 2) rfl rfl wd_116 (fun x16 => ?_)
        refine z_run hk hX7_group_0 23 1 (pc' := 42) (lv' := [some (.inr (.inl a0)), some (.inl a1), some (.inl a2), some (.inr (.inl x12)), some (.inr (.inl x15)), none]) (st' := [.inr (.inl x15), .inl x16]) rfl ?_
        refine z_gI hk 5 (z_row hX7_group_0 24 rfl) (ci := 2) rfl rfl wd_116 (fun x17 => ?_)
        refine z_ceq hk (z_row hX7_group_0 25 rfl) (tgt := 59) rfl ?_ ?_
        · refine z_run hk hX7_group_0 31 1 (pc' := 60) (lv' := [some (.inr (.inl a0)), some (.inl a1), some (.inl a2), some (.inr (.inl x12)), some (.inr (.inl x15)), none]) (st' := [.inr (.inl x12)]) rfl ?_
          refine z_gI hk 6 (z_row hX7_group_0 32 rfl) (ci := 2) rfl rfl wd_119 (fun x18 => ?_)
          refine z_run hk hX7_group_0 33 1 (pc' := 65) (lv' := [some (.inr (.inl a0)), some (.inl a1), some (.inl a2), some (.inr (.inl x12)), some (.inr (.inl x15)), none]) (st' := [.inr (.inl x15), .inl x18]) rfl ?_
          refine z_gI hk 6 (z_row hX7_group_0 34 rfl) (ci := 2) rfl rfl wd_119 (fun x19 => ?_)
          refine z_run hk hX7_group_0 35 3 (pc' := 72) (lv' := [some (.inr (.inl a0)), some (.inl a1), some (.inl a2), some (.inr (.inl x12)), some (.inr (.inl x15)), none]) (st' := [.inl 20, .inl 1, .inl (x18 + x19)]) rfl ?_
          refine kX7_needWithin F hk (z_row hX7_group_0 38 rfl) wd_350 (by decide) (Nat.le_of_ble_eq_true rfl) (fun x20 σ21 => ?_) (fun e22 σ23 => ?_)
          · refine z_run hk hX7_group_0 39 1 (pc' := 76) (lv' := [some (.inr (.inl a0)), some (.inl a1), some (.inl a2), some (.inr (.inl x12)), some (.inr (.inl x15)), none]) (st' := [.inr (.inl x12)]) rfl ?_
            refine z_gI hk 7 (z_row hX7_group_0 40 rfl) (ci := 2) rfl rfl wd_123 (fun x24 => ?_)
            refine z_run hk hX7_group_0 41 1 (pc' := 81) (lv' := [some (.inr (.inl a0)), some (.inl a1), some (.inl a2), some (.inr (.inl x12)), some (.inr (.inl x15)), none]) (st' := [.inr (.inl x15), .inl x24]) rfl ?_
            refine z_gI hk 7 (z_row hX7_group_0 42 rfl) (ci := 2) rfl rfl wd_123 (fun x25 => ?_)
            refine z_run hk hX7_group_0 43 2 (pc' := 86) (lv' := [some (.inr (.inl a0)), some (.inl a1), some (.inl a2), some (.inr (.inl x12)), some (.inr (.inl x15)), none]) (st' := [.inl 0, .inl (x24 + x25)]) rfl ?_
            refine z_ldc hk (z_row hX7_group_0 45 rfl) wd_425 ?_
            refine kX7_needWithin F hk (z_row hX7_group_0 46 rfl) wd_350 (by decide) (Nat.le_of_ble_eq_true rfl) (fun x26 σ27 => ?_) (fun e28 σ29 => ?_)
            · refine z_run hk hX7_group_0 47 2 (pc' := 93) (lv' := [some (.inr (.inl a0)), some (.inl a1), some (.inl a2), some (.inr (.inl x12)), some (.inr (.inl x15)), none]) (st' := [.inl 0, .inr (.inl x12)]) rfl ?_
              refine kX7_needState F hk (z_row hX7_group_0 49 rfl) wd_782 (by decide) (Nat.le_of_ble_eq_true rfl) (fun x30 σ31 => ?_) (fun e32 σ33 => ?_)
              · refine z_run hk hX7_group_0 50 2 (pc' := 99) (lv' := [some (.inr (.inl a0)), some (.inl a1), some (.inl a2), some (.inr (.inl x12)), some (.inr (.inl x15)), none]) (st' := [.inl 0, .inr (.inl x15)]) rfl ?_
                refine kX7_needState F hk (z_row hX7_group_0 52 rfl) wd_782 (by decide) (Nat.le_of_ble_eq_true rfl) (fun x34 σ35 => ?_) (fun e36 σ37 => ?_)
                · refine z_run hk hX7_group_0 53 2 (pc' := 104) (lv' := [some (.inr (.inl a0)), some (.inl a1), some (.inl a2), some (.inr (.inl x12)), some (.inr (.inl x15)), none]) (st' := [.inl 1, .inr (.inl a0)]) rfl ?_
                  refine kX7_needRoomForLots F hk (z_row hX7_group_0 55 rfl) wd_426 (by decide) (Nat.le_of_ble_eq_true rfl) (fun x38 σ39 => ?_) (fun e40 σ41 => ?_)
                  · refine z_run hk hX7_group_0 56 1 (pc' := 108) (lv' := [some (.inr (.inl a0)), some (.inl a1), some (.inl a2), some (.inr (.inl x12)), some (.inr (.inl x15)), none]) (st' := [.inr (.inl a0)]) rfl ?_
                    refine z_gR hk 2 (z_row hX7_group_0 57 rfl) (ci := 7) rfl rfl wd_270 (fun x42 => ?_)
                    refine z_run hk hX7_group_0 58 1 (pc' := 112) (lv' := [some (.inr (.inl a0)), some (.inl a1), some (.inl a2), some (.inr (.inl x12)), some (.inr (.inl x15)), none]) (st' := [.inr (.inl a0), .inr (.inl x42)]) rfl ?_
                    refine z_gR hk 0 (z_row hX7_group_0 59 rfl) (ci := 7) rfl rfl wd_268 (fun x43 => ?_)
                    refine kX0_keep F hk (z_row hX7_group_1 0 rfl) wd_446 (by decide) (Nat.le_of_ble_eq_true rfl) (fun σ44 => ?_)
                    refine z_run hk hX7_group_1 1 1 (pc' := 119) (lv' := [some (.inr (.inl a0)), some (.inl a1), some (.inl a2), some (.inr (.inl x12)), some (.inr (.inl x15)), none]) (st' := [.inr (.inl a0)]) rfl ?_
                    refine z_gR hk 0 (z_row hX7_group_1 2 rfl) (ci := 7) rfl rfl wd_268 (fun x45 => ?_)
                    refine z_run hk hX7_group_1 3 2 (pc' := 125) (lv' := [some (.inr (.inl a0)), some (.inl a1), some (.inl a2), some (.inr (.inl x12)), some (.inr (.inl x15)), none]) (st' := [.inr (.inl x15), .inr (.inl x12), .inr (.inl x45)]) rfl ?_
                    refine kX3_makeGroup F hk (z_row hX7_group_1 5 rfl) wd_904 (by decide) (Nat.le_of_ble_eq_true rfl) (fun x46 σ47 => ?_)
                    refine z_run hk hX7_group_1 6 3 (pc' := 133) (lv' := [some (.inr (.inl a0)), some (.inl a1), some (.inl a2), some (.inr (.inl x12)), some (.inr (.inl x15)), some (.inl x46)]) (st' := [.inl 6, .inr (.inl x12)]) rfl ?_
                    refine z_pI hk 4 (z_row hX7_group_1 9 rfl) (ci := 2) rfl rfl wd_113 rfl rfl rfl (fun σ48 => ?_)
                    refine z_run hk hX7_group_1 10 2 (pc' := 140) (lv' := [some (.inr (.inl a0)), some (.inl a1), some (.inl a2), some (.inr (.inl x12)), some (.inr (.inl x15)), some (.inl x46)]) (st' := [.inl 6, .inr (.inl x15)]) rfl ?_
                    refine z_pI hk 4 (z_row hX7_group_1 12 rfl) (ci := 2) rfl rfl wd_113 rfl rfl rfl (fun σ49 => ?_)
                    refine z_run hk hX7_group_1 13 1 (pc' := 144) (lv' := [some (.inr (.inl a0)), some (.inl a1), some (.inl a2), some (.inr (.inl x12)), some (.inr (.inl x15)), some (.inl x46)]) (st' := [.inr (.inl x12)]) rfl ?_
                    refine kX2_removeOrders F hk (z_row hX7_group_1 14 rfl) wd_833 (by decide) (Nat.le_of_ble_eq_true rfl) (fun σ50 => ?_)
                    refine z_run hk hX7_group_1 15 1 (pc' := 149) (lv' := [some (.inr (.inl a0)), some (.inl a1), some (.inl a2), some (.inr (.inl x12)), some (.inr (.inl x15)), some (.inl x46)]) (st' := [.inr (.inl x15)]) rfl ?_
                    refine kX2_removeOrders F hk (z_row hX7_group_1 16 rfl) wd_833 (by decide) (Nat.le_of_ble_eq_true rfl) (fun σ51 => ?_)
                    refine z_run hk hX7_group_1 17 1 (pc' := 153) (lv' := [some (.inr (.inl a0)), some (.inl a1), some (.inl a2), some (.inr (.inl x12)), some (.inr (.inl x15)), some (.inl x46)]) (st' := [.inr (.inl a0)]) rfl ?_
                    refine z_gR hk 0 (z_row hX7_group_1 18 rfl) (ci := 7) rfl rfl wd_268 (fun x52 => ?_)
                    refine z_gR hk 4 (z_row hX7_group_1 19 rfl) (ci := 3) rfl rfl wd_169 (fun x53 => ?_)
                    refine z_run hk hX7_group_1 20 4 (pc' := 165) (lv' := [some (.inr (.inl a0)), some (.inl a1), some (.inl a2), some (.inr (.inl x12)), some (.inr (.inl x15)), some (.inl x46)]) (st' := [.inl x46, .inl (-1), .inl a1, .inl 7, .inr (.inl x53)]) rfl ?_
                    refine kX1_note F hk (z_row hX7_group_1 24 rfl) wd_636 (by decide) (Nat.le_of_ble_eq_true rfl) (fun σ54 => ?_)
                    refine z_run hk hX7_group_1 25 1 (pc' := 170) (lv' := [some (.inr (.inl a0)), some (.inl a1), some (.inl a2), some (.inr (.inl x12)), some (.inr (.inl x15)), some (.inl x46)]) (st' := [.inl x46]) rfl ?_
                    exact z_iret hk he (z_row hX7_group_1 26 rfl) rfl
                  · exact z_out hk ht rfl
                · exact z_out hk ht rfl
              · exact z_out hk ht rfl
            · exact z_out hk ht rfl
          · exact z_out hk ht rfl
        · refine z_mask [false, false, false, false, false, false] rfl ?_
          exact gsX7_group_48 F n hk he ht σ7
    · exact z_out hk ht rfl
  · exact z_out hk ht rfl
theorem kX7_group {n : Nat} {own : String} {cc : ByteArray} {nL h index : Nat} {α : Type} {fin : α → zO} {σ : zW} {pc : Nat} {lv : zLV} {st : List zV} {a0 : Nat} {a1 : Int32} {a2 : Int32} {c : Int32 → zW → Option α} {t : Nat → zW → Option α} (F : zFx E) (hk : zk E K own cc nL h) (hd : decode cc pc = .ok (.invokevirtual index, 3)) (hl : Cond.methodLink own index qX7_group ∈ lw_tbl) (hh : 7 + 1 ≤ h) (hs : zcat st ≤ 8) (k : ∀ v s, zG E K fin (c v s) s (pc + 3) lv (.inl v :: st)) (kt : ∀ kx s, zT E K fin (t kx s) kx s pc lv) : zG E K fin (zck σ 8 a0 (zbx (fX7_group n a0 a1 a2 σ) c t)) σ pc lv (.inl a2 :: .inl a1 :: .inr (.inl a0) :: st) :=
  z_vT (n := 2) (y := qX7_group) (As := [.inl a1, .inl a2]) hk hd hl wd_900 wd_901 wd_1 wd_902 ⟨by decide, by decide, by decide +kernel⟩ ⟨hh, by decide⟩ (ci := 7) rfl rfl rfl (fun o ho => mX7_group F n a0 a1 a2 σ o ho) hs k kt
abbrev qX7_why : MethodName := { cls := "LotSales", name := "why", desc := "(I)I" }
def fX7_why (n : Nat) (a0 : Nat) (a1 : Int32) (σ : zW) : Option ((Int32 ⊕ Nat) × zW) := zck σ 8 a0 (zbx (fX7_needLot n a0 a1 σ) (fun _ σ2 => zgR σ2 8 a0 0 fun x5 => zgR σ2 4 x5 3 fun x6 => zaR σ2 25 x6 a1 fun x7 => zgI σ2 3 x7 9 fun x8 => if x8 = (-1) then zth σ2 fun σ9 => some (.inr 4, σ9) else some (.inl x8, σ2)) (fun e3 σ4 => some (.inr e3, σ4)))
theorem mX7_why (F : zFx E) (n : Nat) (a0 : Nat) (a1 : Int32) (σ : zW) (o : (Int32 ⊕ Nat) × zW) (hf : fX7_why n a0 a1 σ = some o) : zMX E qX7_why (.code qX7_why cX7_why 3 (some .int)) 7 [.inr (.inl a0), .inl a1] σ (zfT o) := by
  refine zMX_of (fin := zfT) F (by decide +kernel) rfl (Nat.le_of_ble_eq_true rfl) (lv0 := [some (.inr (.inl a0)), some (.inl a1), none]) rfl hf rfl (fun K hk he ht => ?_)
  have hk : zk E K "LotSales" cX7_why 3 7 := hk
  unfold fX7_why
  refine z_run hk hX7_why_0 0 2 (pc' := 2) (lv' := [some (.inr (.inl a0)), some (.inl a1), none]) (st' := [.inl a1, .inr (.inl a0)]) rfl ?_
  refine kX7_needLot F hk (z_row hX7_why_0 2 rfl) wd_510 (by decide) (Nat.le_of_ble_eq_true rfl) (fun x1 σ2 => ?_) (fun e3 σ4 => ?_)
  · refine z_run hk hX7_why_0 3 1 (pc' := 6) (lv' := [some (.inr (.inl a0)), some (.inl a1), none]) (st' := [.inr (.inl a0)]) rfl ?_
    refine z_gR hk 0 (z_row hX7_why_0 4 rfl) (ci := 7) rfl rfl wd_268 (fun x5 => ?_)
    refine z_gR hk 3 (z_row hX7_why_0 5 rfl) (ci := 3) rfl rfl wd_167 (fun x6 => ?_)
    refine z_run hk hX7_why_0 6 1 (pc' := 13) (lv' := [some (.inr (.inl a0)), some (.inl a1), none]) (st' := [.inl a1, .inr (.inl x6)]) rfl ?_
    refine z_aR hk (κ := 25) (by decide) (z_row hX7_why_0 7 rfl) (fun x7 => ?_)
    refine z_gI hk 9 (z_row hX7_why_0 8 rfl) (ci := 2) rfl rfl wd_128 (fun x8 => ?_)
    refine z_run hk hX7_why_0 9 3 (pc' := 20) (lv' := [some (.inr (.inl a0)), some (.inl a1), some (.inl x8)]) (st' := [.inl (-1), .inl x8]) rfl ?_
    refine z_cne hk (z_row hX7_why_0 12 rfl) (tgt := 34) rfl ?_ ?_
    · refine z_run hk hX7_why_0 18 1 (pc' := 35) (lv' := [some (.inr (.inl a0)), some (.inl a1), some (.inl x8)]) (st' := [.inl x8]) rfl ?_
      exact z_iret hk he (z_row hX7_why_0 19 rfl) rfl
    · exact z_throw4W hk ht (is := 276) (text := "the lot was not closed") (fun _ => rfl) (fun _ => rfl) wd_917 wd_645 wd_20 (by decide +kernel) (z_row hX7_why_0 13 rfl) (z_row hX7_why_0 14 rfl) (z_row hX7_why_0 15 rfl) (z_row hX7_why_0 16 rfl) (z_row hX7_why_0 17 rfl) (by decide) (Nat.le_of_ble_eq_true rfl)
  · exact z_out hk ht rfl
theorem kX7_why {n : Nat} {own : String} {cc : ByteArray} {nL h index : Nat} {α : Type} {fin : α → zO} {σ : zW} {pc : Nat} {lv : zLV} {st : List zV} {a0 : Nat} {a1 : Int32} {c : Int32 → zW → Option α} {t : Nat → zW → Option α} (F : zFx E) (hk : zk E K own cc nL h) (hd : decode cc pc = .ok (.invokevirtual index, 3)) (hl : Cond.methodLink own index qX7_why ∈ lw_tbl) (hh : 7 + 1 ≤ h) (hs : zcat st ≤ 8) (k : ∀ v s, zG E K fin (c v s) s (pc + 3) lv (.inl v :: st)) (kt : ∀ kx s, zT E K fin (t kx s) kx s pc lv) : zG E K fin (zck σ 8 a0 (zbx (fX7_why n a0 a1 σ) c t)) σ pc lv (.inl a1 :: .inr (.inl a0) :: st) :=
  z_vT (n := 1) (y := qX7_why) (As := [.inl a1]) hk hd hl wd_914 wd_915 wd_1 wd_916 ⟨by decide, by decide, by decide +kernel⟩ ⟨hh, by decide⟩ (ci := 7) rfl rfl rfl (fun o ho => mX7_why F n a0 a1 σ o ho) hs k kt
abbrev qX7_sold : MethodName := { cls := "LotSales", name := "sold", desc := "(IZ)I" }
def sX7_sold_49 (n : Nat) (y0 : Int32) (σ : zW) : Option ((Int32 ⊕ Nat) × zW) := some (.inl y0, σ)
def fX7_sold (n : Nat) (a0 : Nat) (a1 : Int32) (a2 : Int32) (σ : zW) : Option ((Int32 ⊕ Nat) × zW) := zck σ 8 a0 (zbx (fX7_needLot n a0 a1 σ) (fun _ σ2 => zgR σ2 8 a0 0 fun x5 => zgR σ2 4 x5 3 fun x6 => zaR σ2 25 x6 a1 fun x7 => zgI σ2 3 x7 4 fun x8 => if x8 = 2 then if a2 = 0 then zgI σ2 3 x7 10 fun x9 => sX7_sold_49 n x9 σ2 else zgI σ2 3 x7 11 fun x10 => sX7_sold_49 n x10 σ2 else zth σ2 fun σ11 => some (.inr 4, σ11)) (fun e3 σ4 => some (.inr e3, σ4)))
theorem gsX7_sold_49 (F : zFx E) (n : Nat) (hk : zk E K "LotSales" cX7_sold 4 7) (he : zend E K (some .int) "sold") (ht : zthr E K) (y0 : Int32) (σ : zW) : zG E K zfT (sX7_sold_49 n y0 σ) σ 49 [none, none, none, none] [.inl y0] := by
  unfold sX7_sold_49
  exact z_iret hk he (z_row hX7_sold_0 25 rfl) rfl
theorem mX7_sold (F : zFx E) (n : Nat) (a0 : Nat) (a1 : Int32) (a2 : Int32) (σ : zW) (o : (Int32 ⊕ Nat) × zW) (hf : fX7_sold n a0 a1 a2 σ = some o) : zMX E qX7_sold (.code qX7_sold cX7_sold 4 (some .int)) 7 [.inr (.inl a0), .inl a1, .inl a2] σ (zfT o) := by
  refine zMX_of (fin := zfT) F (by decide +kernel) rfl (Nat.le_of_ble_eq_true rfl) (lv0 := [some (.inr (.inl a0)), some (.inl a1), some (.inl a2), none]) rfl hf rfl (fun K hk he ht => ?_)
  have hk : zk E K "LotSales" cX7_sold 4 7 := hk
  unfold fX7_sold
  refine z_run hk hX7_sold_0 0 2 (pc' := 2) (lv' := [some (.inr (.inl a0)), some (.inl a1), some (.inl a2), none]) (st' := [.inl a1, .inr (.inl a0)]) rfl ?_
  refine kX7_needLot F hk (z_row hX7_sold_0 2 rfl) wd_510 (by decide) (Nat.le_of_ble_eq_true rfl) (fun x1 σ2 => ?_) (fun e3 σ4 => ?_)
  · refine z_run hk hX7_sold_0 3 1 (pc' := 6) (lv' := [some (.inr (.inl a0)), some (.inl a1), some (.inl a2), none]) (st' := [.inr (.inl a0)]) rfl ?_
    refine z_gR hk 0 (z_row hX7_sold_0 4 rfl) (ci := 7) rfl rfl wd_268 (fun x5 => ?_)
    refine z_gR hk 3 (z_row hX7_sold_0 5 rfl) (ci := 3) rfl rfl wd_167 (fun x6 => ?_)
    refine z_run hk hX7_sold_0 6 1 (pc' := 13) (lv' := [some (.inr (.inl a0)), some (.inl a1), some (.inl a2), none]) (st' := [.inl a1, .inr (.inl x6)]) rfl ?_
    refine z_aR hk (κ := 25) (by decide) (z_row hX7_sold_0 7 rfl) (fun x7 => ?_)
    refine z_run hk hX7_sold_0 8 2 (pc' := 16) (lv' := [some (.inr (.inl a0)), some (.inl a1), some (.inl a2), some (.inr (.inl x7))]) (st' := [.inr (.inl x7)]) rfl ?_
    refine z_gI hk 4 (z_row hX7_sold_0 10 rfl) (ci := 2) rfl rfl wd_113 (fun x8 => ?_)
    refine z_run hk hX7_sold_0 11 1 (pc' := 20) (lv' := [some (.inr (.inl a0)), some (.inl a1), some (.inl a2), some (.inr (.inl x7))]) (st' := [.inl 2, .inl x8]) rfl ?_
    refine z_ceq hk (z_row hX7_sold_0 12 rfl) (tgt := 34) rfl ?_ ?_
    · refine z_run hk hX7_sold_0 18 1 (pc' := 35) (lv' := [some (.inr (.inl a0)), some (.inl a1), some (.inl a2), some (.inr (.inl x7))]) (st' := [.inl a2]) rfl ?_
      refine z_eq hk (z_row hX7_sold_0 19 rfl) (tgt := 45) rfl ?_ ?_
      · refine z_run hk hX7_sold_0 23 1 (pc' := 46) (lv' := [some (.inr (.inl a0)), some (.inl a1), some (.inl a2), some (.inr (.inl x7))]) (st' := [.inr (.inl x7)]) rfl ?_
        refine z_gI hk 10 (z_row hX7_sold_0 24 rfl) (ci := 2) rfl rfl wd_131 (fun x9 => ?_)
        refine z_mask [false, false, false, false] rfl ?_
        exact gsX7_sold_49 F n hk he ht x9 σ2
      · refine z_run hk hX7_sold_0 20 1 (pc' := 39) (lv' := [some (.inr (.inl a0)), some (.inl a1), some (.inl a2), some (.inr (.inl x7))]) (st' := [.inr (.inl x7)]) rfl ?_
        refine z_gI hk 11 (z_row hX7_sold_0 21 rfl) (ci := 2) rfl rfl wd_134 (fun x10 => ?_)
        refine z_goto hk (z_row hX7_sold_0 22 rfl) (tgt := 49) rfl ?_
        refine z_mask [false, false, false, false] rfl ?_
        exact gsX7_sold_49 F n hk he ht x10 σ2
    · exact z_throw4W hk ht (is := 278) (text := "the lot is not sold") (fun _ => rfl) (fun _ => rfl) wd_925 wd_645 wd_20 (by decide +kernel) (z_row hX7_sold_0 13 rfl) (z_row hX7_sold_0 14 rfl) (z_row hX7_sold_0 15 rfl) (z_row hX7_sold_0 16 rfl) (z_row hX7_sold_0 17 rfl) (by decide) (Nat.le_of_ble_eq_true rfl)
  · exact z_out hk ht rfl
theorem kX7_sold {n : Nat} {own : String} {cc : ByteArray} {nL h index : Nat} {α : Type} {fin : α → zO} {σ : zW} {pc : Nat} {lv : zLV} {st : List zV} {a0 : Nat} {a1 : Int32} {a2 : Int32} {c : Int32 → zW → Option α} {t : Nat → zW → Option α} (F : zFx E) (hk : zk E K own cc nL h) (hd : decode cc pc = .ok (.invokevirtual index, 3)) (hl : Cond.methodLink own index qX7_sold ∈ lw_tbl) (hh : 7 + 1 ≤ h) (hs : zcat st ≤ 8) (k : ∀ v s, zG E K fin (c v s) s (pc + 3) lv (.inl v :: st)) (kt : ∀ kx s, zT E K fin (t kx s) kx s pc lv) : zG E K fin (zck σ 8 a0 (zbx (fX7_sold n a0 a1 a2 σ) c t)) σ pc lv (.inl a2 :: .inl a1 :: .inr (.inl a0) :: st) :=
  z_vT (n := 2) (y := qX7_sold) (As := [.inl a1, .inl a2]) hk hd hl wd_922 wd_923 wd_1 wd_924 ⟨by decide, by decide, by decide +kernel⟩ ⟨hh, by decide⟩ (ci := 7) rfl rfl rfl (fun o ho => mX7_sold F n a0 a1 a2 σ o ho) hs k kt
abbrev qX7_premium : MethodName := { cls := "LotSales", name := "premium", desc := "(I)I" }
def fX7_premium (n : Nat) (a0 : Nat) (a1 : Int32) (σ : zW) : Option ((Int32 ⊕ Nat) × zW) := zbx (fX7_needWithin n a1 0 99999 σ) (fun _ σ2 => zb (fX7_premiumOf n a1 σ2) fun x5 => some (.inl x5, σ2)) (fun e3 σ4 => some (.inr e3, σ4))
theorem mX7_premium (F : zFx E) (n : Nat) (a0 : Nat) (a1 : Int32) (σ : zW) (o : (Int32 ⊕ Nat) × zW) (hf : fX7_premium n a0 a1 σ = some o) : zMX E qX7_premium (.code qX7_premium cX7_premium 2 (some .int)) 7 [.inr (.inl a0), .inl a1] σ (zfT o) := by
  refine zMX_of (fin := zfT) F (by decide +kernel) rfl (Nat.le_of_ble_eq_true rfl) (lv0 := [some (.inr (.inl a0)), some (.inl a1)]) rfl hf rfl (fun K hk he ht => ?_)
  have hk : zk E K "LotSales" cX7_premium 2 7 := hk
  unfold fX7_premium
  refine z_run hk hX7_premium_0 0 2 (pc' := 2) (lv' := [some (.inr (.inl a0)), some (.inl a1)]) (st' := [.inl 0, .inl a1]) rfl ?_
  refine z_ldc hk (z_row hX7_premium_0 2 rfl) wd_572 ?_
  refine kX7_needWithin F hk (z_row hX7_premium_0 3 rfl) wd_350 (by decide) (Nat.le_of_ble_eq_true rfl) (fun x1 σ2 => ?_) (fun e3 σ4 => ?_)
  · refine z_run hk hX7_premium_0 4 1 (pc' := 8) (lv' := [some (.inr (.inl a0)), some (.inl a1)]) (st' := [.inl a1]) rfl ?_
    refine kX7_premiumOf F hk (z_row hX7_premium_0 5 rfl) wd_933 (by decide) (Nat.le_of_ble_eq_true rfl) (fun x5 => ?_)
    exact z_iret hk he (z_row hX7_premium_0 6 rfl) rfl
  · exact z_out hk ht rfl
theorem kX7_premium {n : Nat} {own : String} {cc : ByteArray} {nL h index : Nat} {α : Type} {fin : α → zO} {σ : zW} {pc : Nat} {lv : zLV} {st : List zV} {a0 : Nat} {a1 : Int32} {c : Int32 → zW → Option α} {t : Nat → zW → Option α} (F : zFx E) (hk : zk E K own cc nL h) (hd : decode cc pc = .ok (.invokevirtual index, 3)) (hl : Cond.methodLink own index qX7_premium ∈ lw_tbl) (hh : 7 + 1 ≤ h) (hs : zcat st ≤ 8) (k : ∀ v s, zG E K fin (c v s) s (pc + 3) lv (.inl v :: st)) (kt : ∀ kx s, zT E K fin (t kx s) kx s pc lv) : zG E K fin (zck σ 8 a0 (zbx (fX7_premium n a0 a1 σ) c t)) σ pc lv (.inl a1 :: .inr (.inl a0) :: st) :=
  z_vT (n := 1) (y := qX7_premium) (As := [.inl a1]) hk hd hl wd_930 wd_931 wd_1 wd_932 ⟨by decide, by decide, by decide +kernel⟩ ⟨hh, by decide⟩ (ci := 7) rfl rfl rfl (fun o ho => mX7_premium F n a0 a1 σ o ho) hs k kt
abbrev qX7_leadsOf : MethodName := { cls := "LotSales", name := "leadsOf", desc := "(I)I" }
def sX7_leadsOf_68 (n : Nat) (r4 : Nat → Int32 → Int32 → Int32 → zW → Option (Int32 × zW)) (v0 : Nat) (v1 : Int32) (v2 : Int32) (v3 : Int32) (σ : zW) : Option (Int32 × zW) := r4 v0 v1 v2 (v3 + 1) σ
def sX7_leadsOf_4 (n : Nat) : Nat → Nat → Int32 → Int32 → Int32 → zW → Option (Int32 × zW)
  | 0, _, _, _, _, _ => none
  | k + 1, v0, v1, v2, v3, σ => zgR σ 8 v0 0 fun x1 => zgI σ 4 x1 5 fun x2 => if v3 < x2 then zgR σ 8 v0 0 fun x3 => zgR σ 4 x3 3 fun x4 => zaR σ 25 x4 v3 fun x5 => zgI σ 3 x5 4 fun x6 => if x6 = 1 then zgR σ 8 v0 1 fun x7 => zgR σ 8 v0 0 fun x8 => zgR σ 4 x8 0 fun x9 => zck σ 5 x7 (zb (fX4_settle n x7 x5 x9 σ) fun σ10 => zgR σ10 8 v0 1 fun x11 => zgI σ10 5 x11 3 fun x12 => if x12 = v1 then sX7_leadsOf_68 n (sX7_leadsOf_4 n k) v0 v1 (v2 + 1) v3 σ10 else sX7_leadsOf_68 n (sX7_leadsOf_4 n k) v0 v1 v2 v3 σ10) else sX7_leadsOf_68 n (sX7_leadsOf_4 n k) v0 v1 v2 v3 σ else some (v2, σ)
def fX7_leadsOf (n : Nat) (a0 : Nat) (a1 : Int32) (σ : zW) : Option (Int32 × zW) := sX7_leadsOf_4 n n a0 a1 0 0 σ
theorem gsX7_leadsOf_68 (F : zFx E) (n : Nat) (hk : zk E K "LotSales" cX7_leadsOf 5 3) (he : zend E K (some .int) "leadsOf") (r4 : Nat → Int32 → Int32 → Int32 → zW → Option (Int32 × zW)) (hr4 : ∀ (v0 : Nat) (v1 : Int32) (v2 : Int32) (v3 : Int32) (σ : zW), zG E K zfW (r4 v0 v1 v2 v3 σ) σ 4 [some (.inr (.inl v0)), some (.inl v1), some (.inl v2), some (.inl v3), none] []) (v0 : Nat) (v1 : Int32) (v2 : Int32) (v3 : Int32) (σ : zW) : zG E K zfW (sX7_leadsOf_68 n r4 v0 v1 v2 v3 σ) σ 68 [some (.inr (.inl v0)), some (.inl v1), some (.inl v2), some (.inl v3), none] [] := by
  unfold sX7_leadsOf_68
  refine z_run hk hX7_leadsOf_0 33 1 (pc' := 71) (lv' := [some (.inr (.inl v0)), some (.inl v1), some (.inl v2), some (.inl (v3 + 1)), none]) (st' := []) rfl ?_
  refine z_goto hk (z_row hX7_leadsOf_0 34 rfl) (tgt := 4) rfl ?_
  exact hr4 v0 v1 v2 (v3 + 1) σ
theorem gsX7_leadsOf_4 (F : zFx E) (n : Nat) (hk : zk E K "LotSales" cX7_leadsOf 5 3) (he : zend E K (some .int) "leadsOf") : ∀ (k : Nat) (v0 : Nat) (v1 : Int32) (v2 : Int32) (v3 : Int32) (σ : zW), zG E K zfW (sX7_leadsOf_4 n k v0 v1 v2 v3 σ) σ 4 [some (.inr (.inl v0)), some (.inl v1), some (.inl v2), some (.inl v3), none] [] := by
  intro k
  induction k with
  | zero =>
    intro v0 v1 v2 v3 σ
    intro hX
    exact z_none hX
  | succ k ih =>
    intro v0 v1 v2 v3 σ
    rw [sX7_leadsOf_4]
    refine z_run hk hX7_leadsOf_0 4 2 (pc' := 6) (lv' := [some (.inr (.inl v0)), some (.inl v1), some (.inl v2), some (.inl v3), none]) (st' := [.inr (.inl v0), .inl v3]) rfl ?_
    refine z_gR hk 0 (z_row hX7_leadsOf_0 6 rfl) (ci := 7) rfl rfl wd_268 (fun x1 => ?_)
    refine z_gI hk 5 (z_row hX7_leadsOf_0 7 rfl) (ci := 3) rfl rfl wd_171 (fun x2 => ?_)
    refine z_cge hk (z_row hX7_leadsOf_0 8 rfl) (tgt := 74) rfl ?_ ?_
    · refine z_run hk hX7_leadsOf_0 35 1 (pc' := 75) (lv' := [some (.inr (.inl v0)), some (.inl v1), some (.inl v2), some (.inl v3), none]) (st' := [.inl v2]) rfl ?_
      exact z_iret hk he (z_row hX7_leadsOf_0 36 rfl) rfl
    · refine z_run hk hX7_leadsOf_0 9 1 (pc' := 16) (lv' := [some (.inr (.inl v0)), some (.inl v1), some (.inl v2), some (.inl v3), none]) (st' := [.inr (.inl v0)]) rfl ?_
      refine z_gR hk 0 (z_row hX7_leadsOf_0 10 rfl) (ci := 7) rfl rfl wd_268 (fun x3 => ?_)
      refine z_gR hk 3 (z_row hX7_leadsOf_0 11 rfl) (ci := 3) rfl rfl wd_167 (fun x4 => ?_)
      refine z_run hk hX7_leadsOf_0 12 1 (pc' := 23) (lv' := [some (.inr (.inl v0)), some (.inl v1), some (.inl v2), some (.inl v3), none]) (st' := [.inl v3, .inr (.inl x4)]) rfl ?_
      refine z_aR hk (κ := 25) (by decide) (z_row hX7_leadsOf_0 13 rfl) (fun x5 => ?_)
      refine z_run hk hX7_leadsOf_0 14 2 (pc' := 28) (lv' := [some (.inr (.inl v0)), some (.inl v1), some (.inl v2), some (.inl v3), some (.inr (.inl x5))]) (st' := [.inr (.inl x5)]) rfl ?_
      refine z_gI hk 4 (z_row hX7_leadsOf_0 16 rfl) (ci := 2) rfl rfl wd_113 (fun x6 => ?_)
      refine z_run hk hX7_leadsOf_0 17 1 (pc' := 32) (lv' := [some (.inr (.inl v0)), some (.inl v1), some (.inl v2), some (.inl v3), some (.inr (.inl x5))]) (st' := [.inl 1, .inl x6]) rfl ?_
      refine z_ceq hk (z_row hX7_leadsOf_0 18 rfl) (tgt := 38) rfl ?_ ?_
      · refine z_run hk hX7_leadsOf_0 20 1 (pc' := 39) (lv' := [some (.inr (.inl v0)), some (.inl v1), some (.inl v2), some (.inl v3), some (.inr (.inl x5))]) (st' := [.inr (.inl v0)]) rfl ?_
        refine z_gR hk 1 (z_row hX7_leadsOf_0 21 rfl) (ci := 7) rfl rfl wd_269 (fun x7 => ?_)
        refine z_run hk hX7_leadsOf_0 22 2 (pc' := 45) (lv' := [some (.inr (.inl v0)), some (.inl v1), some (.inl v2), some (.inl v3), some (.inr (.inl x5))]) (st' := [.inr (.inl v0), .inr (.inl x5), .inr (.inl x7)]) rfl ?_
        refine z_gR hk 0 (z_row hX7_leadsOf_0 24 rfl) (ci := 7) rfl rfl wd_268 (fun x8 => ?_)
        refine z_gR hk 0 (z_row hX7_leadsOf_0 25 rfl) (ci := 3) rfl rfl wd_161 (fun x9 => ?_)
        refine kX4_settle F hk (z_row hX7_leadsOf_0 26 rfl) wd_716 (by decide) (Nat.le_of_ble_eq_true rfl) (fun σ10 => ?_)
        refine z_run hk hX7_leadsOf_0 27 1 (pc' := 55) (lv' := [some (.inr (.inl v0)), some (.inl v1), some (.inl v2), some (.inl v3), some (.inr (.inl x5))]) (st' := [.inr (.inl v0)]) rfl ?_
        refine z_gR hk 1 (z_row hX7_leadsOf_0 28 rfl) (ci := 7) rfl rfl wd_269 (fun x11 => ?_)
        refine z_gI hk 3 (z_row hX7_leadsOf_0 29 rfl) (ci := 4) rfl rfl wd_201 (fun x12 => ?_)
        refine z_run hk hX7_leadsOf_0 30 1 (pc' := 62) (lv' := [some (.inr (.inl v0)), some (.inl v1), some (.inl v2), some (.inl v3), some (.inr (.inl x5))]) (st' := [.inl v1, .inl x12]) rfl ?_
        refine z_cne hk (z_row hX7_leadsOf_0 31 rfl) (tgt := 68) rfl ?_ ?_
        · refine z_mask [true, true, true, true, false] rfl ?_
          exact gsX7_leadsOf_68 F n hk he (sX7_leadsOf_4 n k) ih v0 v1 v2 v3 σ10
        · refine z_run hk hX7_leadsOf_0 32 1 (pc' := 68) (lv' := [some (.inr (.inl v0)), some (.inl v1), some (.inl (v2 + 1)), some (.inl v3), some (.inr (.inl x5))]) (st' := []) rfl ?_
          refine z_mask [true, true, true, true, false] rfl ?_
          exact gsX7_leadsOf_68 F n hk he (sX7_leadsOf_4 n k) ih v0 v1 (v2 + 1) v3 σ10
      · refine z_goto hk (z_row hX7_leadsOf_0 19 rfl) (tgt := 68) rfl ?_
        refine z_mask [true, true, true, true, false] rfl ?_
        exact gsX7_leadsOf_68 F n hk he (sX7_leadsOf_4 n k) ih v0 v1 v2 v3 σ
theorem mX7_leadsOf (F : zFx E) (n : Nat) (a0 : Nat) (a1 : Int32) (σ : zW) (o : Int32 × zW) (hf : fX7_leadsOf n a0 a1 σ = some o) : zM E qX7_leadsOf cX7_leadsOf 5 (some .int) 3 [.inr (.inl a0), .inl a1] σ (some (.int o.1)) o.2 := by
  refine zM_of (fin := zfW) F (by decide +kernel) rfl (Nat.le_of_ble_eq_true rfl) (lv0 := [some (.inr (.inl a0)), some (.inl a1), none, none, none]) rfl hf rfl (fun K hk he => ?_)
  have hk : zk E K "LotSales" cX7_leadsOf 5 3 := hk
  unfold fX7_leadsOf
  refine z_run hk hX7_leadsOf_0 0 4 (pc' := 4) (lv' := [some (.inr (.inl a0)), some (.inl a1), some (.inl 0), some (.inl 0), none]) (st' := []) rfl ?_
  exact gsX7_leadsOf_4 F n hk he n a0 a1 0 0 σ
theorem kX7_leadsOf {n : Nat} {own : String} {cc : ByteArray} {nL h index : Nat} {α : Type} {fin : α → zO} {σ : zW} {pc : Nat} {lv : zLV} {st : List zV} {a0 : Nat} {a1 : Int32} {c : Int32 → zW → Option α} (F : zFx E) (hk : zk E K own cc nL h) (hd : decode cc pc = .ok (.invokevirtual index, 3)) (hl : Cond.methodLink own index qX7_leadsOf ∈ lw_tbl) (hh : 3 + 1 ≤ h) (hs : zcat st ≤ 8) (k : ∀ v s, zG E K fin (c v s) s (pc + 3) lv (.inl v :: st)) : zG E K fin (zck σ 8 a0 (zb2 (fX7_leadsOf n a0 a1 σ) c)) σ pc lv (.inl a1 :: .inr (.inl a0) :: st) :=
  z_vW (n := 1) (y := qX7_leadsOf) (As := [.inl a1]) hk hd hl wd_955 ws_13 wd_1 wd_956 ⟨by decide, by decide, by decide +kernel⟩ ⟨hh, by decide⟩ (ci := 7) rfl rfl rfl (fun o ho => mX7_leadsOf F n a0 a1 σ o ho) hs k
abbrev qX7_bidder : MethodName := { cls := "LotSales", name := "bidder", desc := "(II)I" }
def fX7_bidder (n : Nat) (a0 : Nat) (a1 : Int32) (a2 : Int32) (σ : zW) : Option ((Int32 ⊕ Nat) × zW) := zbx (fX7_needBidder n a1 σ) (fun _ σ2 => zbx (fX7_needWithin n a2 0 6 σ2) (fun _ σ6 => if a2 = 0 then zgR σ6 8 a0 0 fun x9 => zgR σ6 4 x9 1 fun x10 => zaI σ6 x10 a1 fun x11 => some (.inl x11, σ6) else if a2 = 1 then zgR σ6 8 a0 0 fun x12 => zck σ6 4 x12 (zb (fX3_pricesTo n x12 a1 σ6) fun x13 => some (.inl x13, σ6)) else if a2 = 2 then zgR σ6 8 a0 0 fun x14 => zck σ6 4 x14 (zb (fX3_premiumsOf n x14 a1 σ6) fun x15 => some (.inl x15, σ6)) else if a2 = 3 then zgR σ6 8 a0 0 fun x16 => zck σ6 4 x16 (zb (fX3_pricesTo n x16 a1 σ6) fun x17 => zgR σ6 8 a0 0 fun x18 => zck σ6 4 x18 (zb (fX3_premiumsOf n x18 a1 σ6) fun x19 => some (.inl (x17 + x19), σ6))) else if a2 = 4 then zgR σ6 8 a0 0 fun x20 => zck σ6 4 x20 (zb (fX3_lotsTo n x20 a1 σ6) fun x21 => some (.inl x21, σ6)) else if a2 = 5 then zck σ6 8 a0 (zb2 (fX7_exposureOf n a0 a1 σ6) fun x22 σ23 => some (.inl x22, σ23)) else zck σ6 8 a0 (zb2 (fX7_leadsOf n a0 a1 σ6) fun x24 σ25 => some (.inl x24, σ25))) (fun e7 σ8 => some (.inr e7, σ8))) (fun e3 σ4 => some (.inr e3, σ4))
theorem mX7_bidder (F : zFx E) (n : Nat) (a0 : Nat) (a1 : Int32) (a2 : Int32) (σ : zW) (o : (Int32 ⊕ Nat) × zW) (hf : fX7_bidder n a0 a1 a2 σ = some o) : zMX E qX7_bidder (.code qX7_bidder cX7_bidder 3 (some .int)) 7 [.inr (.inl a0), .inl a1, .inl a2] σ (zfT o) := by
  refine zMX_of (fin := zfT) F (by decide +kernel) rfl (Nat.le_of_ble_eq_true rfl) (lv0 := [some (.inr (.inl a0)), some (.inl a1), some (.inl a2)]) rfl hf rfl (fun K hk he ht => ?_)
  have hk : zk E K "LotSales" cX7_bidder 3 7 := hk
  unfold fX7_bidder
  refine z_run hk hX7_bidder_0 0 1 (pc' := 1) (lv' := [some (.inr (.inl a0)), some (.inl a1), some (.inl a2)]) (st' := [.inl a1]) rfl ?_
  refine kX7_needBidder F hk (z_row hX7_bidder_0 1 rfl) wd_599 (by decide) (Nat.le_of_ble_eq_true rfl) (fun x1 σ2 => ?_) (fun e3 σ4 => ?_)
  · refine z_run hk hX7_bidder_0 2 3 (pc' := 8) (lv' := [some (.inr (.inl a0)), some (.inl a1), some (.inl a2)]) (st' := [.inl 6, .inl 0, .inl a2]) rfl ?_
    refine kX7_needWithin F hk (z_row hX7_bidder_0 5 rfl) wd_350 (by decide) (Nat.le_of_ble_eq_true rfl) (fun x5 σ6 => ?_) (fun e7 σ8 => ?_)
    · refine z_run hk hX7_bidder_0 6 1 (pc' := 12) (lv' := [some (.inr (.inl a0)), some (.inl a1), some (.inl a2)]) (st' := [.inl a2]) rfl ?_
      refine z_tabI hk (z_row hX7_bidder_0 7 rfl) (c := 0) (tgt := 52) (by decide) (by decide) rfl rfl ?_ (fun hn0 => ?_)
      · refine z_run hk hX7_bidder_0 8 1 (pc' := 53) (lv' := [some (.inr (.inl a0)), some (.inl a1), some (.inl a2)]) (st' := [.inr (.inl a0)]) rfl ?_
        refine z_gR hk 0 (z_row hX7_bidder_0 9 rfl) (ci := 7) rfl rfl wd_268 (fun x9 => ?_)
        refine z_gR hk 1 (z_row hX7_bidder_0 10 rfl) (ci := 3) rfl rfl wd_163 (fun x10 => ?_)
        refine z_run hk hX7_bidder_0 11 1 (pc' := 60) (lv' := [some (.inr (.inl a0)), some (.inl a1), some (.inl a2)]) (st' := [.inl a1, .inr (.inl x10)]) rfl ?_
        refine z_aI hk (z_row hX7_bidder_0 12 rfl) (fun x11 => ?_)
        exact z_iret hk he (z_row hX7_bidder_0 13 rfl) rfl
      refine z_tabI hk (z_row hX7_bidder_0 7 rfl) (c := 1) (tgt := 62) (by decide) (by decide) rfl rfl ?_ (fun hn1 => ?_)
      · refine z_run hk hX7_bidder_0 14 1 (pc' := 63) (lv' := [some (.inr (.inl a0)), some (.inl a1), some (.inl a2)]) (st' := [.inr (.inl a0)]) rfl ?_
        refine z_gR hk 0 (z_row hX7_bidder_0 15 rfl) (ci := 7) rfl rfl wd_268 (fun x12 => ?_)
        refine z_run hk hX7_bidder_0 16 1 (pc' := 67) (lv' := [some (.inr (.inl a0)), some (.inl a1), some (.inl a2)]) (st' := [.inl a1, .inr (.inl x12)]) rfl ?_
        refine kX3_pricesTo F hk (z_row hX7_bidder_0 17 rfl) wd_298 (by decide) (Nat.le_of_ble_eq_true rfl) (fun x13 => ?_)
        exact z_iret hk he (z_row hX7_bidder_0 18 rfl) rfl
      refine z_tabI hk (z_row hX7_bidder_0 7 rfl) (c := 2) (tgt := 71) (by decide) (by decide) rfl rfl ?_ (fun hn2 => ?_)
      · refine z_run hk hX7_bidder_0 19 1 (pc' := 72) (lv' := [some (.inr (.inl a0)), some (.inl a1), some (.inl a2)]) (st' := [.inr (.inl a0)]) rfl ?_
        refine z_gR hk 0 (z_row hX7_bidder_0 20 rfl) (ci := 7) rfl rfl wd_268 (fun x14 => ?_)
        refine z_run hk hX7_bidder_0 21 1 (pc' := 76) (lv' := [some (.inr (.inl a0)), some (.inl a1), some (.inl a2)]) (st' := [.inl a1, .inr (.inl x14)]) rfl ?_
        refine kX3_premiumsOf F hk (z_row hX7_bidder_0 22 rfl) wd_944 (by decide) (Nat.le_of_ble_eq_true rfl) (fun x15 => ?_)
        exact z_iret hk he (z_row hX7_bidder_0 23 rfl) rfl
      refine z_tabI hk (z_row hX7_bidder_0 7 rfl) (c := 3) (tgt := 80) (by decide) (by decide) rfl rfl ?_ (fun hn3 => ?_)
      · refine z_run hk hX7_bidder_0 24 1 (pc' := 81) (lv' := [some (.inr (.inl a0)), some (.inl a1), some (.inl a2)]) (st' := [.inr (.inl a0)]) rfl ?_
        refine z_gR hk 0 (z_row hX7_bidder_0 25 rfl) (ci := 7) rfl rfl wd_268 (fun x16 => ?_)
        refine z_run hk hX7_bidder_0 26 1 (pc' := 85) (lv' := [some (.inr (.inl a0)), some (.inl a1), some (.inl a2)]) (st' := [.inl a1, .inr (.inl x16)]) rfl ?_
        refine kX3_pricesTo F hk (z_row hX7_bidder_0 27 rfl) wd_298 (by decide) (Nat.le_of_ble_eq_true rfl) (fun x17 => ?_)
        refine z_run hk hX7_bidder_0 28 1 (pc' := 89) (lv' := [some (.inr (.inl a0)), some (.inl a1), some (.inl a2)]) (st' := [.inr (.inl a0), .inl x17]) rfl ?_
        refine z_gR hk 0 (z_row hX7_bidder_0 29 rfl) (ci := 7) rfl rfl wd_268 (fun x18 => ?_)
        refine z_run hk hX7_bidder_0 30 1 (pc' := 93) (lv' := [some (.inr (.inl a0)), some (.inl a1), some (.inl a2)]) (st' := [.inl a1, .inr (.inl x18), .inl x17]) rfl ?_
        refine kX3_premiumsOf F hk (z_row hX7_bidder_0 31 rfl) wd_944 (by decide) (Nat.le_of_ble_eq_true rfl) (fun x19 => ?_)
        refine z_run hk hX7_bidder_0 32 1 (pc' := 97) (lv' := [some (.inr (.inl a0)), some (.inl a1), some (.inl a2)]) (st' := [.inl (x17 + x19)]) rfl ?_
        exact z_iret hk he (z_row hX7_bidder_0 33 rfl) rfl
      refine z_tabI hk (z_row hX7_bidder_0 7 rfl) (c := 4) (tgt := 98) (by decide) (by decide) rfl rfl ?_ (fun hn4 => ?_)
      · refine z_run hk hX7_bidder_0 34 1 (pc' := 99) (lv' := [some (.inr (.inl a0)), some (.inl a1), some (.inl a2)]) (st' := [.inr (.inl a0)]) rfl ?_
        refine z_gR hk 0 (z_row hX7_bidder_0 35 rfl) (ci := 7) rfl rfl wd_268 (fun x20 => ?_)
        refine z_run hk hX7_bidder_0 36 1 (pc' := 103) (lv' := [some (.inr (.inl a0)), some (.inl a1), some (.inl a2)]) (st' := [.inl a1, .inr (.inl x20)]) rfl ?_
        refine kX3_lotsTo F hk (z_row hX7_bidder_0 37 rfl) wd_949 (by decide) (Nat.le_of_ble_eq_true rfl) (fun x21 => ?_)
        exact z_iret hk he (z_row hX7_bidder_0 38 rfl) rfl
      refine z_tabI hk (z_row hX7_bidder_0 7 rfl) (c := 5) (tgt := 107) (by decide) (by decide) rfl rfl ?_ (fun hn5 => ?_)
      · refine z_run hk hX7_bidder_0 39 2 (pc' := 109) (lv' := [some (.inr (.inl a0)), some (.inl a1), some (.inl a2)]) (st' := [.inl a1, .inr (.inl a0)]) rfl ?_
        refine kX7_exposureOf F hk (z_row hX7_bidder_0 41 rfl) wd_755 (by decide) (Nat.le_of_ble_eq_true rfl) (fun x22 σ23 => ?_)
        exact z_iret hk he (z_row hX7_bidder_0 42 rfl) rfl
      have hi0 := z_ne_toInt hn0 (n := 0) (by decide)
      have hi1 := z_ne_toInt hn1 (n := 1) (by decide)
      have hi2 := z_ne_toInt hn2 (n := 2) (by decide)
      have hi3 := z_ne_toInt hn3 (n := 3) (by decide)
      have hi4 := z_ne_toInt hn4 (n := 4) (by decide)
      have hi5 := z_ne_toInt hn5 (n := 5) (by decide)
      refine z_tabO hk (z_row hX7_bidder_0 7 rfl) (tgt := 113) (by omega) rfl ?_
      refine z_run hk hX7_bidder_0 43 2 (pc' := 115) (lv' := [some (.inr (.inl a0)), some (.inl a1), some (.inl a2)]) (st' := [.inl a1, .inr (.inl a0)]) rfl ?_
      refine kX7_leadsOf F hk (z_row hX7_bidder_0 45 rfl) wd_953 (by decide) (Nat.le_of_ble_eq_true rfl) (fun x24 σ25 => ?_)
      exact z_iret hk he (z_row hX7_bidder_0 46 rfl) rfl
    · exact z_out hk ht rfl
  · exact z_out hk ht rfl
theorem kX7_bidder {n : Nat} {own : String} {cc : ByteArray} {nL h index : Nat} {α : Type} {fin : α → zO} {σ : zW} {pc : Nat} {lv : zLV} {st : List zV} {a0 : Nat} {a1 : Int32} {a2 : Int32} {c : Int32 → zW → Option α} {t : Nat → zW → Option α} (F : zFx E) (hk : zk E K own cc nL h) (hd : decode cc pc = .ok (.invokevirtual index, 3)) (hl : Cond.methodLink own index qX7_bidder ∈ lw_tbl) (hh : 7 + 1 ≤ h) (hs : zcat st ≤ 8) (k : ∀ v s, zG E K fin (c v s) s (pc + 3) lv (.inl v :: st)) (kt : ∀ kx s, zT E K fin (t kx s) kx s pc lv) : zG E K fin (zck σ 8 a0 (zbx (fX7_bidder n a0 a1 a2 σ) c t)) σ pc lv (.inl a2 :: .inl a1 :: .inr (.inl a0) :: st) :=
  z_vT (n := 2) (y := qX7_bidder) (As := [.inl a1, .inl a2]) hk hd hl wd_941 wd_942 wd_1 wd_943 ⟨by decide, by decide, by decide +kernel⟩ ⟨hh, by decide⟩ (ci := 7) rfl rfl rfl (fun o ho => mX7_bidder F n a0 a1 a2 σ o ho) hs k kt
abbrev qX7_seller : MethodName := { cls := "LotSales", name := "seller", desc := "(II)I" }
def sX7_seller_10 (n : Nat) (σ : zW) : Option ((Int32 ⊕ Nat) × zW) := zth σ fun σ1 => some (.inr 1, σ1)
def fX7_seller (n : Nat) (a0 : Nat) (a1 : Int32) (a2 : Int32) (σ : zW) : Option ((Int32 ⊕ Nat) × zW) := if a1 < 0 then sX7_seller_10 n σ else if a1 < 6 then zbx (fX7_needWithin n a2 0 5 σ) (fun _ σ3 => if a2 = 0 then zgR σ3 8 a0 0 fun x6 => zck σ3 4 x6 (zb (fX3_pricesFor n x6 a1 σ3) fun x7 => some (.inl x7, σ3)) else if a2 = 1 then zgR σ3 8 a0 0 fun x8 => zck σ3 4 x8 (zb (fX3_commissionsOf n x8 a1 σ3) fun x9 => some (.inl x9, σ3)) else if a2 = 2 then zgR σ3 8 a0 0 fun x10 => zgR σ3 4 x10 2 fun x11 => zaI σ3 x11 a1 fun x12 => some (.inl x12, σ3) else if a2 = 3 then zgR σ3 8 a0 0 fun x13 => zck σ3 4 x13 (zb (fX3_proceedsOf n x13 a1 σ3) fun x14 => some (.inl x14, σ3)) else if a2 = 4 then zgR σ3 8 a0 0 fun x15 => zck σ3 4 x15 (zb (fX3_lotsOf n x15 a1 2 σ3) fun x16 => some (.inl x16, σ3)) else zgR σ3 8 a0 0 fun x17 => zck σ3 4 x17 (zb (fX3_lotsOf n x17 a1 3 σ3) fun x18 => some (.inl x18, σ3))) (fun e4 σ5 => some (.inr e4, σ5)) else sX7_seller_10 n σ
theorem gsX7_seller_10 (F : zFx E) (n : Nat) (hk : zk E K "LotSales" cX7_seller 3 7) (he : zend E K (some .int) "seller") (ht : zthr E K) (σ : zW) : zG E K zfT (sX7_seller_10 n σ) σ 10 [none, none, none] [] := by
  unfold sX7_seller_10
  exact z_throwW hk ht (is := 303) (text := "no such seller") (kx := 1) (by decide) (by decide) (by decide) (fun _ => rfl) (fun _ => rfl) wd_964 wd_515 wd_17 (by decide +kernel) (z_row hX7_seller_0 5 rfl) (z_row hX7_seller_0 6 rfl) (z_row hX7_seller_0 7 rfl) (z_row hX7_seller_0 8 rfl) (z_row hX7_seller_0 9 rfl) (by decide) (Nat.le_of_ble_eq_true rfl)
theorem mX7_seller (F : zFx E) (n : Nat) (a0 : Nat) (a1 : Int32) (a2 : Int32) (σ : zW) (o : (Int32 ⊕ Nat) × zW) (hf : fX7_seller n a0 a1 a2 σ = some o) : zMX E qX7_seller (.code qX7_seller cX7_seller 3 (some .int)) 7 [.inr (.inl a0), .inl a1, .inl a2] σ (zfT o) := by
  refine zMX_of (fin := zfT) F (by decide +kernel) rfl (Nat.le_of_ble_eq_true rfl) (lv0 := [some (.inr (.inl a0)), some (.inl a1), some (.inl a2)]) rfl hf rfl (fun K hk he ht => ?_)
  have hk : zk E K "LotSales" cX7_seller 3 7 := hk
  unfold fX7_seller
  refine z_run hk hX7_seller_0 0 1 (pc' := 1) (lv' := [some (.inr (.inl a0)), some (.inl a1), some (.inl a2)]) (st' := [.inl a1]) rfl ?_
  refine z_lt hk (z_row hX7_seller_0 1 rfl) (tgt := 10) rfl ?_ ?_
  · refine z_mask [false, false, false] rfl ?_
    exact gsX7_seller_10 F n hk he ht σ
  · refine z_run hk hX7_seller_0 2 2 (pc' := 7) (lv' := [some (.inr (.inl a0)), some (.inl a1), some (.inl a2)]) (st' := [.inl 6, .inl a1]) rfl ?_
    refine z_clt hk (z_row hX7_seller_0 4 rfl) (tgt := 21) rfl ?_ ?_
    · refine z_run hk hX7_seller_0 10 3 (pc' := 24) (lv' := [some (.inr (.inl a0)), some (.inl a1), some (.inl a2)]) (st' := [.inl 5, .inl 0, .inl a2]) rfl ?_
      refine kX7_needWithin F hk (z_row hX7_seller_0 13 rfl) wd_350 (by decide) (Nat.le_of_ble_eq_true rfl) (fun x2 σ3 => ?_) (fun e4 σ5 => ?_)
      · refine z_run hk hX7_seller_0 14 1 (pc' := 28) (lv' := [some (.inr (.inl a0)), some (.inl a1), some (.inl a2)]) (st' := [.inl a2]) rfl ?_
        refine z_tabI hk (z_row hX7_seller_0 15 rfl) (c := 0) (tgt := 64) (by decide) (by decide) rfl rfl ?_ (fun hn0 => ?_)
        · refine z_run hk hX7_seller_0 16 1 (pc' := 65) (lv' := [some (.inr (.inl a0)), some (.inl a1), some (.inl a2)]) (st' := [.inr (.inl a0)]) rfl ?_
          refine z_gR hk 0 (z_row hX7_seller_0 17 rfl) (ci := 7) rfl rfl wd_268 (fun x6 => ?_)
          refine z_run hk hX7_seller_0 18 1 (pc' := 69) (lv' := [some (.inr (.inl a0)), some (.inl a1), some (.inl a2)]) (st' := [.inl a1, .inr (.inl x6)]) rfl ?_
          refine kX3_pricesFor F hk (z_row hX7_seller_0 19 rfl) wd_965 (by decide) (Nat.le_of_ble_eq_true rfl) (fun x7 => ?_)
          exact z_iret hk he (z_row hX7_seller_0 20 rfl) rfl
        refine z_tabI hk (z_row hX7_seller_0 15 rfl) (c := 1) (tgt := 73) (by decide) (by decide) rfl rfl ?_ (fun hn1 => ?_)
        · refine z_run hk hX7_seller_0 21 1 (pc' := 74) (lv' := [some (.inr (.inl a0)), some (.inl a1), some (.inl a2)]) (st' := [.inr (.inl a0)]) rfl ?_
          refine z_gR hk 0 (z_row hX7_seller_0 22 rfl) (ci := 7) rfl rfl wd_268 (fun x8 => ?_)
          refine z_run hk hX7_seller_0 23 1 (pc' := 78) (lv' := [some (.inr (.inl a0)), some (.inl a1), some (.inl a2)]) (st' := [.inl a1, .inr (.inl x8)]) rfl ?_
          refine kX3_commissionsOf F hk (z_row hX7_seller_0 24 rfl) wd_969 (by decide) (Nat.le_of_ble_eq_true rfl) (fun x9 => ?_)
          exact z_iret hk he (z_row hX7_seller_0 25 rfl) rfl
        refine z_tabI hk (z_row hX7_seller_0 15 rfl) (c := 2) (tgt := 82) (by decide) (by decide) rfl rfl ?_ (fun hn2 => ?_)
        · refine z_run hk hX7_seller_0 26 1 (pc' := 83) (lv' := [some (.inr (.inl a0)), some (.inl a1), some (.inl a2)]) (st' := [.inr (.inl a0)]) rfl ?_
          refine z_gR hk 0 (z_row hX7_seller_0 27 rfl) (ci := 7) rfl rfl wd_268 (fun x10 => ?_)
          refine z_gR hk 2 (z_row hX7_seller_0 28 rfl) (ci := 3) rfl rfl wd_165 (fun x11 => ?_)
          refine z_run hk hX7_seller_0 29 1 (pc' := 90) (lv' := [some (.inr (.inl a0)), some (.inl a1), some (.inl a2)]) (st' := [.inl a1, .inr (.inl x11)]) rfl ?_
          refine z_aI hk (z_row hX7_seller_0 30 rfl) (fun x12 => ?_)
          exact z_iret hk he (z_row hX7_seller_0 31 rfl) rfl
        refine z_tabI hk (z_row hX7_seller_0 15 rfl) (c := 3) (tgt := 92) (by decide) (by decide) rfl rfl ?_ (fun hn3 => ?_)
        · refine z_run hk hX7_seller_0 32 1 (pc' := 93) (lv' := [some (.inr (.inl a0)), some (.inl a1), some (.inl a2)]) (st' := [.inr (.inl a0)]) rfl ?_
          refine z_gR hk 0 (z_row hX7_seller_0 33 rfl) (ci := 7) rfl rfl wd_268 (fun x13 => ?_)
          refine z_run hk hX7_seller_0 34 1 (pc' := 97) (lv' := [some (.inr (.inl a0)), some (.inl a1), some (.inl a2)]) (st' := [.inl a1, .inr (.inl x13)]) rfl ?_
          refine kX3_proceedsOf F hk (z_row hX7_seller_0 35 rfl) wd_977 (by decide) (Nat.le_of_ble_eq_true rfl) (fun x14 => ?_)
          exact z_iret hk he (z_row hX7_seller_0 36 rfl) rfl
        refine z_tabI hk (z_row hX7_seller_0 15 rfl) (c := 4) (tgt := 101) (by decide) (by decide) rfl rfl ?_ (fun hn4 => ?_)
        · refine z_run hk hX7_seller_0 37 1 (pc' := 102) (lv' := [some (.inr (.inl a0)), some (.inl a1), some (.inl a2)]) (st' := [.inr (.inl a0)]) rfl ?_
          refine z_gR hk 0 (z_row hX7_seller_0 38 rfl) (ci := 7) rfl rfl wd_268 (fun x15 => ?_)
          refine z_run hk hX7_seller_0 39 2 (pc' := 107) (lv' := [some (.inr (.inl a0)), some (.inl a1), some (.inl a2)]) (st' := [.inl 2, .inl a1, .inr (.inl x15)]) rfl ?_
          refine kX3_lotsOf F hk (z_row hX7_seller_0 41 rfl) wd_983 (by decide) (Nat.le_of_ble_eq_true rfl) (fun x16 => ?_)
          exact z_iret hk he (z_row hX7_seller_0 42 rfl) rfl
        have hi0 := z_ne_toInt hn0 (n := 0) (by decide)
        have hi1 := z_ne_toInt hn1 (n := 1) (by decide)
        have hi2 := z_ne_toInt hn2 (n := 2) (by decide)
        have hi3 := z_ne_toInt hn3 (n := 3) (by decide)
        have hi4 := z_ne_toInt hn4 (n := 4) (by decide)
        refine z_tabO hk (z_row hX7_seller_0 15 rfl) (tgt := 111) (by omega) rfl ?_
        refine z_run hk hX7_seller_0 43 1 (pc' := 112) (lv' := [some (.inr (.inl a0)), some (.inl a1), some (.inl a2)]) (st' := [.inr (.inl a0)]) rfl ?_
        refine z_gR hk 0 (z_row hX7_seller_0 44 rfl) (ci := 7) rfl rfl wd_268 (fun x17 => ?_)
        refine z_run hk hX7_seller_0 45 2 (pc' := 117) (lv' := [some (.inr (.inl a0)), some (.inl a1), some (.inl a2)]) (st' := [.inl 3, .inl a1, .inr (.inl x17)]) rfl ?_
        refine kX3_lotsOf F hk (z_row hX7_seller_0 47 rfl) wd_983 (by decide) (Nat.le_of_ble_eq_true rfl) (fun x18 => ?_)
        exact z_iret hk he (z_row hX7_seller_0 48 rfl) rfl
      · exact z_out hk ht rfl
    · refine z_mask [false, false, false] rfl ?_
      exact gsX7_seller_10 F n hk he ht σ
theorem kX7_seller {n : Nat} {own : String} {cc : ByteArray} {nL h index : Nat} {α : Type} {fin : α → zO} {σ : zW} {pc : Nat} {lv : zLV} {st : List zV} {a0 : Nat} {a1 : Int32} {a2 : Int32} {c : Int32 → zW → Option α} {t : Nat → zW → Option α} (F : zFx E) (hk : zk E K own cc nL h) (hd : decode cc pc = .ok (.invokevirtual index, 3)) (hl : Cond.methodLink own index qX7_seller ∈ lw_tbl) (hh : 7 + 1 ≤ h) (hs : zcat st ≤ 8) (k : ∀ v s, zG E K fin (c v s) s (pc + 3) lv (.inl v :: st)) (kt : ∀ kx s, zT E K fin (t kx s) kx s pc lv) : zG E K fin (zck σ 8 a0 (zbx (fX7_seller n a0 a1 a2 σ) c t)) σ pc lv (.inl a2 :: .inl a1 :: .inr (.inl a0) :: st) :=
  z_vT (n := 2) (y := qX7_seller) (As := [.inl a1, .inl a2]) hk hd hl wd_961 wd_962 wd_1 wd_963 ⟨by decide, by decide, by decide +kernel⟩ ⟨hh, by decide⟩ (ci := 7) rfl rfl rfl (fun o ho => mX7_seller F n a0 a1 a2 σ o ho) hs k kt
abbrev qX7_house : MethodName := { cls := "LotSales", name := "house", desc := "(I)I" }
def sX7_house_41 (n : Nat) : Nat → Nat → Int32 → Int32 → Int32 → Int32 → Int32 → zW → Option ((Int32 ⊕ Nat) × zW)
  | 0, _, _, _, _, _, _, _ => none
  | k + 1, v0, v1, v2, v3, v4, v5, σ => if v5 < 6 then zgR σ 8 v0 0 fun x1 => zck σ 4 x1 (zb (fX3_pricesFor n x1 v5 σ) fun x2 => zgR σ 8 v0 0 fun x3 => zck σ 4 x3 (zb (fX3_proceedsOf n x3 v5 σ) fun x4 => sX7_house_41 n k v0 v1 v2 (v3 + x2) (v4 + x4) (v5 + 1) σ)) else if v1 = 0 then some (.inl ((v2 + v3) - v4), σ) else if v1 = 1 then some (.inl v3, σ) else if v1 = 2 then some (.inl (v3 + v2), σ) else some (.inl v4, σ)
def sX7_house_10 (n : Nat) : Nat → Nat → Int32 → Int32 → Int32 → zW → Option ((Int32 ⊕ Nat) × zW)
  | 0, _, _, _, _, _ => none
  | k + 1, v0, v1, v2, v3, σ => if v3 < 10 then zgR σ 8 v0 0 fun x5 => zck σ 4 x5 (zb (fX3_premiumsOf n x5 v3 σ) fun x6 => sX7_house_10 n k v0 v1 (v2 + x6) (v3 + 1) σ) else sX7_house_41 n n v0 v1 v2 0 0 0 σ
def fX7_house (n : Nat) (a0 : Nat) (a1 : Int32) (σ : zW) : Option ((Int32 ⊕ Nat) × zW) := zbx (fX7_needWithin n a1 0 3 σ) (fun _ σ8 => sX7_house_10 n n a0 a1 0 0 σ8) (fun e9 σ10 => some (.inr e9, σ10))
theorem gsX7_house_41 (F : zFx E) (n : Nat) (hk : zk E K "LotSales" cX7_house 6 7) (he : zend E K (some .int) "house") (ht : zthr E K) : ∀ (k : Nat) (v0 : Nat) (v1 : Int32) (v2 : Int32) (v3 : Int32) (v4 : Int32) (v5 : Int32) (σ : zW), zG E K zfT (sX7_house_41 n k v0 v1 v2 v3 v4 v5 σ) σ 41 [some (.inr (.inl v0)), some (.inl v1), some (.inl v2), some (.inl v3), some (.inl v4), some (.inl v5)] [] := by
  intro k
  induction k with
  | zero =>
    intro v0 v1 v2 v3 v4 v5 σ
    intro hX
    exact z_none hX
  | succ k ih =>
    intro v0 v1 v2 v3 v4 v5 σ
    rw [sX7_house_41]
    refine z_run hk hX7_house_0 26 2 (pc' := 45) (lv' := [some (.inr (.inl v0)), some (.inl v1), some (.inl v2), some (.inl v3), some (.inl v4), some (.inl v5)]) (st' := [.inl 6, .inl v5]) rfl ?_
    refine z_cge hk (z_row hX7_house_0 28 rfl) (tgt := 80) rfl ?_ ?_
    · refine z_run hk hX7_house_0 45 1 (pc' := 81) (lv' := [some (.inr (.inl v0)), some (.inl v1), some (.inl v2), some (.inl v3), some (.inl v4), some (.inl v5)]) (st' := [.inl v1]) rfl ?_
      refine z_tabI hk (z_row hX7_house_0 46 rfl) (c := 0) (tgt := 108) (by decide) (by decide) rfl rfl ?_ (fun hn0 => ?_)
      · refine z_run hk hX7_house_0 47 5 (pc' := 114) (lv' := [some (.inr (.inl v0)), some (.inl v1), some (.inl v2), some (.inl v3), some (.inl v4), some (.inl v5)]) (st' := [.inl ((v2 + v3) - v4)]) rfl ?_
        exact z_iret hk he (z_row hX7_house_0 52 rfl) rfl
      refine z_tabI hk (z_row hX7_house_0 46 rfl) (c := 1) (tgt := 115) (by decide) (by decide) rfl rfl ?_ (fun hn1 => ?_)
      · refine z_run hk hX7_house_0 53 1 (pc' := 116) (lv' := [some (.inr (.inl v0)), some (.inl v1), some (.inl v2), some (.inl v3), some (.inl v4), some (.inl v5)]) (st' := [.inl v3]) rfl ?_
        exact z_iret hk he (z_row hX7_house_0 54 rfl) rfl
      refine z_tabI hk (z_row hX7_house_0 46 rfl) (c := 2) (tgt := 117) (by decide) (by decide) rfl rfl ?_ (fun hn2 => ?_)
      · refine z_run hk hX7_house_0 55 3 (pc' := 120) (lv' := [some (.inr (.inl v0)), some (.inl v1), some (.inl v2), some (.inl v3), some (.inl v4), some (.inl v5)]) (st' := [.inl (v3 + v2)]) rfl ?_
        exact z_iret hk he (z_row hX7_house_0 58 rfl) rfl
      have hi0 := z_ne_toInt hn0 (n := 0) (by decide)
      have hi1 := z_ne_toInt hn1 (n := 1) (by decide)
      have hi2 := z_ne_toInt hn2 (n := 2) (by decide)
      refine z_tabO hk (z_row hX7_house_0 46 rfl) (tgt := 121) (by omega) rfl ?_
      refine z_run hk hX7_house_0 59 1 (pc' := 123) (lv' := [some (.inr (.inl v0)), some (.inl v1), some (.inl v2), some (.inl v3), some (.inl v4), some (.inl v5)]) (st' := [.inl v4]) rfl ?_
      exact z_iret hk he (z_row hX7_house_1 0 rfl) rfl
    · refine z_run hk hX7_house_0 29 2 (pc' := 50) (lv' := [some (.inr (.inl v0)), some (.inl v1), some (.inl v2), some (.inl v3), some (.inl v4), some (.inl v5)]) (st' := [.inr (.inl v0), .inl v3]) rfl ?_
      refine z_gR hk 0 (z_row hX7_house_0 31 rfl) (ci := 7) rfl rfl wd_268 (fun x1 => ?_)
      refine z_run hk hX7_house_0 32 1 (pc' := 55) (lv' := [some (.inr (.inl v0)), some (.inl v1), some (.inl v2), some (.inl v3), some (.inl v4), some (.inl v5)]) (st' := [.inl v5, .inr (.inl x1), .inl v3]) rfl ?_
      refine kX3_pricesFor F hk (z_row hX7_house_0 33 rfl) wd_965 (by decide) (Nat.le_of_ble_eq_true rfl) (fun x2 => ?_)
      refine z_run hk hX7_house_0 34 4 (pc' := 63) (lv' := [some (.inr (.inl v0)), some (.inl v1), some (.inl v2), some (.inl (v3 + x2)), some (.inl v4), some (.inl v5)]) (st' := [.inr (.inl v0), .inl v4]) rfl ?_
      refine z_gR hk 0 (z_row hX7_house_0 38 rfl) (ci := 7) rfl rfl wd_268 (fun x3 => ?_)
      refine z_run hk hX7_house_0 39 1 (pc' := 68) (lv' := [some (.inr (.inl v0)), some (.inl v1), some (.inl v2), some (.inl (v3 + x2)), some (.inl v4), some (.inl v5)]) (st' := [.inl v5, .inr (.inl x3), .inl v4]) rfl ?_
      refine kX3_proceedsOf F hk (z_row hX7_house_0 40 rfl) wd_977 (by decide) (Nat.le_of_ble_eq_true rfl) (fun x4 => ?_)
      refine z_run hk hX7_house_0 41 3 (pc' := 77) (lv' := [some (.inr (.inl v0)), some (.inl v1), some (.inl v2), some (.inl (v3 + x2)), some (.inl (v4 + x4)), some (.inl (v5 + 1))]) (st' := []) rfl ?_
      refine z_goto hk (z_row hX7_house_0 44 rfl) (tgt := 41) rfl ?_
      exact ih v0 v1 v2 (v3 + x2) (v4 + x4) (v5 + 1) σ
theorem gsX7_house_10 (F : zFx E) (n : Nat) (hk : zk E K "LotSales" cX7_house 6 7) (he : zend E K (some .int) "house") (ht : zthr E K) : ∀ (k : Nat) (v0 : Nat) (v1 : Int32) (v2 : Int32) (v3 : Int32) (σ : zW), zG E K zfT (sX7_house_10 n k v0 v1 v2 v3 σ) σ 10 [some (.inr (.inl v0)), some (.inl v1), some (.inl v2), some (.inl v3), none, none] [] := by
  intro k
  induction k with
  | zero =>
    intro v0 v1 v2 v3 σ
    intro hX
    exact z_none hX
  | succ k ih =>
    intro v0 v1 v2 v3 σ
    rw [sX7_house_10]
    refine z_run hk hX7_house_0 8 2 (pc' := 13) (lv' := [some (.inr (.inl v0)), some (.inl v1), some (.inl v2), some (.inl v3), none, none]) (st' := [.inl 10, .inl v3]) rfl ?_
    refine z_cge hk (z_row hX7_house_0 10 rfl) (tgt := 33) rfl ?_ ?_
    · refine z_run hk hX7_house_0 20 6 (pc' := 41) (lv' := [some (.inr (.inl v0)), some (.inl v1), some (.inl v2), some (.inl 0), some (.inl 0), some (.inl 0)]) (st' := []) rfl ?_
      exact gsX7_house_41 F n hk he ht n v0 v1 v2 0 0 0 σ
    · refine z_run hk hX7_house_0 11 2 (pc' := 18) (lv' := [some (.inr (.inl v0)), some (.inl v1), some (.inl v2), some (.inl v3), none, none]) (st' := [.inr (.inl v0), .inl v2]) rfl ?_
      refine z_gR hk 0 (z_row hX7_house_0 13 rfl) (ci := 7) rfl rfl wd_268 (fun x5 => ?_)
      refine z_run hk hX7_house_0 14 1 (pc' := 22) (lv' := [some (.inr (.inl v0)), some (.inl v1), some (.inl v2), some (.inl v3), none, none]) (st' := [.inl v3, .inr (.inl x5), .inl v2]) rfl ?_
      refine kX3_premiumsOf F hk (z_row hX7_house_0 15 rfl) wd_944 (by decide) (Nat.le_of_ble_eq_true rfl) (fun x6 => ?_)
      refine z_run hk hX7_house_0 16 3 (pc' := 30) (lv' := [some (.inr (.inl v0)), some (.inl v1), some (.inl (v2 + x6)), some (.inl (v3 + 1)), none, none]) (st' := []) rfl ?_
      refine z_goto hk (z_row hX7_house_0 19 rfl) (tgt := 10) rfl ?_
      exact ih v0 v1 (v2 + x6) (v3 + 1) σ
theorem mX7_house (F : zFx E) (n : Nat) (a0 : Nat) (a1 : Int32) (σ : zW) (o : (Int32 ⊕ Nat) × zW) (hf : fX7_house n a0 a1 σ = some o) : zMX E qX7_house (.code qX7_house cX7_house 6 (some .int)) 7 [.inr (.inl a0), .inl a1] σ (zfT o) := by
  refine zMX_of (fin := zfT) F (by decide +kernel) rfl (Nat.le_of_ble_eq_true rfl) (lv0 := [some (.inr (.inl a0)), some (.inl a1), none, none, none, none]) rfl hf rfl (fun K hk he ht => ?_)
  have hk : zk E K "LotSales" cX7_house 6 7 := hk
  unfold fX7_house
  refine z_run hk hX7_house_0 0 3 (pc' := 3) (lv' := [some (.inr (.inl a0)), some (.inl a1), none, none, none, none]) (st' := [.inl 3, .inl 0, .inl a1]) rfl ?_
  refine kX7_needWithin F hk (z_row hX7_house_0 3 rfl) wd_350 (by decide) (Nat.le_of_ble_eq_true rfl) (fun x7 σ8 => ?_) (fun e9 σ10 => ?_)
  · refine z_run hk hX7_house_0 4 4 (pc' := 10) (lv' := [some (.inr (.inl a0)), some (.inl a1), some (.inl 0), some (.inl 0), none, none]) (st' := []) rfl ?_
    exact gsX7_house_10 F n hk he ht n a0 a1 0 0 σ8
  · exact z_out hk ht rfl
theorem kX7_house {n : Nat} {own : String} {cc : ByteArray} {nL h index : Nat} {α : Type} {fin : α → zO} {σ : zW} {pc : Nat} {lv : zLV} {st : List zV} {a0 : Nat} {a1 : Int32} {c : Int32 → zW → Option α} {t : Nat → zW → Option α} (F : zFx E) (hk : zk E K own cc nL h) (hd : decode cc pc = .ok (.invokevirtual index, 3)) (hl : Cond.methodLink own index qX7_house ∈ lw_tbl) (hh : 7 + 1 ≤ h) (hs : zcat st ≤ 8) (k : ∀ v s, zG E K fin (c v s) s (pc + 3) lv (.inl v :: st)) (kt : ∀ kx s, zT E K fin (t kx s) kx s pc lv) : zG E K fin (zck σ 8 a0 (zbx (fX7_house n a0 a1 σ) c t)) σ pc lv (.inl a1 :: .inr (.inl a0) :: st) :=
  z_vT (n := 1) (y := qX7_house) (As := [.inl a1]) hk hd hl wd_991 wd_992 wd_1 wd_993 ⟨by decide, by decide, by decide +kernel⟩ ⟨hh, by decide⟩ (ci := 7) rfl rfl rfl (fun o ho => mX7_house F n a0 a1 σ o ho) hs k kt
abbrev qX7_soldShare : MethodName := { cls := "LotSales", name := "soldShare", desc := "()D" }
def fX7_soldShare (n : Nat) (a0 : Nat) (σ : zW) : Option ((UInt64 ⊕ Nat) × zW) := zgR σ 8 a0 0 fun x1 => zgR σ 4 x1 4 fun x2 => zck σ 2 x2 (zb (fX1_countOf n x2 3 σ) fun x3 => zgR σ 8 a0 0 fun x4 => zgR σ 4 x4 4 fun x5 => zck σ 2 x5 (zb (fX1_countOf n x5 4 σ) fun x6 => if (x3 + x6) = 0 then zth σ fun σ8 => some (.inr 6, σ8) else zdd (FP.i2d x3) (FP.i2d (x3 + x6)) fun x7 => some (.inl x7, σ)))
theorem mX7_soldShare (F : zFx E) (n : Nat) (a0 : Nat) (σ : zW) (o : (UInt64 ⊕ Nat) × zW) (hf : fX7_soldShare n a0 σ = some o) : zMX E qX7_soldShare (.code qX7_soldShare cX7_soldShare 3 (some .double)) 6 [.inr (.inl a0)] σ (zfE o) := by
  refine zMX_of (fin := zfE) F (by decide +kernel) rfl (Nat.le_of_ble_eq_true rfl) (lv0 := [some (.inr (.inl a0)), none, none]) rfl hf rfl (fun K hk he ht => ?_)
  have hk : zk E K "LotSales" cX7_soldShare 3 6 := hk
  unfold fX7_soldShare
  refine z_run hk hX7_soldShare_0 0 1 (pc' := 1) (lv' := [some (.inr (.inl a0)), none, none]) (st' := [.inr (.inl a0)]) rfl ?_
  refine z_gR hk 0 (z_row hX7_soldShare_0 1 rfl) (ci := 7) rfl rfl wd_268 (fun x1 => ?_)
  refine z_gR hk 4 (z_row hX7_soldShare_0 2 rfl) (ci := 3) rfl rfl wd_169 (fun x2 => ?_)
  refine z_run hk hX7_soldShare_0 3 1 (pc' := 8) (lv' := [some (.inr (.inl a0)), none, none]) (st' := [.inl 3, .inr (.inl x2)]) rfl ?_
  refine kX1_countOf F hk (z_row hX7_soldShare_0 4 rfl) wd_1015 (by decide) (Nat.le_of_ble_eq_true rfl) (fun x3 => ?_)
  refine z_run hk hX7_soldShare_0 5 3 (pc' := 14) (lv' := [some (.inr (.inl a0)), some (.inl x3), none]) (st' := [.inr (.inl a0), .inl x3]) rfl ?_
  refine z_gR hk 0 (z_row hX7_soldShare_0 8 rfl) (ci := 7) rfl rfl wd_268 (fun x4 => ?_)
  refine z_gR hk 4 (z_row hX7_soldShare_0 9 rfl) (ci := 3) rfl rfl wd_169 (fun x5 => ?_)
  refine z_run hk hX7_soldShare_0 10 1 (pc' := 21) (lv' := [some (.inr (.inl a0)), some (.inl x3), none]) (st' := [.inl 4, .inr (.inl x5), .inl x3]) rfl ?_
  refine kX1_countOf F hk (z_row hX7_soldShare_0 11 rfl) wd_1015 (by decide) (Nat.le_of_ble_eq_true rfl) (fun x6 => ?_)
  refine z_run hk hX7_soldShare_0 12 3 (pc' := 27) (lv' := [some (.inr (.inl a0)), some (.inl x3), some (.inl (x3 + x6))]) (st' := [.inl (x3 + x6)]) rfl ?_
  refine z_ne hk (z_row hX7_soldShare_0 15 rfl) (tgt := 41) rfl ?_ ?_
  · refine z_run hk hX7_soldShare_0 21 4 (pc' := 45) (lv' := [some (.inr (.inl a0)), some (.inl x3), some (.inl (x3 + x6))]) (st' := [.inr (.inr (.inr (.inl (FP.i2d (x3 + x6))))), .inr (.inr (.inr (.inl (FP.i2d x3))))]) rfl ?_
    refine z_ddiv hk (z_row hX7_soldShare_0 25 rfl) (fun x7 => ?_)
    exact z_dret hk he (z_row hX7_soldShare_0 26 rfl) rfl
  · exact z_throwW hk ht (is := 325) (text := "no lot was closed") (kx := 6) (by decide) (by decide) (by decide) (fun _ => rfl) (fun _ => rfl) wd_1020 wd_1019 wd_22 (by decide +kernel) (z_row hX7_soldShare_0 16 rfl) (z_row hX7_soldShare_0 17 rfl) (z_row hX7_soldShare_0 18 rfl) (z_row hX7_soldShare_0 19 rfl) (z_row hX7_soldShare_0 20 rfl) (by decide) (Nat.le_of_ble_eq_true rfl)
theorem kX7_soldShare {n : Nat} {own : String} {cc : ByteArray} {nL h index : Nat} {α : Type} {fin : α → zO} {σ : zW} {pc : Nat} {lv : zLV} {st : List zV} {a0 : Nat} {c : UInt64 → zW → Option α} {t : Nat → zW → Option α} (F : zFx E) (hk : zk E K own cc nL h) (hd : decode cc pc = .ok (.invokevirtual index, 3)) (hl : Cond.methodLink own index qX7_soldShare ∈ lw_tbl) (hh : 6 + 1 ≤ h) (hs : zcat st ≤ 8) (k : ∀ v s, zG E K fin (c v s) s (pc + 3) lv (.inr (.inr (.inr (.inl v))) :: st)) (kt : ∀ kx s, zT E K fin (t kx s) kx s pc lv) : zG E K fin (zck σ 8 a0 (zbx (fX7_soldShare n a0 σ) c t)) σ pc lv (.inr (.inl a0) :: st) :=
  z_vE (n := 0) (y := qX7_soldShare) (As := []) hk hd hl wd_1012 wd_1013 wd_1 wd_1014 ⟨by decide, by decide, by decide +kernel⟩ ⟨hh, by decide⟩ (ci := 7) rfl rfl rfl (fun o ho => mX7_soldShare F n a0 σ o ho) hs k kt
abbrev qX7_events : MethodName := { cls := "LotSales", name := "events", desc := "(I)I" }
def sX7_events_36 (n : Nat) (y0 : Int32) (σ : zW) : Option ((Int32 ⊕ Nat) × zW) := some (.inl y0, σ)
def fX7_events (n : Nat) (a0 : Nat) (a1 : Int32) (σ : zW) : Option ((Int32 ⊕ Nat) × zW) := zbx (fX7_needWithin n a1 (-1) 9 σ) (fun _ σ2 => if a1 = (-1) then zgR σ2 8 a0 0 fun x8 => zgR σ2 4 x8 4 fun x9 => zgI σ2 2 x9 4 fun x10 => sX7_events_36 n x10 σ2 else zgR σ2 8 a0 0 fun x5 => zgR σ2 4 x5 4 fun x6 => zck σ2 2 x6 (zb (fX1_countOf n x6 a1 σ2) fun x7 => sX7_events_36 n x7 σ2)) (fun e3 σ4 => some (.inr e3, σ4))
theorem gsX7_events_36 (F : zFx E) (n : Nat) (hk : zk E K "LotSales" cX7_events 2 7) (he : zend E K (some .int) "events") (ht : zthr E K) (y0 : Int32) (σ : zW) : zG E K zfT (sX7_events_36 n y0 σ) σ 36 [none, none] [.inl y0] := by
  unfold sX7_events_36
  exact z_iret hk he (z_row hX7_events_0 17 rfl) rfl
theorem mX7_events (F : zFx E) (n : Nat) (a0 : Nat) (a1 : Int32) (σ : zW) (o : (Int32 ⊕ Nat) × zW) (hf : fX7_events n a0 a1 σ = some o) : zMX E qX7_events (.code qX7_events cX7_events 2 (some .int)) 7 [.inr (.inl a0), .inl a1] σ (zfT o) := by
  refine zMX_of (fin := zfT) F (by decide +kernel) rfl (Nat.le_of_ble_eq_true rfl) (lv0 := [some (.inr (.inl a0)), some (.inl a1)]) rfl hf rfl (fun K hk he ht => ?_)
  have hk : zk E K "LotSales" cX7_events 2 7 := hk
  unfold fX7_events
  refine z_run hk hX7_events_0 0 3 (pc' := 4) (lv' := [some (.inr (.inl a0)), some (.inl a1)]) (st' := [.inl 9, .inl (-1), .inl a1]) rfl ?_
  refine kX7_needWithin F hk (z_row hX7_events_0 3 rfl) wd_350 (by decide) (Nat.le_of_ble_eq_true rfl) (fun x1 σ2 => ?_) (fun e3 σ4 => ?_)
  · refine z_run hk hX7_events_0 4 2 (pc' := 9) (lv' := [some (.inr (.inl a0)), some (.inl a1)]) (st' := [.inl (-1), .inl a1]) rfl ?_
    refine z_cne hk (z_row hX7_events_0 6 rfl) (tgt := 25) rfl ?_ ?_
    · refine z_run hk hX7_events_0 12 1 (pc' := 26) (lv' := [some (.inr (.inl a0)), some (.inl a1)]) (st' := [.inr (.inl a0)]) rfl ?_
      refine z_gR hk 0 (z_row hX7_events_0 13 rfl) (ci := 7) rfl rfl wd_268 (fun x5 => ?_)
      refine z_gR hk 4 (z_row hX7_events_0 14 rfl) (ci := 3) rfl rfl wd_169 (fun x6 => ?_)
      refine z_run hk hX7_events_0 15 1 (pc' := 33) (lv' := [some (.inr (.inl a0)), some (.inl a1)]) (st' := [.inl a1, .inr (.inl x6)]) rfl ?_
      refine kX1_countOf F hk (z_row hX7_events_0 16 rfl) wd_1015 (by decide) (Nat.le_of_ble_eq_true rfl) (fun x7 => ?_)
      refine z_mask [false, false] rfl ?_
      exact gsX7_events_36 F n hk he ht x7 σ2
    · refine z_run hk hX7_events_0 7 1 (pc' := 13) (lv' := [some (.inr (.inl a0)), some (.inl a1)]) (st' := [.inr (.inl a0)]) rfl ?_
      refine z_gR hk 0 (z_row hX7_events_0 8 rfl) (ci := 7) rfl rfl wd_268 (fun x8 => ?_)
      refine z_gR hk 4 (z_row hX7_events_0 9 rfl) (ci := 3) rfl rfl wd_169 (fun x9 => ?_)
      refine z_gI hk 4 (z_row hX7_events_0 10 rfl) (ci := 1) rfl rfl wd_85 (fun x10 => ?_)
      refine z_goto hk (z_row hX7_events_0 11 rfl) (tgt := 36) rfl ?_
      refine z_mask [false, false] rfl ?_
      exact gsX7_events_36 F n hk he ht x10 σ2
  · exact z_out hk ht rfl
theorem kX7_events {n : Nat} {own : String} {cc : ByteArray} {nL h index : Nat} {α : Type} {fin : α → zO} {σ : zW} {pc : Nat} {lv : zLV} {st : List zV} {a0 : Nat} {a1 : Int32} {c : Int32 → zW → Option α} {t : Nat → zW → Option α} (F : zFx E) (hk : zk E K own cc nL h) (hd : decode cc pc = .ok (.invokevirtual index, 3)) (hl : Cond.methodLink own index qX7_events ∈ lw_tbl) (hh : 7 + 1 ≤ h) (hs : zcat st ≤ 8) (k : ∀ v s, zG E K fin (c v s) s (pc + 3) lv (.inl v :: st)) (kt : ∀ kx s, zT E K fin (t kx s) kx s pc lv) : zG E K fin (zck σ 8 a0 (zbx (fX7_events n a0 a1 σ) c t)) σ pc lv (.inl a1 :: .inr (.inl a0) :: st) :=
  z_vT (n := 1) (y := qX7_events) (As := [.inl a1]) hk hd hl wd_1026 wd_1027 wd_1 wd_1028 ⟨by decide, by decide, by decide +kernel⟩ ⟨hh, by decide⟩ (ci := 7) rfl rfl rfl (fun o ho => mX7_events F n a0 a1 σ o ho) hs k kt
abbrev qX7_event : MethodName := { cls := "LotSales", name := "event", desc := "(II)I" }
def sX7_event_20 (n : Nat) (σ : zW) : Option ((Int32 ⊕ Nat) × zW) := zth σ fun σ1 => some (.inr 1, σ1)
def fX7_event (n : Nat) (a0 : Nat) (a1 : Int32) (a2 : Int32) (σ : zW) : Option ((Int32 ⊕ Nat) × zW) := zgR σ 8 a0 0 fun x2 => zgR σ 4 x2 4 fun x3 => if a1 < 0 then sX7_event_20 n σ else zgI σ 2 x3 4 fun x4 => if a1 < x4 then zbx (fX7_needWithin n a2 0 3 σ) (fun _ σ6 => if a2 = 0 then zgR σ6 2 x3 0 fun x9 => zaI σ6 x9 a1 fun x10 => some (.inl x10, σ6) else if a2 = 1 then zgR σ6 2 x3 1 fun x11 => zaI σ6 x11 a1 fun x12 => some (.inl x12, σ6) else if a2 = 2 then zgR σ6 2 x3 2 fun x13 => zaI σ6 x13 a1 fun x14 => some (.inl x14, σ6) else zgR σ6 2 x3 3 fun x15 => zaI σ6 x15 a1 fun x16 => some (.inl x16, σ6)) (fun e7 σ8 => some (.inr e7, σ8)) else sX7_event_20 n σ
theorem gsX7_event_20 (F : zFx E) (n : Nat) (hk : zk E K "LotSales" cX7_event 4 7) (he : zend E K (some .int) "event") (ht : zthr E K) (σ : zW) : zG E K zfT (sX7_event_20 n σ) σ 20 [none, none, none, none] [] := by
  unfold sX7_event_20
  exact z_throwW hk ht (is := 331) (text := "no such event") (kx := 1) (by decide) (by decide) (by decide) (fun _ => rfl) (fun _ => rfl) wd_1036 wd_515 wd_17 (by decide +kernel) (z_row hX7_event_0 10 rfl) (z_row hX7_event_0 11 rfl) (z_row hX7_event_0 12 rfl) (z_row hX7_event_0 13 rfl) (z_row hX7_event_0 14 rfl) (by decide) (Nat.le_of_ble_eq_true rfl)
theorem mX7_event (F : zFx E) (n : Nat) (a0 : Nat) (a1 : Int32) (a2 : Int32) (σ : zW) (o : (Int32 ⊕ Nat) × zW) (hf : fX7_event n a0 a1 a2 σ = some o) : zMX E qX7_event (.code qX7_event cX7_event 4 (some .int)) 7 [.inr (.inl a0), .inl a1, .inl a2] σ (zfT o) := by
  refine zMX_of (fin := zfT) F (by decide +kernel) rfl (Nat.le_of_ble_eq_true rfl) (lv0 := [some (.inr (.inl a0)), some (.inl a1), some (.inl a2), none]) rfl hf rfl (fun K hk he ht => ?_)
  have hk : zk E K "LotSales" cX7_event 4 7 := hk
  unfold fX7_event
  refine z_run hk hX7_event_0 0 1 (pc' := 1) (lv' := [some (.inr (.inl a0)), some (.inl a1), some (.inl a2), none]) (st' := [.inr (.inl a0)]) rfl ?_
  refine z_gR hk 0 (z_row hX7_event_0 1 rfl) (ci := 7) rfl rfl wd_268 (fun x2 => ?_)
  refine z_gR hk 4 (z_row hX7_event_0 2 rfl) (ci := 3) rfl rfl wd_169 (fun x3 => ?_)
  refine z_run hk hX7_event_0 3 2 (pc' := 9) (lv' := [some (.inr (.inl a0)), some (.inl a1), some (.inl a2), some (.inr (.inl x3))]) (st' := [.inl a1]) rfl ?_
  refine z_lt hk (z_row hX7_event_0 5 rfl) (tgt := 20) rfl ?_ ?_
  · refine z_mask [false, false, false, false] rfl ?_
    exact gsX7_event_20 F n hk he ht σ
  · refine z_run hk hX7_event_0 6 2 (pc' := 14) (lv' := [some (.inr (.inl a0)), some (.inl a1), some (.inl a2), some (.inr (.inl x3))]) (st' := [.inr (.inl x3), .inl a1]) rfl ?_
    refine z_gI hk 4 (z_row hX7_event_0 8 rfl) (ci := 1) rfl rfl wd_85 (fun x4 => ?_)
    refine z_clt hk (z_row hX7_event_0 9 rfl) (tgt := 31) rfl ?_ ?_
    · refine z_run hk hX7_event_0 15 3 (pc' := 34) (lv' := [some (.inr (.inl a0)), some (.inl a1), some (.inl a2), some (.inr (.inl x3))]) (st' := [.inl 3, .inl 0, .inl a2]) rfl ?_
      refine kX7_needWithin F hk (z_row hX7_event_0 18 rfl) wd_350 (by decide) (Nat.le_of_ble_eq_true rfl) (fun x5 σ6 => ?_) (fun e7 σ8 => ?_)
      · refine z_run hk hX7_event_0 19 1 (pc' := 38) (lv' := [some (.inr (.inl a0)), some (.inl a1), some (.inl a2), some (.inr (.inl x3))]) (st' := [.inl a2]) rfl ?_
        refine z_tabI hk (z_row hX7_event_0 20 rfl) (c := 0) (tgt := 64) (by decide) (by decide) rfl rfl ?_ (fun hn0 => ?_)
        · refine z_run hk hX7_event_0 21 1 (pc' := 65) (lv' := [some (.inr (.inl a0)), some (.inl a1), some (.inl a2), some (.inr (.inl x3))]) (st' := [.inr (.inl x3)]) rfl ?_
          refine z_gR hk 0 (z_row hX7_event_0 22 rfl) (ci := 1) rfl rfl wd_74 (fun x9 => ?_)
          refine z_run hk hX7_event_0 23 1 (pc' := 69) (lv' := [some (.inr (.inl a0)), some (.inl a1), some (.inl a2), some (.inr (.inl x3))]) (st' := [.inl a1, .inr (.inl x9)]) rfl ?_
          refine z_aI hk (z_row hX7_event_0 24 rfl) (fun x10 => ?_)
          exact z_iret hk he (z_row hX7_event_0 25 rfl) rfl
        refine z_tabI hk (z_row hX7_event_0 20 rfl) (c := 1) (tgt := 71) (by decide) (by decide) rfl rfl ?_ (fun hn1 => ?_)
        · refine z_run hk hX7_event_0 26 1 (pc' := 72) (lv' := [some (.inr (.inl a0)), some (.inl a1), some (.inl a2), some (.inr (.inl x3))]) (st' := [.inr (.inl x3)]) rfl ?_
          refine z_gR hk 1 (z_row hX7_event_0 27 rfl) (ci := 1) rfl rfl wd_77 (fun x11 => ?_)
          refine z_run hk hX7_event_0 28 1 (pc' := 76) (lv' := [some (.inr (.inl a0)), some (.inl a1), some (.inl a2), some (.inr (.inl x3))]) (st' := [.inl a1, .inr (.inl x11)]) rfl ?_
          refine z_aI hk (z_row hX7_event_0 29 rfl) (fun x12 => ?_)
          exact z_iret hk he (z_row hX7_event_0 30 rfl) rfl
        refine z_tabI hk (z_row hX7_event_0 20 rfl) (c := 2) (tgt := 78) (by decide) (by decide) rfl rfl ?_ (fun hn2 => ?_)
        · refine z_run hk hX7_event_0 31 1 (pc' := 79) (lv' := [some (.inr (.inl a0)), some (.inl a1), some (.inl a2), some (.inr (.inl x3))]) (st' := [.inr (.inl x3)]) rfl ?_
          refine z_gR hk 2 (z_row hX7_event_0 32 rfl) (ci := 1) rfl rfl wd_79 (fun x13 => ?_)
          refine z_run hk hX7_event_0 33 1 (pc' := 83) (lv' := [some (.inr (.inl a0)), some (.inl a1), some (.inl a2), some (.inr (.inl x3))]) (st' := [.inl a1, .inr (.inl x13)]) rfl ?_
          refine z_aI hk (z_row hX7_event_0 34 rfl) (fun x14 => ?_)
          exact z_iret hk he (z_row hX7_event_0 35 rfl) rfl
        have hi0 := z_ne_toInt hn0 (n := 0) (by decide)
        have hi1 := z_ne_toInt hn1 (n := 1) (by decide)
        have hi2 := z_ne_toInt hn2 (n := 2) (by decide)
        refine z_tabO hk (z_row hX7_event_0 20 rfl) (tgt := 85) (by omega) rfl ?_
        refine z_run hk hX7_event_0 36 1 (pc' := 86) (lv' := [some (.inr (.inl a0)), some (.inl a1), some (.inl a2), some (.inr (.inl x3))]) (st' := [.inr (.inl x3)]) rfl ?_
        refine z_gR hk 3 (z_row hX7_event_0 37 rfl) (ci := 1) rfl rfl wd_82 (fun x15 => ?_)
        refine z_run hk hX7_event_0 38 1 (pc' := 90) (lv' := [some (.inr (.inl a0)), some (.inl a1), some (.inl a2), some (.inr (.inl x3))]) (st' := [.inl a1, .inr (.inl x15)]) rfl ?_
        refine z_aI hk (z_row hX7_event_0 39 rfl) (fun x16 => ?_)
        exact z_iret hk he (z_row hX7_event_0 40 rfl) rfl
      · exact z_out hk ht rfl
    · refine z_mask [false, false, false, false] rfl ?_
      exact gsX7_event_20 F n hk he ht σ
theorem kX7_event {n : Nat} {own : String} {cc : ByteArray} {nL h index : Nat} {α : Type} {fin : α → zO} {σ : zW} {pc : Nat} {lv : zLV} {st : List zV} {a0 : Nat} {a1 : Int32} {a2 : Int32} {c : Int32 → zW → Option α} {t : Nat → zW → Option α} (F : zFx E) (hk : zk E K own cc nL h) (hd : decode cc pc = .ok (.invokevirtual index, 3)) (hl : Cond.methodLink own index qX7_event ∈ lw_tbl) (hh : 7 + 1 ≤ h) (hs : zcat st ≤ 8) (k : ∀ v s, zG E K fin (c v s) s (pc + 3) lv (.inl v :: st)) (kt : ∀ kx s, zT E K fin (t kx s) kx s pc lv) : zG E K fin (zck σ 8 a0 (zbx (fX7_event n a0 a1 a2 σ) c t)) σ pc lv (.inl a2 :: .inl a1 :: .inr (.inl a0) :: st) :=
  z_vT (n := 2) (y := qX7_event) (As := [.inl a1, .inl a2]) hk hd hl wd_1033 wd_1034 wd_1 wd_1035 ⟨by decide, by decide, by decide +kernel⟩ ⟨hh, by decide⟩ (ci := 7) rfl rfl rfl (fun o ho => mX7_event F n a0 a1 a2 σ o ho) hs k kt
abbrev qX7_audit : MethodName := { cls := "LotSales", name := "audit", desc := "()I" }
def sX7_audit_35 (n : Nat) (σ : zW) (r4 : Nat → Int32 → Int32 → Option (Int32)) (v0 : Nat) (v1 : Int32) (v2 : Int32) : Option (Int32) := r4 v0 v1 (v2 + 1)
def sX7_audit_72 (n : Nat) (σ : zW) (r43 : Nat → Int32 → Int32 → Option (Int32)) (v0 : Nat) (v1 : Int32) (v2 : Int32) : Option (Int32) := r43 v0 v1 (v2 + 1)
def sX7_audit_43 (n : Nat) (σ : zW) : Nat → Nat → Int32 → Int32 → Option (Int32)
  | 0, _, _, _ => none
  | k + 1, v0, v1, v2 => if v2 < 6 then zgR σ 8 v0 0 fun x1 => zck σ 4 x1 (zb (fX3_feesInLedger n x1 v2 σ) fun x2 => zgR σ 8 v0 0 fun x3 => zgR σ 4 x3 2 fun x4 => zaI σ x4 v2 fun x5 => if x2 = x5 then sX7_audit_72 n σ (sX7_audit_43 n σ k) v0 v1 v2 else sX7_audit_72 n σ (sX7_audit_43 n σ k) v0 (v1 + 1) v2) else some v1
def sX7_audit_4 (n : Nat) (σ : zW) : Nat → Nat → Int32 → Int32 → Option (Int32)
  | 0, _, _, _ => none
  | k + 1, v0, v1, v2 => if v2 < 10 then zgR σ 8 v0 0 fun x6 => zgR σ 4 x6 4 fun x7 => zck σ 2 x7 (zb (fX1_pricesTo n x7 v2 σ) fun x8 => zgR σ 8 v0 0 fun x9 => zck σ 4 x9 (zb (fX3_pricesTo n x9 v2 σ) fun x10 => if x8 = x10 then sX7_audit_35 n σ (sX7_audit_4 n σ k) v0 v1 v2 else sX7_audit_35 n σ (sX7_audit_4 n σ k) v0 (v1 + 1) v2)) else sX7_audit_43 n σ n v0 v1 0
def fX7_audit (n : Nat) (a0 : Nat) (σ : zW) : Option (Int32) := sX7_audit_4 n σ n a0 0 0
theorem gsX7_audit_35 (F : zFx E) (n : Nat) (σ : zW) (hk : zk E K "LotSales" cX7_audit 3 2) (he : zend E K (some .int) "audit") (r4 : Nat → Int32 → Int32 → Option (Int32)) (hr4 : ∀ (v0 : Nat) (v1 : Int32) (v2 : Int32), zG E K (zfR σ) (r4 v0 v1 v2) σ 4 [some (.inr (.inl v0)), some (.inl v1), some (.inl v2)] []) (v0 : Nat) (v1 : Int32) (v2 : Int32) : zG E K (zfR σ) (sX7_audit_35 n σ r4 v0 v1 v2) σ 35 [some (.inr (.inl v0)), some (.inl v1), some (.inl v2)] [] := by
  unfold sX7_audit_35
  refine z_run hk hX7_audit_0 18 1 (pc' := 38) (lv' := [some (.inr (.inl v0)), some (.inl v1), some (.inl (v2 + 1))]) (st' := []) rfl ?_
  refine z_goto hk (z_row hX7_audit_0 19 rfl) (tgt := 4) rfl ?_
  exact hr4 v0 v1 (v2 + 1)
theorem gsX7_audit_72 (F : zFx E) (n : Nat) (σ : zW) (hk : zk E K "LotSales" cX7_audit 3 2) (he : zend E K (some .int) "audit") (r43 : Nat → Int32 → Int32 → Option (Int32)) (hr43 : ∀ (v0 : Nat) (v1 : Int32) (v2 : Int32), zG E K (zfR σ) (r43 v0 v1 v2) σ 43 [some (.inr (.inl v0)), some (.inl v1), some (.inl v2)] []) (v0 : Nat) (v1 : Int32) (v2 : Int32) : zG E K (zfR σ) (sX7_audit_72 n σ r43 v0 v1 v2) σ 72 [some (.inr (.inl v0)), some (.inl v1), some (.inl v2)] [] := by
  unfold sX7_audit_72
  refine z_run hk hX7_audit_0 36 1 (pc' := 75) (lv' := [some (.inr (.inl v0)), some (.inl v1), some (.inl (v2 + 1))]) (st' := []) rfl ?_
  refine z_goto hk (z_row hX7_audit_0 37 rfl) (tgt := 43) rfl ?_
  exact hr43 v0 v1 (v2 + 1)
theorem gsX7_audit_43 (F : zFx E) (n : Nat) (σ : zW) (hk : zk E K "LotSales" cX7_audit 3 2) (he : zend E K (some .int) "audit") : ∀ (k : Nat) (v0 : Nat) (v1 : Int32) (v2 : Int32), zG E K (zfR σ) (sX7_audit_43 n σ k v0 v1 v2) σ 43 [some (.inr (.inl v0)), some (.inl v1), some (.inl v2)] [] := by
  intro k
  induction k with
  | zero =>
    intro v0 v1 v2
    intro hX
    exact z_none hX
  | succ k ih =>
    intro v0 v1 v2
    rw [sX7_audit_43]
    refine z_run hk hX7_audit_0 22 2 (pc' := 46) (lv' := [some (.inr (.inl v0)), some (.inl v1), some (.inl v2)]) (st' := [.inl 6, .inl v2]) rfl ?_
    refine z_cge hk (z_row hX7_audit_0 24 rfl) (tgt := 78) rfl ?_ ?_
    · refine z_run hk hX7_audit_0 38 1 (pc' := 79) (lv' := [some (.inr (.inl v0)), some (.inl v1), some (.inl v2)]) (st' := [.inl v1]) rfl ?_
      exact z_iret hk he (z_row hX7_audit_0 39 rfl) rfl
    · refine z_run hk hX7_audit_0 25 1 (pc' := 50) (lv' := [some (.inr (.inl v0)), some (.inl v1), some (.inl v2)]) (st' := [.inr (.inl v0)]) rfl ?_
      refine z_gR hk 0 (z_row hX7_audit_0 26 rfl) (ci := 7) rfl rfl wd_268 (fun x1 => ?_)
      refine z_run hk hX7_audit_0 27 1 (pc' := 54) (lv' := [some (.inr (.inl v0)), some (.inl v1), some (.inl v2)]) (st' := [.inl v2, .inr (.inl x1)]) rfl ?_
      refine kX3_feesInLedger F hk (z_row hX7_audit_0 28 rfl) wd_306 (by decide) (Nat.le_of_ble_eq_true rfl) (fun x2 => ?_)
      refine z_run hk hX7_audit_0 29 1 (pc' := 58) (lv' := [some (.inr (.inl v0)), some (.inl v1), some (.inl v2)]) (st' := [.inr (.inl v0), .inl x2]) rfl ?_
      refine z_gR hk 0 (z_row hX7_audit_0 30 rfl) (ci := 7) rfl rfl wd_268 (fun x3 => ?_)
      refine z_gR hk 2 (z_row hX7_audit_0 31 rfl) (ci := 3) rfl rfl wd_165 (fun x4 => ?_)
      refine z_run hk hX7_audit_0 32 1 (pc' := 65) (lv' := [some (.inr (.inl v0)), some (.inl v1), some (.inl v2)]) (st' := [.inl v2, .inr (.inl x4), .inl x2]) rfl ?_
      refine z_aI hk (z_row hX7_audit_0 33 rfl) (fun x5 => ?_)
      refine z_ceq hk (z_row hX7_audit_0 34 rfl) (tgt := 72) rfl ?_ ?_
      · exact gsX7_audit_72 F n σ hk he (sX7_audit_43 n σ k) ih v0 v1 v2
      · refine z_run hk hX7_audit_0 35 1 (pc' := 72) (lv' := [some (.inr (.inl v0)), some (.inl (v1 + 1)), some (.inl v2)]) (st' := []) rfl ?_
        exact gsX7_audit_72 F n σ hk he (sX7_audit_43 n σ k) ih v0 (v1 + 1) v2
theorem gsX7_audit_4 (F : zFx E) (n : Nat) (σ : zW) (hk : zk E K "LotSales" cX7_audit 3 2) (he : zend E K (some .int) "audit") : ∀ (k : Nat) (v0 : Nat) (v1 : Int32) (v2 : Int32), zG E K (zfR σ) (sX7_audit_4 n σ k v0 v1 v2) σ 4 [some (.inr (.inl v0)), some (.inl v1), some (.inl v2)] [] := by
  intro k
  induction k with
  | zero =>
    intro v0 v1 v2
    intro hX
    exact z_none hX
  | succ k ih =>
    intro v0 v1 v2
    rw [sX7_audit_4]
    refine z_run hk hX7_audit_0 4 2 (pc' := 7) (lv' := [some (.inr (.inl v0)), some (.inl v1), some (.inl v2)]) (st' := [.inl 10, .inl v2]) rfl ?_
    refine z_cge hk (z_row hX7_audit_0 6 rfl) (tgt := 41) rfl ?_ ?_
    · refine z_run hk hX7_audit_0 20 2 (pc' := 43) (lv' := [some (.inr (.inl v0)), some (.inl v1), some (.inl 0)]) (st' := []) rfl ?_
      exact gsX7_audit_43 F n σ hk he n v0 v1 0
    · refine z_run hk hX7_audit_0 7 1 (pc' := 11) (lv' := [some (.inr (.inl v0)), some (.inl v1), some (.inl v2)]) (st' := [.inr (.inl v0)]) rfl ?_
      refine z_gR hk 0 (z_row hX7_audit_0 8 rfl) (ci := 7) rfl rfl wd_268 (fun x6 => ?_)
      refine z_gR hk 4 (z_row hX7_audit_0 9 rfl) (ci := 3) rfl rfl wd_169 (fun x7 => ?_)
      refine z_run hk hX7_audit_0 10 1 (pc' := 18) (lv' := [some (.inr (.inl v0)), some (.inl v1), some (.inl v2)]) (st' := [.inl v2, .inr (.inl x7)]) rfl ?_
      refine kX1_pricesTo F hk (z_row hX7_audit_0 11 rfl) wd_294 (by decide) (Nat.le_of_ble_eq_true rfl) (fun x8 => ?_)
      refine z_run hk hX7_audit_0 12 1 (pc' := 22) (lv' := [some (.inr (.inl v0)), some (.inl v1), some (.inl v2)]) (st' := [.inr (.inl v0), .inl x8]) rfl ?_
      refine z_gR hk 0 (z_row hX7_audit_0 13 rfl) (ci := 7) rfl rfl wd_268 (fun x9 => ?_)
      refine z_run hk hX7_audit_0 14 1 (pc' := 26) (lv' := [some (.inr (.inl v0)), some (.inl v1), some (.inl v2)]) (st' := [.inl v2, .inr (.inl x9), .inl x8]) rfl ?_
      refine kX3_pricesTo F hk (z_row hX7_audit_0 15 rfl) wd_298 (by decide) (Nat.le_of_ble_eq_true rfl) (fun x10 => ?_)
      refine z_ceq hk (z_row hX7_audit_0 16 rfl) (tgt := 35) rfl ?_ ?_
      · exact gsX7_audit_35 F n σ hk he (sX7_audit_4 n σ k) ih v0 v1 v2
      · refine z_run hk hX7_audit_0 17 1 (pc' := 35) (lv' := [some (.inr (.inl v0)), some (.inl (v1 + 1)), some (.inl v2)]) (st' := []) rfl ?_
        exact gsX7_audit_35 F n σ hk he (sX7_audit_4 n σ k) ih v0 (v1 + 1) v2
theorem mX7_audit (F : zFx E) (n : Nat) (a0 : Nat) (σ : zW) (o : Int32) (hf : fX7_audit n a0 σ = some o) : zM E qX7_audit cX7_audit 3 (some .int) 2 [.inr (.inl a0)] σ (some (.int o)) σ := by
  refine zM_of (fin := (zfR σ)) F (by decide +kernel) rfl (Nat.le_of_ble_eq_true rfl) (lv0 := [some (.inr (.inl a0)), none, none]) rfl hf rfl (fun K hk he => ?_)
  have hk : zk E K "LotSales" cX7_audit 3 2 := hk
  unfold fX7_audit
  refine z_run hk hX7_audit_0 0 4 (pc' := 4) (lv' := [some (.inr (.inl a0)), some (.inl 0), some (.inl 0)]) (st' := []) rfl ?_
  exact gsX7_audit_4 F n σ hk he n a0 0 0
theorem kX7_audit {n : Nat} {own : String} {cc : ByteArray} {nL h index : Nat} {α : Type} {fin : α → zO} {σ : zW} {pc : Nat} {lv : zLV} {st : List zV} {a0 : Nat} {c : Int32 → Option α} (F : zFx E) (hk : zk E K own cc nL h) (hd : decode cc pc = .ok (.invokevirtual index, 3)) (hl : Cond.methodLink own index qX7_audit ∈ lw_tbl) (hh : 2 + 1 ≤ h) (hs : zcat st ≤ 8) (k : ∀ v, zG E K fin (c v) σ (pc + 3) lv (.inl v :: st)) : zG E K fin (zck σ 8 a0 (zb (fX7_audit n a0 σ) c)) σ pc lv (.inr (.inl a0) :: st) :=
  z_vR (n := 0) (y := qX7_audit) (As := []) hk hd hl wd_291 wd_292 wd_1 wd_293 ⟨by decide, by decide, by decide +kernel⟩ ⟨hh, by decide⟩ (ci := 7) rfl rfl rfl (fun o ho => mX7_audit F n a0 σ o ho) hs k
abbrev qX7_append : MethodName := { cls := "LotSales", name := "append", desc := "(C)V" }
def fX7_append (n : Nat) (a0 : Nat) (a1 : Int32) (σ : zW) : Option ((Unit ⊕ Nat) × zW) := zgR σ 8 a0 3 fun x1 => zgI σ 7 x1 2 fun x2 => if x2 < 60 then zgR σ 8 a0 3 fun x3 => zck σ 7 x3 (zb (fX6_add n x3 a1 σ) fun σ4 => some (.inl (), σ4)) else zth σ fun σ5 => some (.inr 3, σ5)
theorem mX7_append (F : zFx E) (n : Nat) (a0 : Nat) (a1 : Int32) (σ : zW) (o : (Unit ⊕ Nat) × zW) (hf : fX7_append n a0 a1 σ = some o) : zMX E qX7_append (.code qX7_append cX7_append 2 none) 6 [.inr (.inl a0), .inl a1] σ (zfU o) := by
  refine zMX_of (fin := zfU) F (by decide +kernel) rfl (Nat.le_of_ble_eq_true rfl) (lv0 := [some (.inr (.inl a0)), some (.inl a1)]) rfl hf rfl (fun K hk he ht => ?_)
  have hk : zk E K "LotSales" cX7_append 2 6 := hk
  unfold fX7_append
  refine z_run hk hX7_append_0 0 1 (pc' := 1) (lv' := [some (.inr (.inl a0)), some (.inl a1)]) (st' := [.inr (.inl a0)]) rfl ?_
  refine z_gR hk 3 (z_row hX7_append_0 1 rfl) (ci := 7) rfl rfl wd_271 (fun x1 => ?_)
  refine z_gI hk 2 (z_row hX7_append_0 2 rfl) (ci := 6) rfl rfl wd_248 (fun x2 => ?_)
  refine z_run hk hX7_append_0 3 1 (pc' := 9) (lv' := [some (.inr (.inl a0)), some (.inl a1)]) (st' := [.inl 60, .inl x2]) rfl ?_
  refine z_clt hk (z_row hX7_append_0 4 rfl) (tgt := 23) rfl ?_ ?_
  · refine z_run hk hX7_append_0 10 1 (pc' := 24) (lv' := [some (.inr (.inl a0)), some (.inl a1)]) (st' := [.inr (.inl a0)]) rfl ?_
    refine z_gR hk 3 (z_row hX7_append_0 11 rfl) (ci := 7) rfl rfl wd_271 (fun x3 => ?_)
    refine z_run hk hX7_append_0 12 1 (pc' := 28) (lv' := [some (.inr (.inl a0)), some (.inl a1)]) (st' := [.inl a1, .inr (.inl x3)]) rfl ?_
    refine kX6_add F hk (z_row hX7_append_0 13 rfl) wd_1045 (by decide) (Nat.le_of_ble_eq_true rfl) (fun σ4 => ?_)
    exact z_vret hk he (z_row hX7_append_0 14 rfl) rfl
  · exact z_throwW hk ht (is := 351) (text := "the buffer is full") (kx := 3) (by decide) (by decide) (by decide) (fun _ => rfl) (fun _ => rfl) wd_1044 wd_430 wd_15 (by decide +kernel) (z_row hX7_append_0 5 rfl) (z_row hX7_append_0 6 rfl) (z_row hX7_append_0 7 rfl) (z_row hX7_append_0 8 rfl) (z_row hX7_append_0 9 rfl) (by decide) (Nat.le_of_ble_eq_true rfl)
theorem kX7_append {n : Nat} {own : String} {cc : ByteArray} {nL h index : Nat} {α : Type} {fin : α → zO} {σ : zW} {pc : Nat} {lv : zLV} {st : List zV} {a0 : Nat} {a1 : Int32} {c : Unit → zW → Option α} {t : Nat → zW → Option α} (F : zFx E) (hk : zk E K own cc nL h) (hd : decode cc pc = .ok (.invokevirtual index, 3)) (hl : Cond.methodLink own index qX7_append ∈ lw_tbl) (hh : 6 + 1 ≤ h) (hs : zcat st ≤ 8) (k : ∀ v s, zG E K fin (c v s) s (pc + 3) lv (st)) (kt : ∀ kx s, zT E K fin (t kx s) kx s pc lv) : zG E K fin (zck σ 8 a0 (zbx (fX7_append n a0 a1 σ) c t)) σ pc lv (.inl a1 :: .inr (.inl a0) :: st) :=
  z_vU (n := 1) (y := qX7_append) (As := [.inl a1]) hk hd hl wd_1041 wd_1042 wd_1 wd_1043 ⟨by decide, by decide, by decide +kernel⟩ ⟨hh, by decide⟩ (ci := 7) rfl rfl rfl (fun o ho => mX7_append F n a0 a1 σ o ho) hs k kt
abbrev qX7_carryOut : MethodName := { cls := "LotSales", name := "carryOut", desc := "()I" }
def fX7_carryOut (n : Nat) (a0 : Nat) (σ : zW) : Option (Int32 × zW) := zgR σ 8 a0 3 fun x1 => zgR σ 7 x1 1 fun x2 => zaI σ x2 0 fun x3 => zgR σ 8 a0 3 fun x4 => zgR σ 7 x4 1 fun x5 => zaI σ x5 1 fun x6 => zgR σ 8 a0 3 fun x7 => zgR σ 7 x7 1 fun x8 => zaI σ x8 2 fun x9 => zgR σ 8 a0 3 fun x10 => zgI σ 7 x10 5 fun x11 => if x11 = 97 then zck σ 8 a0 (zb2 (fX7_tryOrder n a0 x3 x6 x9 σ) fun x12 σ13 => some (x12, σ13)) else if x11 = 98 then zck σ 8 a0 (zb2 (fX7_tryBid n a0 x3 x6 x9 σ) fun x14 σ15 => some (x14, σ15)) else if x11 = 104 then zck σ 8 a0 (zb2 (fX7_tryClose n a0 x3 σ) fun x16 σ17 => some (x16, σ17)) else if x11 = 111 then zck σ 8 a0 (zb2 (fX7_tryOpen n a0 x3 σ) fun x18 σ19 => some (x18, σ19)) else if x11 = 119 then zck σ 8 a0 (zb2 (fX7_tryWithdraw n a0 x3 σ) fun x20 σ21 => some (x20, σ21)) else zck σ 8 a0 (zb2 (fX7_tryCancel n a0 x3 x6 σ) fun x22 σ23 => some (x22, σ23))
theorem mX7_carryOut (F : zFx E) (n : Nat) (a0 : Nat) (σ : zW) (o : Int32 × zW) (hf : fX7_carryOut n a0 σ = some o) : zM E qX7_carryOut cX7_carryOut 4 (some .int) 6 [.inr (.inl a0)] σ (some (.int o.1)) o.2 := by
  refine zM_of (fin := zfW) F (by decide +kernel) rfl (Nat.le_of_ble_eq_true rfl) (lv0 := [some (.inr (.inl a0)), none, none, none]) rfl hf rfl (fun K hk he => ?_)
  have hk : zk E K "LotSales" cX7_carryOut 4 6 := hk
  unfold fX7_carryOut
  refine z_run hk hX7_carryOut_0 0 1 (pc' := 1) (lv' := [some (.inr (.inl a0)), none, none, none]) (st' := [.inr (.inl a0)]) rfl ?_
  refine z_gR hk 3 (z_row hX7_carryOut_0 1 rfl) (ci := 7) rfl rfl wd_271 (fun x1 => ?_)
  refine z_gR hk 1 (z_row hX7_carryOut_0 2 rfl) (ci := 6) rfl rfl wd_246 (fun x2 => ?_)
  refine z_run hk hX7_carryOut_0 3 1 (pc' := 8) (lv' := [some (.inr (.inl a0)), none, none, none]) (st' := [.inl 0, .inr (.inl x2)]) rfl ?_
  refine z_aI hk (z_row hX7_carryOut_0 4 rfl) (fun x3 => ?_)
  refine z_run hk hX7_carryOut_0 5 2 (pc' := 11) (lv' := [some (.inr (.inl a0)), some (.inl x3), none, none]) (st' := [.inr (.inl a0)]) rfl ?_
  refine z_gR hk 3 (z_row hX7_carryOut_0 7 rfl) (ci := 7) rfl rfl wd_271 (fun x4 => ?_)
  refine z_gR hk 1 (z_row hX7_carryOut_0 8 rfl) (ci := 6) rfl rfl wd_246 (fun x5 => ?_)
  refine z_run hk hX7_carryOut_0 9 1 (pc' := 18) (lv' := [some (.inr (.inl a0)), some (.inl x3), none, none]) (st' := [.inl 1, .inr (.inl x5)]) rfl ?_
  refine z_aI hk (z_row hX7_carryOut_0 10 rfl) (fun x6 => ?_)
  refine z_run hk hX7_carryOut_0 11 2 (pc' := 21) (lv' := [some (.inr (.inl a0)), some (.inl x3), some (.inl x6), none]) (st' := [.inr (.inl a0)]) rfl ?_
  refine z_gR hk 3 (z_row hX7_carryOut_0 13 rfl) (ci := 7) rfl rfl wd_271 (fun x7 => ?_)
  refine z_gR hk 1 (z_row hX7_carryOut_0 14 rfl) (ci := 6) rfl rfl wd_246 (fun x8 => ?_)
  refine z_run hk hX7_carryOut_0 15 1 (pc' := 28) (lv' := [some (.inr (.inl a0)), some (.inl x3), some (.inl x6), none]) (st' := [.inl 2, .inr (.inl x8)]) rfl ?_
  refine z_aI hk (z_row hX7_carryOut_0 16 rfl) (fun x9 => ?_)
  refine z_run hk hX7_carryOut_0 17 2 (pc' := 31) (lv' := [some (.inr (.inl a0)), some (.inl x3), some (.inl x6), some (.inl x9)]) (st' := [.inr (.inl a0)]) rfl ?_
  refine z_gR hk 3 (z_row hX7_carryOut_0 19 rfl) (ci := 7) rfl rfl wd_271 (fun x10 => ?_)
  refine z_gI hk 5 (z_row hX7_carryOut_0 20 rfl) (ci := 6) rfl rfl wd_253 (fun x11 => ?_)
  refine z_lkI hk (z_row hX7_carryOut_0 21 rfl) (c := 97) (tgt := 114) (by decide) (by decide) ?_ (fun hn0 => ?_)
  · refine z_run hk hX7_carryOut_0 40 4 (pc' := 118) (lv' := [some (.inr (.inl a0)), some (.inl x3), some (.inl x6), some (.inl x9)]) (st' := [.inl x9, .inl x6, .inl x3, .inr (.inl a0)]) rfl ?_
    refine kX7_tryOrder F hk (z_row hX7_carryOut_0 44 rfl) wd_615 (by decide) (Nat.le_of_ble_eq_true rfl) (fun x12 σ13 => ?_)
    exact z_iret hk he (z_row hX7_carryOut_0 45 rfl) rfl
  refine z_lkI hk (z_row hX7_carryOut_0 21 rfl) (c := 98) (tgt := 106) (by decide) (by decide) ?_ (fun hn1 => ?_)
  · refine z_run hk hX7_carryOut_0 34 4 (pc' := 110) (lv' := [some (.inr (.inl a0)), some (.inl x3), some (.inl x6), some (.inl x9)]) (st' := [.inl x9, .inl x6, .inl x3, .inr (.inl a0)]) rfl ?_
    refine kX7_tryBid F hk (z_row hX7_carryOut_0 38 rfl) wd_743 (by decide) (Nat.le_of_ble_eq_true rfl) (fun x14 σ15 => ?_)
    exact z_iret hk he (z_row hX7_carryOut_0 39 rfl) rfl
  refine z_lkI hk (z_row hX7_carryOut_0 21 rfl) (c := 104) (tgt := 94) (by decide) (by decide) ?_ (fun hn2 => ?_)
  · refine z_run hk hX7_carryOut_0 26 2 (pc' := 96) (lv' := [some (.inr (.inl a0)), some (.inl x3), some (.inl x6), some (.inl x9)]) (st' := [.inl x3, .inr (.inl a0)]) rfl ?_
    refine kX7_tryClose F hk (z_row hX7_carryOut_0 28 rfl) wd_829 (by decide) (Nat.le_of_ble_eq_true rfl) (fun x16 σ17 => ?_)
    exact z_iret hk he (z_row hX7_carryOut_0 29 rfl) rfl
  refine z_lkI hk (z_row hX7_carryOut_0 21 rfl) (c := 111) (tgt := 88) (by decide) (by decide) ?_ (fun hn3 => ?_)
  · refine z_run hk hX7_carryOut_0 22 2 (pc' := 90) (lv' := [some (.inr (.inl a0)), some (.inl x3), some (.inl x6), some (.inl x9)]) (st' := [.inl x3, .inr (.inl a0)]) rfl ?_
    refine kX7_tryOpen F hk (z_row hX7_carryOut_0 24 rfl) wd_711 (by decide) (Nat.le_of_ble_eq_true rfl) (fun x18 σ19 => ?_)
    exact z_iret hk he (z_row hX7_carryOut_0 25 rfl) rfl
  refine z_lkI hk (z_row hX7_carryOut_0 21 rfl) (c := 119) (tgt := 100) (by decide) (by decide) ?_ (fun hn4 => ?_)
  · refine z_run hk hX7_carryOut_0 30 2 (pc' := 102) (lv' := [some (.inr (.inl a0)), some (.inl x3), some (.inl x6), some (.inl x9)]) (st' := [.inl x3, .inr (.inl a0)]) rfl ?_
    refine kX7_tryWithdraw F hk (z_row hX7_carryOut_0 32 rfl) wd_856 (by decide) (Nat.le_of_ble_eq_true rfl) (fun x20 σ21 => ?_)
    exact z_iret hk he (z_row hX7_carryOut_0 33 rfl) rfl
  refine z_lkO hk (z_row hX7_carryOut_0 21 rfl) (tgt := 122) (by decide) (by rw [lv_osw hn0 (by decide), lv_osw hn1 (by decide), lv_osw hn2 (by decide), lv_osw hn3 (by decide), lv_osw hn4 (by decide), Op.lookupswitch.offset_nil]) rfl ?_
  refine z_run hk hX7_carryOut_0 46 3 (pc' := 125) (lv' := [some (.inr (.inl a0)), some (.inl x3), some (.inl x6), some (.inl x9)]) (st' := [.inl x6, .inl x3, .inr (.inl a0)]) rfl ?_
  refine kX7_tryCancel F hk (z_row hX7_carryOut_0 49 rfl) wd_685 (by decide) (Nat.le_of_ble_eq_true rfl) (fun x22 σ23 => ?_)
  exact z_iret hk he (z_row hX7_carryOut_0 50 rfl) rfl
theorem kX7_carryOut {n : Nat} {own : String} {cc : ByteArray} {nL h index : Nat} {α : Type} {fin : α → zO} {σ : zW} {pc : Nat} {lv : zLV} {st : List zV} {a0 : Nat} {c : Int32 → zW → Option α} (F : zFx E) (hk : zk E K own cc nL h) (hd : decode cc pc = .ok (.invokevirtual index, 3)) (hl : Cond.methodLink own index qX7_carryOut ∈ lw_tbl) (hh : 6 + 1 ≤ h) (hs : zcat st ≤ 8) (k : ∀ v s, zG E K fin (c v s) s (pc + 3) lv (.inl v :: st)) : zG E K fin (zck σ 8 a0 (zb2 (fX7_carryOut n a0 σ) c)) σ pc lv (.inr (.inl a0) :: st) :=
  z_vW (n := 0) (y := qX7_carryOut) (As := []) hk hd hl wd_1086 ws_14 wd_1 wd_1087 ⟨by decide, by decide, by decide +kernel⟩ ⟨hh, by decide⟩ (ci := 7) rfl rfl rfl (fun o ho => mX7_carryOut F n a0 σ o ho) hs k
abbrev qX7_read : MethodName := { cls := "LotSales", name := "read", desc := "()I" }
def sX7_read_74 (n : Nat) (v0 : Nat) (v1 : Int32) (σ : zW) : Option ((Int32 ⊕ Nat) × zW) := zgR σ 8 v0 3 fun x1 => zck σ 7 x1 (zb (fX6_empty n x1 σ) fun σ2 => some (.inl v1, σ2))
def sX7_read_39 (n : Nat) : Nat → Nat → Int32 → zW → Option ((Int32 ⊕ Nat) × zW)
  | 0, _, _, _ => none
  | k + 1, v0, v1, σ => zgR σ 8 v0 3 fun x3 => zgI σ 7 x3 4 fun x4 => if v1 < x4 then zgR σ 8 v0 3 fun x5 => zck σ 7 x5 (zb2 (fX6_readNext n x5 v1 σ) fun x6 σ7 => if x6 = 0 then sX7_read_74 n v0 v1 σ7 else zck σ7 8 v0 (zb2 (fX7_carryOut n v0 σ7) fun x8 σ9 => if x8 < 0 then sX7_read_74 n v0 v1 σ9 else sX7_read_39 n k v0 (v1 + 1) σ9)) else sX7_read_74 n v0 v1 σ
def fX7_read (n : Nat) (a0 : Nat) (σ : zW) : Option ((Int32 ⊕ Nat) × zW) := zgR σ 8 a0 3 fun x10 => zck σ 7 x10 (zb2 (fX6_findFault n x10 σ) fun x11 σ12 => zpI σ12 8 a0 6 x11 fun σ13 => zgI σ13 8 a0 6 fun x14 => if x14 = (-1) then sX7_read_39 n n a0 0 σ13 else zgR σ13 8 a0 3 fun x15 => zck σ13 7 x15 (zb (fX6_empty n x15 σ13) fun σ16 => zth σ16 fun σ17 => some (.inr 2, σ17)))
theorem gsX7_read_74 (F : zFx E) (n : Nat) (hk : zk E K "LotSales" cX7_read 2 7) (he : zend E K (some .int) "read") (ht : zthr E K) (v0 : Nat) (v1 : Int32) (σ : zW) : zG E K zfT (sX7_read_74 n v0 v1 σ) σ 74 [some (.inr (.inl v0)), some (.inl v1)] [] := by
  unfold sX7_read_74
  refine z_run hk hX7_read_0 34 1 (pc' := 75) (lv' := [some (.inr (.inl v0)), some (.inl v1)]) (st' := [.inr (.inl v0)]) rfl ?_
  refine z_gR hk 3 (z_row hX7_read_0 35 rfl) (ci := 7) rfl rfl wd_271 (fun x1 => ?_)
  refine kX6_empty F hk (z_row hX7_read_0 36 rfl) wd_1075 (by decide) (Nat.le_of_ble_eq_true rfl) (fun σ2 => ?_)
  refine z_run hk hX7_read_0 37 1 (pc' := 82) (lv' := [some (.inr (.inl v0)), some (.inl v1)]) (st' := [.inl v1]) rfl ?_
  exact z_iret hk he (z_row hX7_read_0 38 rfl) rfl
theorem gsX7_read_39 (F : zFx E) (n : Nat) (hk : zk E K "LotSales" cX7_read 2 7) (he : zend E K (some .int) "read") (ht : zthr E K) : ∀ (k : Nat) (v0 : Nat) (v1 : Int32) (σ : zW), zG E K zfT (sX7_read_39 n k v0 v1 σ) σ 39 [some (.inr (.inl v0)), some (.inl v1)] [] := by
  intro k
  induction k with
  | zero =>
    intro v0 v1 σ
    intro hX
    exact z_none hX
  | succ k ih =>
    intro v0 v1 σ
    rw [sX7_read_39]
    refine z_run hk hX7_read_0 19 2 (pc' := 41) (lv' := [some (.inr (.inl v0)), some (.inl v1)]) (st' := [.inr (.inl v0), .inl v1]) rfl ?_
    refine z_gR hk 3 (z_row hX7_read_0 21 rfl) (ci := 7) rfl rfl wd_271 (fun x3 => ?_)
    refine z_gI hk 4 (z_row hX7_read_0 22 rfl) (ci := 6) rfl rfl wd_251 (fun x4 => ?_)
    refine z_cge hk (z_row hX7_read_0 23 rfl) (tgt := 74) rfl ?_ ?_
    · exact gsX7_read_74 F n hk he ht v0 v1 σ
    · refine z_run hk hX7_read_0 24 1 (pc' := 51) (lv' := [some (.inr (.inl v0)), some (.inl v1)]) (st' := [.inr (.inl v0)]) rfl ?_
      refine z_gR hk 3 (z_row hX7_read_0 25 rfl) (ci := 7) rfl rfl wd_271 (fun x5 => ?_)
      refine z_run hk hX7_read_0 26 1 (pc' := 55) (lv' := [some (.inr (.inl v0)), some (.inl v1)]) (st' := [.inl v1, .inr (.inl x5)]) rfl ?_
      refine kX6_readNext F hk (z_row hX7_read_0 27 rfl) wd_1080 (by decide) (Nat.le_of_ble_eq_true rfl) (fun x6 σ7 => ?_)
      refine z_eq hk (z_row hX7_read_0 28 rfl) (tgt := 74) rfl ?_ ?_
      · exact gsX7_read_74 F n hk he ht v0 v1 σ7
      · refine z_run hk hX7_read_0 29 1 (pc' := 62) (lv' := [some (.inr (.inl v0)), some (.inl v1)]) (st' := [.inr (.inl v0)]) rfl ?_
        refine kX7_carryOut F hk (z_row hX7_read_0 30 rfl) wd_1084 (by decide) (Nat.le_of_ble_eq_true rfl) (fun x8 σ9 => ?_)
        refine z_lt hk (z_row hX7_read_0 31 rfl) (tgt := 74) rfl ?_ ?_
        · exact gsX7_read_74 F n hk he ht v0 v1 σ9
        · refine z_run hk hX7_read_0 32 1 (pc' := 71) (lv' := [some (.inr (.inl v0)), some (.inl (v1 + 1))]) (st' := []) rfl ?_
          refine z_goto hk (z_row hX7_read_0 33 rfl) (tgt := 39) rfl ?_
          exact ih v0 (v1 + 1) σ9
theorem mX7_read (F : zFx E) (n : Nat) (a0 : Nat) (σ : zW) (o : (Int32 ⊕ Nat) × zW) (hf : fX7_read n a0 σ = some o) : zMX E qX7_read (.code qX7_read cX7_read 2 (some .int)) 7 [.inr (.inl a0)] σ (zfT o) := by
  refine zMX_of (fin := zfT) F (by decide +kernel) rfl (Nat.le_of_ble_eq_true rfl) (lv0 := [some (.inr (.inl a0)), none]) rfl hf rfl (fun K hk he ht => ?_)
  have hk : zk E K "LotSales" cX7_read 2 7 := hk
  unfold fX7_read
  refine z_run hk hX7_read_0 0 2 (pc' := 2) (lv' := [some (.inr (.inl a0)), none]) (st' := [.inr (.inl a0), .inr (.inl a0)]) rfl ?_
  refine z_gR hk 3 (z_row hX7_read_0 2 rfl) (ci := 7) rfl rfl wd_271 (fun x10 => ?_)
  refine kX6_findFault F hk (z_row hX7_read_0 3 rfl) wd_1056 (by decide) (Nat.le_of_ble_eq_true rfl) (fun x11 σ12 => ?_)
  refine z_pI hk 6 (z_row hX7_read_0 4 rfl) (ci := 7) rfl rfl wd_274 rfl rfl rfl (fun σ13 => ?_)
  refine z_run hk hX7_read_0 5 1 (pc' := 12) (lv' := [some (.inr (.inl a0)), none]) (st' := [.inr (.inl a0)]) rfl ?_
  refine z_gI hk 6 (z_row hX7_read_0 6 rfl) (ci := 7) rfl rfl wd_274 (fun x14 => ?_)
  refine z_run hk hX7_read_0 7 1 (pc' := 16) (lv' := [some (.inr (.inl a0)), none]) (st' := [.inl (-1), .inl x14]) rfl ?_
  refine z_ceq hk (z_row hX7_read_0 8 rfl) (tgt := 37) rfl ?_ ?_
  · refine z_run hk hX7_read_0 17 2 (pc' := 39) (lv' := [some (.inr (.inl a0)), some (.inl 0)]) (st' := []) rfl ?_
    exact gsX7_read_39 F n hk he ht n a0 0 σ13
  · refine z_run hk hX7_read_0 9 1 (pc' := 20) (lv' := [some (.inr (.inl a0)), none]) (st' := [.inr (.inl a0)]) rfl ?_
    refine z_gR hk 3 (z_row hX7_read_0 10 rfl) (ci := 7) rfl rfl wd_271 (fun x15 => ?_)
    refine kX6_empty F hk (z_row hX7_read_0 11 rfl) wd_1075 (by decide) (Nat.le_of_ble_eq_true rfl) (fun σ16 => ?_)
    exact z_throwW hk ht (is := 363) (text := "the text has a fault") (kx := 2) (by decide) (by decide) (by decide) (fun _ => rfl) (fun _ => rfl) wd_1079 wd_353 wd_14 (by decide +kernel) (z_row hX7_read_0 12 rfl) (z_row hX7_read_0 13 rfl) (z_row hX7_read_0 14 rfl) (z_row hX7_read_0 15 rfl) (z_row hX7_read_0 16 rfl) (by decide) (Nat.le_of_ble_eq_true rfl)
theorem kX7_read {n : Nat} {own : String} {cc : ByteArray} {nL h index : Nat} {α : Type} {fin : α → zO} {σ : zW} {pc : Nat} {lv : zLV} {st : List zV} {a0 : Nat} {c : Int32 → zW → Option α} {t : Nat → zW → Option α} (F : zFx E) (hk : zk E K own cc nL h) (hd : decode cc pc = .ok (.invokevirtual index, 3)) (hl : Cond.methodLink own index qX7_read ∈ lw_tbl) (hh : 7 + 1 ≤ h) (hs : zcat st ≤ 8) (k : ∀ v s, zG E K fin (c v s) s (pc + 3) lv (.inl v :: st)) (kt : ∀ kx s, zT E K fin (t kx s) kx s pc lv) : zG E K fin (zck σ 8 a0 (zbx (fX7_read n a0 σ) c t)) σ pc lv (.inr (.inl a0) :: st) :=
  z_vT (n := 0) (y := qX7_read) (As := []) hk hd hl wd_1053 wd_1054 wd_1 wd_1055 ⟨by decide, by decide, by decide +kernel⟩ ⟨hh, by decide⟩ (ci := 7) rfl rfl rfl (fun o ho => mX7_read F n a0 σ o ho) hs k kt
abbrev qX7_faultPosition : MethodName := { cls := "LotSales", name := "faultPosition", desc := "()I" }
def fX7_faultPosition (n : Nat) (a0 : Nat) (σ : zW) : Option (Int32) := zgI σ 8 a0 6 fun x1 => some x1
theorem mX7_faultPosition (F : zFx E) (n : Nat) (a0 : Nat) (σ : zW) (o : Int32) (hf : fX7_faultPosition n a0 σ = some o) : zM E qX7_faultPosition cX7_faultPosition 1 (some .int) 0 [.inr (.inl a0)] σ (some (.int o)) σ := by
  refine zM_of (fin := (zfR σ)) F (by decide +kernel) rfl (Nat.le_of_ble_eq_true rfl) (lv0 := [some (.inr (.inl a0))]) rfl hf rfl (fun K hk he => ?_)
  have hk : zk E K "LotSales" cX7_faultPosition 1 0 := hk
  unfold fX7_faultPosition
  refine z_run hk hX7_faultPosition_0 0 1 (pc' := 1) (lv' := [some (.inr (.inl a0))]) (st' := [.inr (.inl a0)]) rfl ?_
  refine z_gI hk 6 (z_row hX7_faultPosition_0 1 rfl) (ci := 7) rfl rfl wd_274 (fun x1 => ?_)
  exact z_iret hk he (z_row hX7_faultPosition_0 2 rfl) rfl
theorem kX7_faultPosition {n : Nat} {own : String} {cc : ByteArray} {nL h index : Nat} {α : Type} {fin : α → zO} {σ : zW} {pc : Nat} {lv : zLV} {st : List zV} {a0 : Nat} {c : Int32 → Option α} (F : zFx E) (hk : zk E K own cc nL h) (hd : decode cc pc = .ok (.invokevirtual index, 3)) (hl : Cond.methodLink own index qX7_faultPosition ∈ lw_tbl) (hh : 0 + 1 ≤ h) (hs : zcat st ≤ 8) (k : ∀ v, zG E K fin (c v) σ (pc + 3) lv (.inl v :: st)) : zG E K fin (zck σ 8 a0 (zb (fX7_faultPosition n a0 σ) c)) σ pc lv (.inr (.inl a0) :: st) :=
  z_vR (n := 0) (y := qX7_faultPosition) (As := []) hk hd hl wd_315 wd_316 wd_1 wd_317 ⟨by decide, by decide, by decide +kernel⟩ ⟨hh, by decide⟩ (ci := 7) rfl rfl rfl (fun o ho => mX7_faultPosition F n a0 σ o ho) hs k
abbrev qX7_undo : MethodName := { cls := "LotSales", name := "undo", desc := "()I" }
def fX7_undo (n : Nat) (a0 : Nat) (σ : zW) : Option ((Int32 ⊕ Nat) × zW) := zgR σ 8 a0 2 fun x1 => zgI σ 1 x1 2 fun x2 => if x2 = 0 then zth σ fun σ8 => some (.inr 3, σ8) else zgR σ 8 a0 2 fun x3 => zgR σ 8 a0 0 fun x4 => zck σ 1 x3 (zb (fX0_giveBack n x3 x4 σ) fun σ5 => zgR σ5 8 a0 2 fun x6 => zgI σ5 1 x6 2 fun x7 => some (.inl x7, σ5))
theorem mX7_undo (F : zFx E) (n : Nat) (a0 : Nat) (σ : zW) (o : (Int32 ⊕ Nat) × zW) (hf : fX7_undo n a0 σ = some o) : zMX E qX7_undo (.code qX7_undo cX7_undo 1 (some .int)) 6 [.inr (.inl a0)] σ (zfT o) := by
  refine zMX_of (fin := zfT) F (by decide +kernel) rfl (Nat.le_of_ble_eq_true rfl) (lv0 := [some (.inr (.inl a0))]) rfl hf rfl (fun K hk he ht => ?_)
  have hk : zk E K "LotSales" cX7_undo 1 6 := hk
  unfold fX7_undo
  refine z_run hk hX7_undo_0 0 1 (pc' := 1) (lv' := [some (.inr (.inl a0))]) (st' := [.inr (.inl a0)]) rfl ?_
  refine z_gR hk 2 (z_row hX7_undo_0 1 rfl) (ci := 7) rfl rfl wd_270 (fun x1 => ?_)
  refine z_gI hk 2 (z_row hX7_undo_0 2 rfl) (ci := 0) rfl rfl wd_230 (fun x2 => ?_)
  refine z_ne hk (z_row hX7_undo_0 3 rfl) (tgt := 21) rfl ?_ ?_
  · refine z_run hk hX7_undo_0 9 1 (pc' := 22) (lv' := [some (.inr (.inl a0))]) (st' := [.inr (.inl a0)]) rfl ?_
    refine z_gR hk 2 (z_row hX7_undo_0 10 rfl) (ci := 7) rfl rfl wd_270 (fun x3 => ?_)
    refine z_run hk hX7_undo_0 11 1 (pc' := 26) (lv' := [some (.inr (.inl a0))]) (st' := [.inr (.inl a0), .inr (.inl x3)]) rfl ?_
    refine z_gR hk 0 (z_row hX7_undo_0 12 rfl) (ci := 7) rfl rfl wd_268 (fun x4 => ?_)
    refine kX0_giveBack F hk (z_row hX7_undo_0 13 rfl) wd_1096 (by decide) (Nat.le_of_ble_eq_true rfl) (fun σ5 => ?_)
    refine z_run hk hX7_undo_0 14 1 (pc' := 33) (lv' := [some (.inr (.inl a0))]) (st' := [.inr (.inl a0)]) rfl ?_
    refine z_gR hk 2 (z_row hX7_undo_0 15 rfl) (ci := 7) rfl rfl wd_270 (fun x6 => ?_)
    refine z_gI hk 2 (z_row hX7_undo_0 16 rfl) (ci := 0) rfl rfl wd_230 (fun x7 => ?_)
    exact z_iret hk he (z_row hX7_undo_0 17 rfl) rfl
  · exact z_throwW hk ht (is := 375) (text := "no change is kept") (kx := 3) (by decide) (by decide) (by decide) (fun _ => rfl) (fun _ => rfl) wd_1095 wd_430 wd_15 (by decide +kernel) (z_row hX7_undo_0 4 rfl) (z_row hX7_undo_0 5 rfl) (z_row hX7_undo_0 6 rfl) (z_row hX7_undo_0 7 rfl) (z_row hX7_undo_0 8 rfl) (by decide) (Nat.le_of_ble_eq_true rfl)
theorem kX7_undo {n : Nat} {own : String} {cc : ByteArray} {nL h index : Nat} {α : Type} {fin : α → zO} {σ : zW} {pc : Nat} {lv : zLV} {st : List zV} {a0 : Nat} {c : Int32 → zW → Option α} {t : Nat → zW → Option α} (F : zFx E) (hk : zk E K own cc nL h) (hd : decode cc pc = .ok (.invokevirtual index, 3)) (hl : Cond.methodLink own index qX7_undo ∈ lw_tbl) (hh : 6 + 1 ≤ h) (hs : zcat st ≤ 8) (k : ∀ v s, zG E K fin (c v s) s (pc + 3) lv (.inl v :: st)) (kt : ∀ kx s, zT E K fin (t kx s) kx s pc lv) : zG E K fin (zck σ 8 a0 (zbx (fX7_undo n a0 σ) c t)) σ pc lv (.inr (.inl a0) :: st) :=
  z_vT (n := 0) (y := qX7_undo) (As := []) hk hd hl wd_1092 wd_1093 wd_1 wd_1094 ⟨by decide, by decide, by decide +kernel⟩ ⟨hh, by decide⟩ (ci := 7) rfl rfl rfl (fun o ho => mX7_undo F n a0 σ o ho) hs k kt
abbrev qX7_save : MethodName := { cls := "LotSales", name := "save", desc := "()V" }
def sX7_save_18 (n : Nat) (v0 : Nat) (σ : zW) : Option (zW) := zgR σ 8 v0 4 fun x1 => zgR σ 8 v0 0 fun x2 => zck σ 4 x1 (zb (fX3_take n x1 x2 σ) fun σ3 => some σ3)
def fX7_save (n : Nat) (a0 : Nat) (σ : zW) : Option (zW) := zgR σ 8 a0 4 fun x4 => if x4 = 0 then znO σ 4 7 fun q5 σ6 => if q5 = 0 then none else (zb (fX3_init n q5 σ6) fun σ7 => zpR σ7 8 a0 4 q5 fun σ8 => sX7_save_18 n a0 σ8) else sX7_save_18 n a0 σ
theorem gsX7_save_18 (F : zFx E) (n : Nat) (hk : zk E K "LotSales" cX7_save 1 4) (he : zend E K none "save") (v0 : Nat) (σ : zW) : zG E K zfV (sX7_save_18 n v0 σ) σ 18 [some (.inr (.inl v0))] [] := by
  unfold sX7_save_18
  refine z_run hk hX7_save_0 8 1 (pc' := 19) (lv' := [some (.inr (.inl v0))]) (st' := [.inr (.inl v0)]) rfl ?_
  refine z_gR hk 4 (z_row hX7_save_0 9 rfl) (ci := 7) rfl rfl wd_272 (fun x1 => ?_)
  refine z_run hk hX7_save_0 10 1 (pc' := 23) (lv' := [some (.inr (.inl v0))]) (st' := [.inr (.inl v0), .inr (.inl x1)]) rfl ?_
  refine z_gR hk 0 (z_row hX7_save_0 11 rfl) (ci := 7) rfl rfl wd_268 (fun x2 => ?_)
  refine kX3_take F hk (z_row hX7_save_0 12 rfl) wd_322 (by decide) (Nat.le_of_ble_eq_true rfl) (fun σ3 => ?_)
  exact z_vret hk he (z_row hX7_save_0 13 rfl) rfl
theorem mX7_save (F : zFx E) (n : Nat) (a0 : Nat) (σ : zW) (o : zW) (hf : fX7_save n a0 σ = some o) : zM E qX7_save cX7_save 1 none 4 [.inr (.inl a0)] σ none o := by
  refine zM_of (fin := zfV) F (by decide +kernel) rfl (Nat.le_of_ble_eq_true rfl) (lv0 := [some (.inr (.inl a0))]) rfl hf rfl (fun K hk he => ?_)
  have hk : zk E K "LotSales" cX7_save 1 4 := hk
  unfold fX7_save
  refine z_run hk hX7_save_0 0 1 (pc' := 1) (lv' := [some (.inr (.inl a0))]) (st' := [.inr (.inl a0)]) rfl ?_
  refine z_gR hk 4 (z_row hX7_save_0 1 rfl) (ci := 7) rfl rfl wd_272 (fun x4 => ?_)
  refine z_nn hk (z_row hX7_save_0 2 rfl) (tgt := 18) rfl ?_ ?_
  · exact gsX7_save_18 F n hk he a0 σ
  · refine z_run hk hX7_save_0 3 1 (pc' := 8) (lv' := [some (.inr (.inl a0))]) (st' := [.inr (.inl a0)]) rfl ?_
    refine z_new hk (z_row hX7_save_0 4 rfl) (ci := 3) rfl wd_31 wd_32 wd_2 (fun q5 σ6 => ?_)
    refine z_run hk hX7_save_0 5 1 (pc' := 12) (lv' := [some (.inr (.inl a0))]) (st' := [.inr (.inl q5), .inr (.inl q5), .inr (.inl a0)]) rfl ?_
    refine kX3_init F hk (z_row hX7_save_0 6 rfl) wd_33 (by decide) (Nat.le_of_ble_eq_true rfl) (fun σ7 => ?_)
    refine z_pR hk 4 (z_row hX7_save_0 7 rfl) (ci := 7) rfl rfl wd_272 (fun h => absurd h (by decide)) (fun _ => ⟨rfl, rfl, rfl, rfl⟩) (fun σ8 => ?_)
    exact gsX7_save_18 F n hk he a0 σ8
theorem kX7_save {n : Nat} {own : String} {cc : ByteArray} {nL h index : Nat} {α : Type} {fin : α → zO} {σ : zW} {pc : Nat} {lv : zLV} {st : List zV} {a0 : Nat} {c : zW → Option α} (F : zFx E) (hk : zk E K own cc nL h) (hd : decode cc pc = .ok (.invokevirtual index, 3)) (hl : Cond.methodLink own index qX7_save ∈ lw_tbl) (hh : 4 + 1 ≤ h) (hs : zcat st ≤ 8) (k : ∀ s, zG E K fin (c s) s (pc + 3) lv st) : zG E K fin (zck σ 8 a0 (zb (fX7_save n a0 σ) c)) σ pc lv (.inr (.inl a0) :: st) :=
  z_vV (n := 0) (y := qX7_save) (As := []) hk hd hl wd_319 wd_320 wd_1 wd_321 ⟨by decide, by decide, by decide +kernel⟩ ⟨hh, by decide⟩ (ci := 7) rfl rfl rfl (fun o ho => mX7_save F n a0 σ o ho) hs k
abbrev qX7_restore : MethodName := { cls := "LotSales", name := "restore", desc := "()V" }
def fX7_restore (n : Nat) (a0 : Nat) (σ : zW) : Option ((Unit ⊕ Nat) × zW) := zgR σ 8 a0 4 fun x1 => if x1 = 0 then zth σ fun σ7 => some (.inr 3, σ7) else zgR σ 8 a0 0 fun x2 => zgR σ 8 a0 4 fun x3 => zck σ 4 x2 (zb (fX3_take n x2 x3 σ) fun σ4 => zgR σ4 8 a0 2 fun x5 => zck σ4 1 x5 (zb (fX0_forget n x5 σ4) fun σ6 => some (.inl (), σ6)))
theorem mX7_restore (F : zFx E) (n : Nat) (a0 : Nat) (σ : zW) (o : (Unit ⊕ Nat) × zW) (hf : fX7_restore n a0 σ = some o) : zMX E qX7_restore (.code qX7_restore cX7_restore 1 none) 6 [.inr (.inl a0)] σ (zfU o) := by
  refine zMX_of (fin := zfU) F (by decide +kernel) rfl (Nat.le_of_ble_eq_true rfl) (lv0 := [some (.inr (.inl a0))]) rfl hf rfl (fun K hk he ht => ?_)
  have hk : zk E K "LotSales" cX7_restore 1 6 := hk
  unfold fX7_restore
  refine z_run hk hX7_restore_0 0 1 (pc' := 1) (lv' := [some (.inr (.inl a0))]) (st' := [.inr (.inl a0)]) rfl ?_
  refine z_gR hk 4 (z_row hX7_restore_0 1 rfl) (ci := 7) rfl rfl wd_272 (fun x1 => ?_)
  refine z_nn hk (z_row hX7_restore_0 2 rfl) (tgt := 18) rfl ?_ ?_
  · refine z_run hk hX7_restore_0 8 1 (pc' := 19) (lv' := [some (.inr (.inl a0))]) (st' := [.inr (.inl a0)]) rfl ?_
    refine z_gR hk 0 (z_row hX7_restore_0 9 rfl) (ci := 7) rfl rfl wd_268 (fun x2 => ?_)
    refine z_run hk hX7_restore_0 10 1 (pc' := 23) (lv' := [some (.inr (.inl a0))]) (st' := [.inr (.inl a0), .inr (.inl x2)]) rfl ?_
    refine z_gR hk 4 (z_row hX7_restore_0 11 rfl) (ci := 7) rfl rfl wd_272 (fun x3 => ?_)
    refine kX3_take F hk (z_row hX7_restore_0 12 rfl) wd_322 (by decide) (Nat.le_of_ble_eq_true rfl) (fun σ4 => ?_)
    refine z_run hk hX7_restore_0 13 1 (pc' := 30) (lv' := [some (.inr (.inl a0))]) (st' := [.inr (.inl a0)]) rfl ?_
    refine z_gR hk 2 (z_row hX7_restore_0 14 rfl) (ci := 7) rfl rfl wd_270 (fun x5 => ?_)
    refine kX0_forget F hk (z_row hX7_restore_0 15 rfl) wd_1108 (by decide) (Nat.le_of_ble_eq_true rfl) (fun σ6 => ?_)
    exact z_vret hk he (z_row hX7_restore_0 16 rfl) rfl
  · exact z_throwW hk ht (is := 386) (text := "nothing was saved") (kx := 3) (by decide) (by decide) (by decide) (fun _ => rfl) (fun _ => rfl) wd_1107 wd_430 wd_15 (by decide +kernel) (z_row hX7_restore_0 3 rfl) (z_row hX7_restore_0 4 rfl) (z_row hX7_restore_0 5 rfl) (z_row hX7_restore_0 6 rfl) (z_row hX7_restore_0 7 rfl) (by decide) (Nat.le_of_ble_eq_true rfl)
theorem kX7_restore {n : Nat} {own : String} {cc : ByteArray} {nL h index : Nat} {α : Type} {fin : α → zO} {σ : zW} {pc : Nat} {lv : zLV} {st : List zV} {a0 : Nat} {c : Unit → zW → Option α} {t : Nat → zW → Option α} (F : zFx E) (hk : zk E K own cc nL h) (hd : decode cc pc = .ok (.invokevirtual index, 3)) (hl : Cond.methodLink own index qX7_restore ∈ lw_tbl) (hh : 6 + 1 ≤ h) (hs : zcat st ≤ 8) (k : ∀ v s, zG E K fin (c v s) s (pc + 3) lv (st)) (kt : ∀ kx s, zT E K fin (t kx s) kx s pc lv) : zG E K fin (zck σ 8 a0 (zbx (fX7_restore n a0 σ) c t)) σ pc lv (.inr (.inl a0) :: st) :=
  z_vU (n := 0) (y := qX7_restore) (As := []) hk hd hl wd_1104 wd_1105 wd_1 wd_1106 ⟨by decide, by decide, by decide +kernel⟩ ⟨hh, by decide⟩ (ci := 7) rfl rfl rfl (fun o ho => mX7_restore F n a0 σ o ho) hs k kt
abbrev qX8_isIn : MethodName := { cls := "LotSalesModel", name := "isIn", desc := "(III)Z" }
def sX8_isIn_15 (n : Nat) (σ : zW) (y0 : Int32) : Option (Int32) := if y0 = 0 ∨ y0 = 1 then some y0 else none
def sX8_isIn_14 (n : Nat) (σ : zW) : Option (Int32) := sX8_isIn_15 n σ 0
def fX8_isIn (n : Nat) (a0 : Int32) (a1 : Int32) (a2 : Int32) (σ : zW) : Option (Int32) := if a0 < a1 then sX8_isIn_14 n σ else if a2 < a0 then sX8_isIn_14 n σ else sX8_isIn_15 n σ 1
theorem gsX8_isIn_15 (F : zFx E) (n : Nat) (σ : zW) (hk : zk E K "LotSalesModel" cX8_isIn 3 0) (he : zend E K (some .boolean) "isIn") (y0 : Int32) : zG E K (zfR σ) (sX8_isIn_15 n σ y0) σ 15 [none, none, none] [.inl y0] := by
  unfold sX8_isIn_15
  exact z_zret (fin := (zfR σ)) (o := y0) hk he (z_row hX8_isIn_0 9 rfl) rfl
theorem gsX8_isIn_14 (F : zFx E) (n : Nat) (σ : zW) (hk : zk E K "LotSalesModel" cX8_isIn 3 0) (he : zend E K (some .boolean) "isIn") : zG E K (zfR σ) (sX8_isIn_14 n σ) σ 14 [none, none, none] [] := by
  unfold sX8_isIn_14
  refine z_run hk hX8_isIn_0 8 1 (pc' := 15) (lv' := [none, none, none]) (st' := [.inl 0]) rfl ?_
  exact gsX8_isIn_15 F n σ hk he 0
theorem mX8_isIn (F : zFx E) (n : Nat) (a0 : Int32) (a1 : Int32) (a2 : Int32) (σ : zW) (o : Int32) (hf : fX8_isIn n a0 a1 a2 σ = some o) : zM E qX8_isIn cX8_isIn 3 (some .boolean) 0 [.inl a0, .inl a1, .inl a2] σ (some (.int o)) σ := by
  refine zM_of (fin := (zfR σ)) F (by decide +kernel) rfl (Nat.le_of_ble_eq_true rfl) (lv0 := [some (.inl a0), some (.inl a1), some (.inl a2)]) rfl hf rfl (fun K hk he => ?_)
  have hk : zk E K "LotSalesModel" cX8_isIn 3 0 := hk
  unfold fX8_isIn
  refine z_run hk hX8_isIn_0 0 2 (pc' := 2) (lv' := [some (.inl a0), some (.inl a1), some (.inl a2)]) (st' := [.inl a1, .inl a0]) rfl ?_
  refine z_clt hk (z_row hX8_isIn_0 2 rfl) (tgt := 14) rfl ?_ ?_
  · refine z_mask [false, false, false] rfl ?_
    exact gsX8_isIn_14 F n σ hk he
  · refine z_run hk hX8_isIn_0 3 2 (pc' := 7) (lv' := [some (.inl a0), some (.inl a1), some (.inl a2)]) (st' := [.inl a2, .inl a0]) rfl ?_
    refine z_cgt hk (z_row hX8_isIn_0 5 rfl) (tgt := 14) rfl ?_ ?_
    · refine z_mask [false, false, false] rfl ?_
      exact gsX8_isIn_14 F n σ hk he
    · refine z_run hk hX8_isIn_0 6 1 (pc' := 11) (lv' := [some (.inl a0), some (.inl a1), some (.inl a2)]) (st' := [.inl 1]) rfl ?_
      refine z_goto hk (z_row hX8_isIn_0 7 rfl) (tgt := 15) rfl ?_
      refine z_mask [false, false, false] rfl ?_
      exact gsX8_isIn_15 F n σ hk he 1
theorem kX8_isIn {n : Nat} {own : String} {cc : ByteArray} {nL h index : Nat} {α : Type} {fin : α → zO} {σ : zW} {pc : Nat} {lv : zLV} {st : List zV} {a0 : Int32} {a1 : Int32} {a2 : Int32} {c : Int32 → Option α} (F : zFx E) (hk : zk E K own cc nL h) (hd : decode cc pc = .ok (.invokestatic index, 3)) (hl : Cond.methodLink own index qX8_isIn ∈ lw_tbl) (hh : 0 + 1 ≤ h) (hs : zcat st ≤ 8) (k : ∀ v, zG E K fin (c v) σ (pc + 3) lv (.inl v :: st)) : zG E K fin (zb (fX8_isIn n a0 a1 a2 σ) c) σ pc lv (.inl a2 :: .inl a1 :: .inl a0 :: st) :=
  z_qR (n := 3) (y := qX8_isIn) (As := [.inl a0, .inl a1, .inl a2]) hk hd hl wd_1182 wd_10 wd_1183 ⟨by decide, by decide, by decide +kernel⟩ ⟨hh, by decide⟩ rfl (fun o ho => mX8_isIn F n a0 a1 a2 σ o ho) hs k
end
