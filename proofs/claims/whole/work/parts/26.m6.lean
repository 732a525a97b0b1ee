section
variable {E : zE} {K : zC}

abbrev qX8_row : MethodName := { cls := "LotSalesModel", name := "row", desc := "(II)I" }
def sX8_row_66 (n : Nat) (y0 : Int32) (σ : zW) : Option (Int32 × zW) := some (y0, σ)
def sX8_row_59 (n : Nat) (v1 : Int32) (y0 : Nat) (y1 : Int32) (σ : zW) : Option (Int32 × zW) := zaI σ y0 (y1 + v1) fun x1 => sX8_row_66 n x1 σ
def sX8_row_35 (n : Nat) (v0 : Nat) (v1 : Int32) (v2 : Int32) (y0 : Nat) (y1 : Int32) (σ : zW) : Option (Int32 × zW) := zpI σ 9 y0 0 y1 fun σ2 => zgI σ2 9 v0 0 fun x3 => if x3 = 0 then zgR σ2 9 v0 1 fun x4 => if v2 = 0 then sX8_row_59 n v1 x4 1 σ2 else sX8_row_59 n v1 x4 7 σ2 else sX8_row_66 n 0 σ2
def fX8_row (n : Nat) (a0 : Nat) (a1 : Int32) (a2 : Int32) (σ : zW) : Option (Int32 × zW) := zgR σ 9 a0 1 fun x5 => zaI σ x5 0 fun x6 => zb (fX8_isIn n a1 0 (x6 - 1) σ) fun x7 => if x7 = 0 then sX8_row_35 n a0 a1 a2 a0 1 σ else zb (fX8_isIn n a2 0 1 σ) fun x8 => if x8 = 0 then sX8_row_35 n a0 a1 a2 a0 2 σ else sX8_row_35 n a0 a1 a2 a0 0 σ
theorem gsX8_row_66 (F : zFx E) (n : Nat) (hk : zk E K "LotSalesModel" cX8_row 3 1) (he : zend E K (some .int) "row") (y0 : Int32) (σ : zW) : zG E K zfW (sX8_row_66 n y0 σ) σ 66 [none, none, none] [.inl y0] := by
  unfold sX8_row_66
  exact z_iret hk he (z_row hX8_row_0 37 rfl) rfl
theorem gsX8_row_59 (F : zFx E) (n : Nat) (hk : zk E K "LotSalesModel" cX8_row 3 1) (he : zend E K (some .int) "row") (v1 : Int32) (y0 : Nat) (y1 : Int32) (σ : zW) : zG E K zfW (sX8_row_59 n v1 y0 y1 σ) σ 59 [none, some (.inl v1), none] [.inl y1, .inr (.inl y0)] := by
  unfold sX8_row_59
  refine z_run hk hX8_row_0 32 2 (pc' := 61) (lv' := [none, some (.inl v1), none]) (st' := [.inl (y1 + v1), .inr (.inl y0)]) rfl ?_
  refine z_aI hk (z_row hX8_row_0 34 rfl) (fun x1 => ?_)
  refine z_goto hk (z_row hX8_row_0 35 rfl) (tgt := 66) rfl ?_
  refine z_mask [false, false, false] rfl ?_
  exact gsX8_row_66 F n hk he x1 σ
theorem gsX8_row_35 (F : zFx E) (n : Nat) (hk : zk E K "LotSalesModel" cX8_row 3 1) (he : zend E K (some .int) "row") (v0 : Nat) (v1 : Int32) (v2 : Int32) (y0 : Nat) (y1 : Int32) (σ : zW) : zG E K zfW (sX8_row_35 n v0 v1 v2 y0 y1 σ) σ 35 [some (.inr (.inl v0)), some (.inl v1), some (.inl v2)] [.inl y1, .inr (.inl y0)] := by
  unfold sX8_row_35
  refine z_pI hk 0 (z_row hX8_row_0 21 rfl) (ci := 8) rfl rfl wd_1122 rfl rfl rfl (fun σ2 => ?_)
  refine z_run hk hX8_row_0 22 1 (pc' := 39) (lv' := [some (.inr (.inl v0)), some (.inl v1), some (.inl v2)]) (st' := [.inr (.inl v0)]) rfl ?_
  refine z_gI hk 0 (z_row hX8_row_0 23 rfl) (ci := 8) rfl rfl wd_1122 (fun x3 => ?_)
  refine z_ne hk (z_row hX8_row_0 24 rfl) (tgt := 65) rfl ?_ ?_
  · refine z_run hk hX8_row_0 36 1 (pc' := 66) (lv' := [some (.inr (.inl v0)), some (.inl v1), some (.inl v2)]) (st' := [.inl 0]) rfl ?_
    refine z_mask [false, false, false] rfl ?_
    exact gsX8_row_66 F n hk he 0 σ2
  · refine z_run hk hX8_row_0 25 1 (pc' := 46) (lv' := [some (.inr (.inl v0)), some (.inl v1), some (.inl v2)]) (st' := [.inr (.inl v0)]) rfl ?_
    refine z_gR hk 1 (z_row hX8_row_0 26 rfl) (ci := 8) rfl rfl wd_1123 (fun x4 => ?_)
    refine z_run hk hX8_row_0 27 1 (pc' := 50) (lv' := [some (.inr (.inl v0)), some (.inl v1), some (.inl v2)]) (st' := [.inl v2, .inr (.inl x4)]) rfl ?_
    refine z_ne hk (z_row hX8_row_0 28 rfl) (tgt := 57) rfl ?_ ?_
    · refine z_run hk hX8_row_0 31 1 (pc' := 59) (lv' := [some (.inr (.inl v0)), some (.inl v1), some (.inl v2)]) (st' := [.inl 7, .inr (.inl x4)]) rfl ?_
      refine z_mask [false, true, false] rfl ?_
      exact gsX8_row_59 F n hk he v1 x4 7 σ2
    · refine z_run hk hX8_row_0 29 1 (pc' := 54) (lv' := [some (.inr (.inl v0)), some (.inl v1), some (.inl v2)]) (st' := [.inl 1, .inr (.inl x4)]) rfl ?_
      refine z_goto hk (z_row hX8_row_0 30 rfl) (tgt := 59) rfl ?_
      refine z_mask [false, true, false] rfl ?_
      exact gsX8_row_59 F n hk he v1 x4 1 σ2
theorem mX8_row (F : zFx E) (n : Nat) (a0 : Nat) (a1 : Int32) (a2 : Int32) (σ : zW) (o : Int32 × zW) (hf : fX8_row n a0 a1 a2 σ = some o) : zM E qX8_row cX8_row 3 (some .int) 1 [.inr (.inl a0), .inl a1, .inl a2] σ (some (.int o.1)) o.2 := by
  refine zM_of (fin := zfW) F (by decide +kernel) rfl (Nat.le_of_ble_eq_true rfl) (lv0 := [some (.inr (.inl a0)), some (.inl a1), some (.inl a2)]) rfl hf rfl (fun K hk he => ?_)
  have hk : zk E K "LotSalesModel" cX8_row 3 1 := hk
  unfold fX8_row
  refine z_run hk hX8_row_0 0 4 (pc' := 4) (lv' := [some (.inr (.inl a0)), some (.inl a1), some (.inl a2)]) (st' := [.inr (.inl a0), .inl 0, .inl a1, .inr (.inl a0)]) rfl ?_
  refine z_gR hk 1 (z_row hX8_row_0 4 rfl) (ci := 8) rfl rfl wd_1123 (fun x5 => ?_)
  refine z_run hk hX8_row_0 5 1 (pc' := 8) (lv' := [some (.inr (.inl a0)), some (.inl a1), some (.inl a2)]) (st' := [.inl 0, .inr (.inl x5), .inl 0, .inl a1, .inr (.inl a0)]) rfl ?_
  refine z_aI hk (z_row hX8_row_0 6 rfl) (fun x6 => ?_)
  refine z_run hk hX8_row_0 7 2 (pc' := 11) (lv' := [some (.inr (.inl a0)), some (.inl a1), some (.inl a2)]) (st' := [.inl (x6 - 1), .inl 0, .inl a1, .inr (.inl a0)]) rfl ?_
  refine kX8_isIn F hk (z_row hX8_row_0 9 rfl) wd_1181 (by decide) (Nat.le_of_ble_eq_true rfl) (fun x7 => ?_)
  refine z_ne hk (z_row hX8_row_0 10 rfl) (tgt := 21) rfl ?_ ?_
  · refine z_run hk hX8_row_0 13 3 (pc' := 24) (lv' := [some (.inr (.inl a0)), some (.inl a1), some (.inl a2)]) (st' := [.inl 1, .inl 0, .inl a2, .inr (.inl a0)]) rfl ?_
    refine kX8_isIn F hk (z_row hX8_row_0 16 rfl) wd_1181 (by decide) (Nat.le_of_ble_eq_true rfl) (fun x8 => ?_)
    refine z_ne hk (z_row hX8_row_0 17 rfl) (tgt := 34) rfl ?_ ?_
    · refine z_run hk hX8_row_0 20 1 (pc' := 35) (lv' := [some (.inr (.inl a0)), some (.inl a1), some (.inl a2)]) (st' := [.inl 0, .inr (.inl a0)]) rfl ?_
      exact gsX8_row_35 F n hk he a0 a1 a2 a0 0 σ
    · refine z_run hk hX8_row_0 18 1 (pc' := 31) (lv' := [some (.inr (.inl a0)), some (.inl a1), some (.inl a2)]) (st' := [.inl 2, .inr (.inl a0)]) rfl ?_
      refine z_goto hk (z_row hX8_row_0 19 rfl) (tgt := 35) rfl ?_
      exact gsX8_row_35 F n hk he a0 a1 a2 a0 2 σ
  · refine z_run hk hX8_row_0 11 1 (pc' := 18) (lv' := [some (.inr (.inl a0)), some (.inl a1), some (.inl a2)]) (st' := [.inl 1, .inr (.inl a0)]) rfl ?_
    refine z_goto hk (z_row hX8_row_0 12 rfl) (tgt := 35) rfl ?_
    exact gsX8_row_35 F n hk he a0 a1 a2 a0 1 σ
theorem kX8_row {n : Nat} {own : String} {cc : ByteArray} {nL h index : Nat} {α : Type} {fin : α → zO} {σ : zW} {pc : Nat} {lv : zLV} {st : List zV} {a0 : Nat} {a1 : Int32} {a2 : Int32} {c : Int32 → zW → Option α} (F : zFx E) (hk : zk E K own cc nL h) (hd : decode cc pc = .ok (.invokevirtual index, 3)) (hl : Cond.methodLink own index qX8_row ∈ lw_tbl) (hh : 1 + 1 ≤ h) (hs : zcat st ≤ 8) (k : ∀ v s, zG E K fin (c v s) s (pc + 3) lv (.inl v :: st)) : zG E K fin (zck σ 9 a0 (zb2 (fX8_row n a0 a1 a2 σ) c)) σ pc lv (.inl a2 :: .inl a1 :: .inr (.inl a0) :: st) :=
  z_vW (n := 2) (y := qX8_row) (As := [.inl a1, .inl a2]) hk hd hl wd_1234 wd_1235 wd_10 wd_1236 ⟨by decide, by decide, by decide +kernel⟩ ⟨hh, by decide⟩ (ci := 8) rfl rfl rfl (fun o ho => mX8_row F n a0 a1 a2 σ o ho) hs k
abbrev qX8_step : MethodName := { cls := "LotSalesModel", name := "step", desc := "(I)I" }
def sX8_step_28 (n : Nat) (y0 : Int32) (σ : zW) : Option (Int32 × zW) := some (y0, σ)
def fX8_step (n : Nat) (a0 : Nat) (a1 : Int32) (σ : zW) : Option (Int32 × zW) := zpI σ 9 a0 0 0 fun σ1 => zb (fX8_isIn n a1 0 99999 σ1) fun x2 => if x2 = 0 then zck σ1 9 a0 (zb2 (fX8_fail n a0 1 σ1) fun x3 σ4 => sX8_step_28 n x3 σ4) else zck σ1 9 a0 (zb (fX8_stepBelow n a0 a1 σ1) fun x5 => sX8_step_28 n x5 σ1)
theorem gsX8_step_28 (F : zFx E) (n : Nat) (hk : zk E K "LotSalesModel" cX8_step 2 2) (he : zend E K (some .int) "step") (y0 : Int32) (σ : zW) : zG E K zfW (sX8_step_28 n y0 σ) σ 28 [none, none] [.inl y0] := by
  unfold sX8_step_28
  exact z_iret hk he (z_row hX8_step_0 15 rfl) rfl
theorem mX8_step (F : zFx E) (n : Nat) (a0 : Nat) (a1 : Int32) (σ : zW) (o : Int32 × zW) (hf : fX8_step n a0 a1 σ = some o) : zM E qX8_step cX8_step 2 (some .int) 2 [.inr (.inl a0), .inl a1] σ (some (.int o.1)) o.2 := by
  refine zM_of (fin := zfW) F (by decide +kernel) rfl (Nat.le_of_ble_eq_true rfl) (lv0 := [some (.inr (.inl a0)), some (.inl a1)]) rfl hf rfl (fun K hk he => ?_)
  have hk : zk E K "LotSalesModel" cX8_step 2 2 := hk
  unfold fX8_step
  refine z_run hk hX8_step_0 0 2 (pc' := 2) (lv' := [some (.inr (.inl a0)), some (.inl a1)]) (st' := [.inl 0, .inr (.inl a0)]) rfl ?_
  refine z_pI hk 0 (z_row hX8_step_0 2 rfl) (ci := 8) rfl rfl wd_1122 rfl rfl rfl (fun σ1 => ?_)
  refine z_run hk hX8_step_0 3 2 (pc' := 7) (lv' := [some (.inr (.inl a0)), some (.inl a1)]) (st' := [.inl 0, .inl a1]) rfl ?_
  refine z_ldc hk (z_row hX8_step_0 5 rfl) wd_1241 ?_
  refine kX8_isIn F hk (z_row hX8_step_0 6 rfl) wd_1181 (by decide) (Nat.le_of_ble_eq_true rfl) (fun x2 => ?_)
  refine z_eq hk (z_row hX8_step_0 7 rfl) (tgt := 23) rfl ?_ ?_
  · refine z_run hk hX8_step_0 12 2 (pc' := 25) (lv' := [some (.inr (.inl a0)), some (.inl a1)]) (st' := [.inl 1, .inr (.inl a0)]) rfl ?_
    refine kX8_fail F hk (z_row hX8_step_0 14 rfl) wd_1221 (by decide) (Nat.le_of_ble_eq_true rfl) (fun x3 σ4 => ?_)
    refine z_mask [false, false] rfl ?_
    exact gsX8_step_28 F n hk he x3 σ4
  · refine z_run hk hX8_step_0 8 2 (pc' := 17) (lv' := [some (.inr (.inl a0)), some (.inl a1)]) (st' := [.inl a1, .inr (.inl a0)]) rfl ?_
    refine kX8_stepBelow F hk (z_row hX8_step_0 10 rfl) wd_1242 (by decide) (Nat.le_of_ble_eq_true rfl) (fun x5 => ?_)
    refine z_goto hk (z_row hX8_step_0 11 rfl) (tgt := 28) rfl ?_
    refine z_mask [false, false] rfl ?_
    exact gsX8_step_28 F n hk he x5 σ1
theorem kX8_step {n : Nat} {own : String} {cc : ByteArray} {nL h index : Nat} {α : Type} {fin : α → zO} {σ : zW} {pc : Nat} {lv : zLV} {st : List zV} {a0 : Nat} {a1 : Int32} {c : Int32 → zW → Option α} (F : zFx E) (hk : zk E K own cc nL h) (hd : decode cc pc = .ok (.invokevirtual index, 3)) (hl : Cond.methodLink own index qX8_step ∈ lw_tbl) (hh : 2 + 1 ≤ h) (hs : zcat st ≤ 8) (k : ∀ v s, zG E K fin (c v s) s (pc + 3) lv (.inl v :: st)) : zG E K fin (zck σ 9 a0 (zb2 (fX8_step n a0 a1 σ) c)) σ pc lv (.inl a1 :: .inr (.inl a0) :: st) :=
  z_vW (n := 1) (y := qX8_step) (As := [.inl a1]) hk hd hl wd_1238 wd_1239 wd_10 wd_1240 ⟨by decide, by decide, by decide +kernel⟩ ⟨hh, by decide⟩ (ci := 8) rfl rfl rfl (fun o ho => mX8_step F n a0 a1 σ o ho) hs k
abbrev qX8_nextStep : MethodName := { cls := "LotSalesModel", name := "nextStep", desc := "(I)I" }
def sX8_nextStep_28 (n : Nat) (y0 : Int32) (σ : zW) : Option (Int32 × zW) := some (y0, σ)
def fX8_nextStep (n : Nat) (a0 : Nat) (a1 : Int32) (σ : zW) : Option (Int32 × zW) := zpI σ 9 a0 0 0 fun σ1 => zb (fX8_isIn n a1 0 99999 σ1) fun x2 => if x2 = 0 then zck σ1 9 a0 (zb2 (fX8_fail n a0 1 σ1) fun x3 σ4 => sX8_nextStep_28 n x3 σ4) else zck σ1 9 a0 (zb (fX8_stepAbove n a0 a1 σ1) fun x5 => sX8_nextStep_28 n x5 σ1)
theorem gsX8_nextStep_28 (F : zFx E) (n : Nat) (hk : zk E K "LotSalesModel" cX8_nextStep 2 3) (he : zend E K (some .int) "nextStep") (y0 : Int32) (σ : zW) : zG E K zfW (sX8_nextStep_28 n y0 σ) σ 28 [none, none] [.inl y0] := by
  unfold sX8_nextStep_28
  exact z_iret hk he (z_row hX8_nextStep_0 15 rfl) rfl
theorem mX8_nextStep (F : zFx E) (n : Nat) (a0 : Nat) (a1 : Int32) (σ : zW) (o : Int32 × zW) (hf : fX8_nextStep n a0 a1 σ = some o) : zM E qX8_nextStep cX8_nextStep 2 (some .int) 3 [.inr (.inl a0), .inl a1] σ (some (.int o.1)) o.2 := by
  refine zM_of (fin := zfW) F (by decide +kernel) rfl (Nat.le_of_ble_eq_true rfl) (lv0 := [some (.inr (.inl a0)), some (.inl a1)]) rfl hf rfl (fun K hk he => ?_)
  have hk : zk E K "LotSalesModel" cX8_nextStep 2 3 := hk
  unfold fX8_nextStep
  refine z_run hk hX8_nextStep_0 0 2 (pc' := 2) (lv' := [some (.inr (.inl a0)), some (.inl a1)]) (st' := [.inl 0, .inr (.inl a0)]) rfl ?_
  refine z_pI hk 0 (z_row hX8_nextStep_0 2 rfl) (ci := 8) rfl rfl wd_1122 rfl rfl rfl (fun σ1 => ?_)
  refine z_run hk hX8_nextStep_0 3 2 (pc' := 7) (lv' := [some (.inr (.inl a0)), some (.inl a1)]) (st' := [.inl 0, .inl a1]) rfl ?_
  refine z_ldc hk (z_row hX8_nextStep_0 5 rfl) wd_1241 ?_
  refine kX8_isIn F hk (z_row hX8_nextStep_0 6 rfl) wd_1181 (by decide) (Nat.le_of_ble_eq_true rfl) (fun x2 => ?_)
  refine z_eq hk (z_row hX8_nextStep_0 7 rfl) (tgt := 23) rfl ?_ ?_
  · refine z_run hk hX8_nextStep_0 12 2 (pc' := 25) (lv' := [some (.inr (.inl a0)), some (.inl a1)]) (st' := [.inl 1, .inr (.inl a0)]) rfl ?_
    refine kX8_fail F hk (z_row hX8_nextStep_0 14 rfl) wd_1221 (by decide) (Nat.le_of_ble_eq_true rfl) (fun x3 σ4 => ?_)
    refine z_mask [false, false] rfl ?_
    exact gsX8_nextStep_28 F n hk he x3 σ4
  · refine z_run hk hX8_nextStep_0 8 2 (pc' := 17) (lv' := [some (.inr (.inl a0)), some (.inl a1)]) (st' := [.inl a1, .inr (.inl a0)]) rfl ?_
    refine kX8_stepAbove F hk (z_row hX8_nextStep_0 10 rfl) wd_1255 (by decide) (Nat.le_of_ble_eq_true rfl) (fun x5 => ?_)
    refine z_goto hk (z_row hX8_nextStep_0 11 rfl) (tgt := 28) rfl ?_
    refine z_mask [false, false] rfl ?_
    exact gsX8_nextStep_28 F n hk he x5 σ1
theorem kX8_nextStep {n : Nat} {own : String} {cc : ByteArray} {nL h index : Nat} {α : Type} {fin : α → zO} {σ : zW} {pc : Nat} {lv : zLV} {st : List zV} {a0 : Nat} {a1 : Int32} {c : Int32 → zW → Option α} (F : zFx E) (hk : zk E K own cc nL h) (hd : decode cc pc = .ok (.invokevirtual index, 3)) (hl : Cond.methodLink own index qX8_nextStep ∈ lw_tbl) (hh : 3 + 1 ≤ h) (hs : zcat st ≤ 8) (k : ∀ v s, zG E K fin (c v s) s (pc + 3) lv (.inl v :: st)) : zG E K fin (zck σ 9 a0 (zb2 (fX8_nextStep n a0 a1 σ) c)) σ pc lv (.inl a1 :: .inr (.inl a0) :: st) :=
  z_vW (n := 1) (y := qX8_nextStep) (As := [.inl a1]) hk hd hl wd_1252 wd_1253 wd_10 wd_1254 ⟨by decide, by decide, by decide +kernel⟩ ⟨hh, by decide⟩ (ci := 8) rfl rfl rfl (fun o ho => mX8_nextStep F n a0 a1 σ o ho) hs k
abbrev qX8_setCredit : MethodName := { cls := "LotSalesModel", name := "setCredit", desc := "(II)I" }
def sX8_setCredit_27 (n : Nat) (v0 : Nat) (v1 : Int32) (v2 : Int32) (y0 : Nat) (y1 : Int32) (σ : zW) : Option (Int32 × zW) := zpI σ 9 y0 0 y1 fun σ1 => zgI σ1 9 v0 0 fun x2 => if x2 = 0 then zck σ1 9 v0 (zb (fX8_keep n v0 σ1) fun σ3 => zgR σ3 9 v0 1 fun x4 => zaI σ3 x4 (13 + v1) fun x5 => zgR σ3 9 v0 1 fun x6 => zsI σ3 x6 (13 + v1) v2 fun σ7 => some (x5, σ7)) else some (0, σ1)
def fX8_setCredit (n : Nat) (a0 : Nat) (a1 : Int32) (a2 : Int32) (σ : zW) : Option (Int32 × zW) := zb (fX8_isBidder n a1 σ) fun x8 => if x8 = 0 then sX8_setCredit_27 n a0 a1 a2 a0 1 σ else zb (fX8_isIn n a2 0 999999 σ) fun x9 => if x9 = 0 then sX8_setCredit_27 n a0 a1 a2 a0 2 σ else sX8_setCredit_27 n a0 a1 a2 a0 0 σ
theorem gsX8_setCredit_27 (F : zFx E) (n : Nat) (hk : zk E K "LotSalesModel" cX8_setCredit 4 2) (he : zend E K (some .int) "setCredit") (v0 : Nat) (v1 : Int32) (v2 : Int32) (y0 : Nat) (y1 : Int32) (σ : zW) : zG E K zfW (sX8_setCredit_27 n v0 v1 v2 y0 y1 σ) σ 27 [some (.inr (.inl v0)), some (.inl v1), some (.inl v2), none] [.inl y1, .inr (.inl y0)] := by
  unfold sX8_setCredit_27
  refine z_pI hk 0 (z_row hX8_setCredit_0 14 rfl) (ci := 8) rfl rfl wd_1122 rfl rfl rfl (fun σ1 => ?_)
  refine z_run hk hX8_setCredit_0 15 1 (pc' := 31) (lv' := [some (.inr (.inl v0)), some (.inl v1), some (.inl v2), none]) (st' := [.inr (.inl v0)]) rfl ?_
  refine z_gI hk 0 (z_row hX8_setCredit_0 16 rfl) (ci := 8) rfl rfl wd_1122 (fun x2 => ?_)
  refine z_eq hk (z_row hX8_setCredit_0 17 rfl) (tgt := 39) rfl ?_ ?_
  · refine z_run hk hX8_setCredit_0 20 1 (pc' := 40) (lv' := [some (.inr (.inl v0)), some (.inl v1), some (.inl v2), none]) (st' := [.inr (.inl v0)]) rfl ?_
    refine kX8_keep F hk (z_row hX8_setCredit_0 21 rfl) wd_1185 (by decide) (Nat.le_of_ble_eq_true rfl) (fun σ3 => ?_)
    refine z_run hk hX8_setCredit_0 22 1 (pc' := 44) (lv' := [some (.inr (.inl v0)), some (.inl v1), some (.inl v2), none]) (st' := [.inr (.inl v0)]) rfl ?_
    refine z_gR hk 1 (z_row hX8_setCredit_0 23 rfl) (ci := 8) rfl rfl wd_1123 (fun x4 => ?_)
    refine z_run hk hX8_setCredit_0 24 3 (pc' := 51) (lv' := [some (.inr (.inl v0)), some (.inl v1), some (.inl v2), none]) (st' := [.inl (13 + v1), .inr (.inl x4)]) rfl ?_
    refine z_aI hk (z_row hX8_setCredit_0 27 rfl) (fun x5 => ?_)
    refine z_run hk hX8_setCredit_0 28 2 (pc' := 54) (lv' := [some (.inr (.inl v0)), some (.inl v1), some (.inl v2), some (.inl x5)]) (st' := [.inr (.inl v0)]) rfl ?_
    refine z_gR hk 1 (z_row hX8_setCredit_0 30 rfl) (ci := 8) rfl rfl wd_1123 (fun x6 => ?_)
    refine z_run hk hX8_setCredit_0 31 4 (pc' := 62) (lv' := [some (.inr (.inl v0)), some (.inl v1), some (.inl v2), some (.inl x5)]) (st' := [.inl v2, .inl (13 + v1), .inr (.inl x6)]) rfl ?_
    refine z_sI hk (z_row hX8_setCredit_0 35 rfl) (fun σ7 => ?_)
    refine z_run hk hX8_setCredit_0 36 1 (pc' := 64) (lv' := [some (.inr (.inl v0)), some (.inl v1), some (.inl v2), some (.inl x5)]) (st' := [.inl x5]) rfl ?_
    exact z_iret hk he (z_row hX8_setCredit_0 37 rfl) rfl
  · refine z_run hk hX8_setCredit_0 18 1 (pc' := 38) (lv' := [some (.inr (.inl v0)), some (.inl v1), some (.inl v2), none]) (st' := [.inl 0]) rfl ?_
    exact z_iret hk he (z_row hX8_setCredit_0 19 rfl) rfl
theorem mX8_setCredit (F : zFx E) (n : Nat) (a0 : Nat) (a1 : Int32) (a2 : Int32) (σ : zW) (o : Int32 × zW) (hf : fX8_setCredit n a0 a1 a2 σ = some o) : zM E qX8_setCredit cX8_setCredit 4 (some .int) 2 [.inr (.inl a0), .inl a1, .inl a2] σ (some (.int o.1)) o.2 := by
  refine zM_of (fin := zfW) F (by decide +kernel) rfl (Nat.le_of_ble_eq_true rfl) (lv0 := [some (.inr (.inl a0)), some (.inl a1), some (.inl a2), none]) rfl hf rfl (fun K hk he => ?_)
  have hk : zk E K "LotSalesModel" cX8_setCredit 4 2 := hk
  unfold fX8_setCredit
  refine z_run hk hX8_setCredit_0 0 2 (pc' := 2) (lv' := [some (.inr (.inl a0)), some (.inl a1), some (.inl a2), none]) (st' := [.inl a1, .inr (.inl a0)]) rfl ?_
  refine kX8_isBidder F hk (z_row hX8_setCredit_0 2 rfl) wd_1263 (by decide) (Nat.le_of_ble_eq_true rfl) (fun x8 => ?_)
  refine z_ne hk (z_row hX8_setCredit_0 3 rfl) (tgt := 12) rfl ?_ ?_
  · refine z_run hk hX8_setCredit_0 6 2 (pc' := 14) (lv' := [some (.inr (.inl a0)), some (.inl a1), some (.inl a2), none]) (st' := [.inl 0, .inl a2, .inr (.inl a0)]) rfl ?_
    refine z_ldc hk (z_row hX8_setCredit_0 8 rfl) wd_1266 ?_
    refine kX8_isIn F hk (z_row hX8_setCredit_0 9 rfl) wd_1181 (by decide) (Nat.le_of_ble_eq_true rfl) (fun x9 => ?_)
    refine z_ne hk (z_row hX8_setCredit_0 10 rfl) (tgt := 26) rfl ?_ ?_
    · refine z_run hk hX8_setCredit_0 13 1 (pc' := 27) (lv' := [some (.inr (.inl a0)), some (.inl a1), some (.inl a2), none]) (st' := [.inl 0, .inr (.inl a0)]) rfl ?_
      exact gsX8_setCredit_27 F n hk he a0 a1 a2 a0 0 σ
    · refine z_run hk hX8_setCredit_0 11 1 (pc' := 23) (lv' := [some (.inr (.inl a0)), some (.inl a1), some (.inl a2), none]) (st' := [.inl 2, .inr (.inl a0)]) rfl ?_
      refine z_goto hk (z_row hX8_setCredit_0 12 rfl) (tgt := 27) rfl ?_
      exact gsX8_setCredit_27 F n hk he a0 a1 a2 a0 2 σ
  · refine z_run hk hX8_setCredit_0 4 1 (pc' := 9) (lv' := [some (.inr (.inl a0)), some (.inl a1), some (.inl a2), none]) (st' := [.inl 1, .inr (.inl a0)]) rfl ?_
    refine z_goto hk (z_row hX8_setCredit_0 5 rfl) (tgt := 27) rfl ?_
    exact gsX8_setCredit_27 F n hk he a0 a1 a2 a0 1 σ
theorem kX8_setCredit {n : Nat} {own : String} {cc : ByteArray} {nL h index : Nat} {α : Type} {fin : α → zO} {σ : zW} {pc : Nat} {lv : zLV} {st : List zV} {a0 : Nat} {a1 : Int32} {a2 : Int32} {c : Int32 → zW → Option α} (F : zFx E) (hk : zk E K own cc nL h) (hd : decode cc pc = .ok (.invokevirtual index, 3)) (hl : Cond.methodLink own index qX8_setCredit ∈ lw_tbl) (hh : 2 + 1 ≤ h) (hs : zcat st ≤ 8) (k : ∀ v s, zG E K fin (c v s) s (pc + 3) lv (.inl v :: st)) : zG E K fin (zck σ 9 a0 (zb2 (fX8_setCredit n a0 a1 a2 σ) c)) σ pc lv (.inl a2 :: .inl a1 :: .inr (.inl a0) :: st) :=
  z_vW (n := 2) (y := qX8_setCredit) (As := [.inl a1, .inl a2]) hk hd hl wd_1260 wd_1261 wd_10 wd_1262 ⟨by decide, by decide, by decide +kernel⟩ ⟨hh, by decide⟩ (ci := 8) rfl rfl rfl (fun o ho => mX8_setCredit F n a0 a1 a2 σ o ho) hs k
abbrev qX8_limitOf : MethodName := { cls := "LotSalesModel", name := "limitOf", desc := "(II)I" }
def sX8_limitOf_20 (n : Nat) (σ : zW) (v0 : Nat) (v1 : Int32) (v2 : Int32) (y0 : Int32) : Option (Int32) := zgR σ 9 v0 1 fun x1 => zaI σ x1 ((584 + (10 * v1)) + v2) fun x2 => some (if y0 < x2 then x2 else y0)
def fX8_limitOf (n : Nat) (a0 : Nat) (a1 : Int32) (a2 : Int32) (σ : zW) : Option (Int32) := zck σ 9 a0 (zb (fX8_orderOf n a0 a1 a2 σ) fun x3 => if 0 < x3 then zck σ 9 a0 (zb (fX8_stepBelow n a0 x3 σ) fun x4 => sX8_limitOf_20 n σ a0 a1 a2 x4) else sX8_limitOf_20 n σ a0 a1 a2 0)
theorem gsX8_limitOf_20 (F : zFx E) (n : Nat) (σ : zW) (hk : zk E K "LotSalesModel" cX8_limitOf 5 2) (he : zend E K (some .int) "limitOf") (v0 : Nat) (v1 : Int32) (v2 : Int32) (y0 : Int32) : zG E K (zfR σ) (sX8_limitOf_20 n σ v0 v1 v2 y0) σ 20 [some (.inr (.inl v0)), some (.inl v1), some (.inl v2), none, none] [.inl y0] := by
  unfold sX8_limitOf_20
  refine z_run hk hX8_limitOf_0 12 3 (pc' := 25) (lv' := [some (.inr (.inl v0)), some (.inl v1), some (.inl v2), none, some (.inl y0)]) (st' := [.inr (.inl v0), .inl y0]) rfl ?_
  refine z_gR hk 1 (z_row hX8_limitOf_0 15 rfl) (ci := 8) rfl rfl wd_1123 (fun x1 => ?_)
  refine z_run hk hX8_limitOf_0 16 7 (pc' := 38) (lv' := [some (.inr (.inl v0)), some (.inl v1), some (.inl v2), none, some (.inl y0)]) (st' := [.inl ((584 + (10 * v1)) + v2), .inr (.inl x1), .inl y0]) rfl ?_
  refine z_aI hk (z_row hX8_limitOf_0 23 rfl) (fun x2 => ?_)
  refine z_mmax hk (z_row hX8_limitOf_0 24 rfl) wd_1327 wd_578 wd_16 wd_579 (by decide) (Nat.le_of_ble_eq_true rfl) ?_
  exact z_iret hk he (z_row hX8_limitOf_0 25 rfl) rfl
theorem mX8_limitOf (F : zFx E) (n : Nat) (a0 : Nat) (a1 : Int32) (a2 : Int32) (σ : zW) (o : Int32) (hf : fX8_limitOf n a0 a1 a2 σ = some o) : zM E qX8_limitOf cX8_limitOf 5 (some .int) 2 [.inr (.inl a0), .inl a1, .inl a2] σ (some (.int o)) σ := by
  refine zM_of (fin := (zfR σ)) F (by decide +kernel) rfl (Nat.le_of_ble_eq_true rfl) (lv0 := [some (.inr (.inl a0)), some (.inl a1), some (.inl a2), none, none]) rfl hf rfl (fun K hk he => ?_)
  have hk : zk E K "LotSalesModel" cX8_limitOf 5 2 := hk
  unfold fX8_limitOf
  refine z_run hk hX8_limitOf_0 0 3 (pc' := 3) (lv' := [some (.inr (.inl a0)), some (.inl a1), some (.inl a2), none, none]) (st' := [.inl a2, .inl a1, .inr (.inl a0)]) rfl ?_
  refine kX8_orderOf F hk (z_row hX8_limitOf_0 3 rfl) wd_1283 (by decide) (Nat.le_of_ble_eq_true rfl) (fun x3 => ?_)
  refine z_run hk hX8_limitOf_0 4 2 (pc' := 8) (lv' := [some (.inr (.inl a0)), some (.inl a1), some (.inl a2), some (.inl x3), none]) (st' := [.inl x3]) rfl ?_
  refine z_le hk (z_row hX8_limitOf_0 6 rfl) (tgt := 19) rfl ?_ ?_
  · refine z_run hk hX8_limitOf_0 11 1 (pc' := 20) (lv' := [some (.inr (.inl a0)), some (.inl a1), some (.inl a2), some (.inl x3), none]) (st' := [.inl 0]) rfl ?_
    refine z_mask [true, true, true, false, false] rfl ?_
    exact gsX8_limitOf_20 F n σ hk he a0 a1 a2 0
  · refine z_run hk hX8_limitOf_0 7 2 (pc' := 13) (lv' := [some (.inr (.inl a0)), some (.inl a1), some (.inl a2), some (.inl x3), none]) (st' := [.inl x3, .inr (.inl a0)]) rfl ?_
    refine kX8_stepBelow F hk (z_row hX8_limitOf_0 9 rfl) wd_1242 (by decide) (Nat.le_of_ble_eq_true rfl) (fun x4 => ?_)
    refine z_goto hk (z_row hX8_limitOf_0 10 rfl) (tgt := 20) rfl ?_
    refine z_mask [true, true, true, false, false] rfl ?_
    exact gsX8_limitOf_20 F n σ hk he a0 a1 a2 x4
theorem kX8_limitOf {n : Nat} {own : String} {cc : ByteArray} {nL h index : Nat} {α : Type} {fin : α → zO} {σ : zW} {pc : Nat} {lv : zLV} {st : List zV} {a0 : Nat} {a1 : Int32} {a2 : Int32} {c : Int32 → Option α} (F : zFx E) (hk : zk E K own cc nL h) (hd : decode cc pc = .ok (.invokevirtual index, 3)) (hl : Cond.methodLink own index qX8_limitOf ∈ lw_tbl) (hh : 2 + 1 ≤ h) (hs : zcat st ≤ 8) (k : ∀ v, zG E K fin (c v) σ (pc + 3) lv (.inl v :: st)) : zG E K fin (zck σ 9 a0 (zb (fX8_limitOf n a0 a1 a2 σ) c)) σ pc lv (.inl a2 :: .inl a1 :: .inr (.inl a0) :: st) :=
  z_vR (n := 2) (y := qX8_limitOf) (As := [.inl a1, .inl a2]) hk hd hl wd_1325 ws_36 wd_10 wd_1326 ⟨by decide, by decide, by decide +kernel⟩ ⟨hh, by decide⟩ (ci := 8) rfl rfl rfl (fun o ho => mX8_limitOf F n a0 a1 a2 σ o ho) hs k
abbrev qX8_timeOf : MethodName := { cls := "LotSalesModel", name := "timeOf", desc := "(II)I" }
def sX8_timeOf_153 (n : Nat) (σ : zW) (y0 : Int32) : Option (Int32) := some y0
def sX8_timeOf_125 (n : Nat) (σ : zW) (v0 : Nat) (v3 : Int32) (v5 : Int32) : Option (Int32) := if v5 = 0 then zgR σ 9 v0 1 fun x1 => zaI σ x1 (784 + v3) fun x2 => sX8_timeOf_153 n σ x2 else zgR σ 9 v0 1 fun x3 => zaI σ x3 (384 + v3) fun x4 => sX8_timeOf_153 n σ x4
def sX8_timeOf_87 (n : Nat) (σ : zW) (v0 : Nat) (v3 : Int32) (v5 : Int32) (y0 : Int32) : Option (Int32) := if v5 = 0 then sX8_timeOf_125 n σ v0 v3 v5 else if y0 = 0 then sX8_timeOf_125 n σ v0 v3 v5 else zgR σ 9 v0 1 fun x5 => zaI σ x5 (384 + v3) fun x6 => zgR σ 9 v0 1 fun x7 => zaI σ x7 (784 + v3) fun x8 => sX8_timeOf_153 n σ (if x8 < x6 then x8 else x6)
def sX8_timeOf_86 (n : Nat) (σ : zW) (v0 : Nat) (v3 : Int32) (v5 : Int32) : Option (Int32) := sX8_timeOf_87 n σ v0 v3 v5 0
def sX8_timeOf_52 (n : Nat) (σ : zW) (v0 : Nat) (v3 : Int32) (v4 : Int32) (y0 : Int32) : Option (Int32) := zgR σ 9 v0 1 fun x9 => zaI σ x9 (584 + v3) fun x10 => if 0 < x10 then zgR σ 9 v0 1 fun x11 => zaI σ x11 (584 + v3) fun x12 => if x12 = v4 then sX8_timeOf_87 n σ v0 v3 y0 1 else sX8_timeOf_86 n σ v0 v3 y0 else sX8_timeOf_86 n σ v0 v3 y0
def sX8_timeOf_51 (n : Nat) (σ : zW) (v0 : Nat) (v3 : Int32) (v4 : Int32) : Option (Int32) := sX8_timeOf_52 n σ v0 v3 v4 0
def fX8_timeOf (n : Nat) (a0 : Nat) (a1 : Int32) (a2 : Int32) (σ : zW) : Option (Int32) := zck σ 9 a0 (zb (fX8_limitOf n a0 a1 a2 σ) fun x13 => zgR σ 9 a0 1 fun x14 => zaI σ x14 (184 + ((10 * a1) + a2)) fun x15 => if 0 < x15 then zgR σ 9 a0 1 fun x16 => zaI σ x16 (184 + ((10 * a1) + a2)) fun x17 => zck σ 9 a0 (zb (fX8_stepBelow n a0 x17 σ) fun x18 => if x18 = x13 then sX8_timeOf_52 n σ a0 ((10 * a1) + a2) x13 1 else sX8_timeOf_51 n σ a0 ((10 * a1) + a2) x13) else sX8_timeOf_51 n σ a0 ((10 * a1) + a2) x13)
theorem gsX8_timeOf_153 (F : zFx E) (n : Nat) (σ : zW) (hk : zk E K "LotSalesModel" cX8_timeOf 7 3) (he : zend E K (some .int) "timeOf") (y0 : Int32) : zG E K (zfR σ) (sX8_timeOf_153 n σ y0) σ 153 [none, none, none, none, none, none, none] [.inl y0] := by
  unfold sX8_timeOf_153
  exact z_iret hk he (z_row hX8_timeOf_1 24 rfl) rfl
theorem gsX8_timeOf_125 (F : zFx E) (n : Nat) (σ : zW) (hk : zk E K "LotSalesModel" cX8_timeOf 7 3) (he : zend E K (some .int) "timeOf") (v0 : Nat) (v3 : Int32) (v5 : Int32) : zG E K (zfR σ) (sX8_timeOf_125 n σ v0 v3 v5) σ 125 [some (.inr (.inl v0)), none, none, some (.inl v3), none, some (.inl v5), none] [] := by
  unfold sX8_timeOf_125
  refine z_run hk hX8_timeOf_1 9 1 (pc' := 127) (lv' := [some (.inr (.inl v0)), none, none, some (.inl v3), none, some (.inl v5), none]) (st' := [.inl v5]) rfl ?_
  refine z_eq hk (z_row hX8_timeOf_1 10 rfl) (tgt := 143) rfl ?_ ?_
  · refine z_run hk hX8_timeOf_1 18 1 (pc' := 144) (lv' := [some (.inr (.inl v0)), none, none, some (.inl v3), none, some (.inl v5), none]) (st' := [.inr (.inl v0)]) rfl ?_
    refine z_gR hk 1 (z_row hX8_timeOf_1 19 rfl) (ci := 8) rfl rfl wd_1123 (fun x1 => ?_)
    refine z_run hk hX8_timeOf_1 20 3 (pc' := 152) (lv' := [some (.inr (.inl v0)), none, none, some (.inl v3), none, some (.inl v5), none]) (st' := [.inl (784 + v3), .inr (.inl x1)]) rfl ?_
    refine z_aI hk (z_row hX8_timeOf_1 23 rfl) (fun x2 => ?_)
    refine z_mask [false, false, false, false, false, false, false] rfl ?_
    exact gsX8_timeOf_153 F n σ hk he x2
  · refine z_run hk hX8_timeOf_1 11 1 (pc' := 131) (lv' := [some (.inr (.inl v0)), none, none, some (.inl v3), none, some (.inl v5), none]) (st' := [.inr (.inl v0)]) rfl ?_
    refine z_gR hk 1 (z_row hX8_timeOf_1 12 rfl) (ci := 8) rfl rfl wd_1123 (fun x3 => ?_)
    refine z_run hk hX8_timeOf_1 13 3 (pc' := 139) (lv' := [some (.inr (.inl v0)), none, none, some (.inl v3), none, some (.inl v5), none]) (st' := [.inl (384 + v3), .inr (.inl x3)]) rfl ?_
    refine z_aI hk (z_row hX8_timeOf_1 16 rfl) (fun x4 => ?_)
    refine z_goto hk (z_row hX8_timeOf_1 17 rfl) (tgt := 153) rfl ?_
    refine z_mask [false, false, false, false, false, false, false] rfl ?_
    exact gsX8_timeOf_153 F n σ hk he x4
theorem gsX8_timeOf_87 (F : zFx E) (n : Nat) (σ : zW) (hk : zk E K "LotSalesModel" cX8_timeOf 7 3) (he : zend E K (some .int) "timeOf") (v0 : Nat) (v3 : Int32) (v5 : Int32) (y0 : Int32) : zG E K (zfR σ) (sX8_timeOf_87 n σ v0 v3 v5 y0) σ 87 [some (.inr (.inl v0)), none, none, some (.inl v3), none, some (.inl v5), none] [.inl y0] := by
  unfold sX8_timeOf_87
  refine z_run hk hX8_timeOf_0 50 2 (pc' := 91) (lv' := [some (.inr (.inl v0)), none, none, some (.inl v3), none, some (.inl v5), some (.inl y0)]) (st' := [.inl v5]) rfl ?_
  refine z_eq hk (z_row hX8_timeOf_0 52 rfl) (tgt := 125) rfl ?_ ?_
  · refine z_mask [true, false, false, true, false, true, false] rfl ?_
    exact gsX8_timeOf_125 F n σ hk he v0 v3 v5
  · refine z_run hk hX8_timeOf_0 53 1 (pc' := 96) (lv' := [some (.inr (.inl v0)), none, none, some (.inl v3), none, some (.inl v5), some (.inl y0)]) (st' := [.inl y0]) rfl ?_
    refine z_eq hk (z_row hX8_timeOf_0 54 rfl) (tgt := 125) rfl ?_ ?_
    · refine z_mask [true, false, false, true, false, true, false] rfl ?_
      exact gsX8_timeOf_125 F n σ hk he v0 v3 v5
    · refine z_run hk hX8_timeOf_0 55 1 (pc' := 100) (lv' := [some (.inr (.inl v0)), none, none, some (.inl v3), none, some (.inl v5), some (.inl y0)]) (st' := [.inr (.inl v0)]) rfl ?_
      refine z_gR hk 1 (z_row hX8_timeOf_0 56 rfl) (ci := 8) rfl rfl wd_1123 (fun x5 => ?_)
      refine z_run hk hX8_timeOf_0 57 3 (pc' := 108) (lv' := [some (.inr (.inl v0)), none, none, some (.inl v3), none, some (.inl v5), some (.inl y0)]) (st' := [.inl (384 + v3), .inr (.inl x5)]) rfl ?_
      refine z_aI hk (z_row hX8_timeOf_1 0 rfl) (fun x6 => ?_)
      refine z_run hk hX8_timeOf_1 1 1 (pc' := 110) (lv' := [some (.inr (.inl v0)), none, none, some (.inl v3), none, some (.inl v5), some (.inl y0)]) (st' := [.inr (.inl v0), .inl x6]) rfl ?_
      refine z_gR hk 1 (z_row hX8_timeOf_1 2 rfl) (ci := 8) rfl rfl wd_1123 (fun x7 => ?_)
      refine z_run hk hX8_timeOf_1 3 3 (pc' := 118) (lv' := [some (.inr (.inl v0)), none, none, some (.inl v3), none, some (.inl v5), some (.inl y0)]) (st' := [.inl (784 + v3), .inr (.inl x7), .inl x6]) rfl ?_
      refine z_aI hk (z_row hX8_timeOf_1 6 rfl) (fun x8 => ?_)
      refine z_mmin hk (z_row hX8_timeOf_1 7 rfl) wd_1336 wd_453 wd_16 wd_454 (by decide) (Nat.le_of_ble_eq_true rfl) ?_
      refine z_goto hk (z_row hX8_timeOf_1 8 rfl) (tgt := 153) rfl ?_
      refine z_mask [false, false, false, false, false, false, false] rfl ?_
      exact gsX8_timeOf_153 F n σ hk he (if x8 < x6 then x8 else x6)
theorem gsX8_timeOf_86 (F : zFx E) (n : Nat) (σ : zW) (hk : zk E K "LotSalesModel" cX8_timeOf 7 3) (he : zend E K (some .int) "timeOf") (v0 : Nat) (v3 : Int32) (v5 : Int32) : zG E K (zfR σ) (sX8_timeOf_86 n σ v0 v3 v5) σ 86 [some (.inr (.inl v0)), none, none, some (.inl v3), none, some (.inl v5), none] [] := by
  unfold sX8_timeOf_86
  refine z_run hk hX8_timeOf_0 49 1 (pc' := 87) (lv' := [some (.inr (.inl v0)), none, none, some (.inl v3), none, some (.inl v5), none]) (st' := [.inl 0]) rfl ?_
  exact gsX8_timeOf_87 F n σ hk he v0 v3 v5 0
theorem gsX8_timeOf_52 (F : zFx E) (n : Nat) (σ : zW) (hk : zk E K "LotSalesModel" cX8_timeOf 7 3) (he : zend E K (some .int) "timeOf") (v0 : Nat) (v3 : Int32) (v4 : Int32) (y0 : Int32) : zG E K (zfR σ) (sX8_timeOf_52 n σ v0 v3 v4 y0) σ 52 [some (.inr (.inl v0)), none, none, some (.inl v3), some (.inl v4), none, none] [.inl y0] := by
  unfold sX8_timeOf_52
  refine z_run hk hX8_timeOf_0 31 2 (pc' := 55) (lv' := [some (.inr (.inl v0)), none, none, some (.inl v3), some (.inl v4), some (.inl y0), none]) (st' := [.inr (.inl v0)]) rfl ?_
  refine z_gR hk 1 (z_row hX8_timeOf_0 33 rfl) (ci := 8) rfl rfl wd_1123 (fun x9 => ?_)
  refine z_run hk hX8_timeOf_0 34 3 (pc' := 63) (lv' := [some (.inr (.inl v0)), none, none, some (.inl v3), some (.inl v4), some (.inl y0), none]) (st' := [.inl (584 + v3), .inr (.inl x9)]) rfl ?_
  refine z_aI hk (z_row hX8_timeOf_0 37 rfl) (fun x10 => ?_)
  refine z_le hk (z_row hX8_timeOf_0 38 rfl) (tgt := 86) rfl ?_ ?_
  · refine z_mask [true, false, false, true, false, true, false] rfl ?_
    exact gsX8_timeOf_86 F n σ hk he v0 v3 y0
  · refine z_run hk hX8_timeOf_0 39 1 (pc' := 68) (lv' := [some (.inr (.inl v0)), none, none, some (.inl v3), some (.inl v4), some (.inl y0), none]) (st' := [.inr (.inl v0)]) rfl ?_
    refine z_gR hk 1 (z_row hX8_timeOf_0 40 rfl) (ci := 8) rfl rfl wd_1123 (fun x11 => ?_)
    refine z_run hk hX8_timeOf_0 41 3 (pc' := 76) (lv' := [some (.inr (.inl v0)), none, none, some (.inl v3), some (.inl v4), some (.inl y0), none]) (st' := [.inl (584 + v3), .inr (.inl x11)]) rfl ?_
    refine z_aI hk (z_row hX8_timeOf_0 44 rfl) (fun x12 => ?_)
    refine z_run hk hX8_timeOf_0 45 1 (pc' := 79) (lv' := [some (.inr (.inl v0)), none, none, some (.inl v3), some (.inl v4), some (.inl y0), none]) (st' := [.inl v4, .inl x12]) rfl ?_
    refine z_cne hk (z_row hX8_timeOf_0 46 rfl) (tgt := 86) rfl ?_ ?_
    · refine z_mask [true, false, false, true, false, true, false] rfl ?_
      exact gsX8_timeOf_86 F n σ hk he v0 v3 y0
    · refine z_run hk hX8_timeOf_0 47 1 (pc' := 83) (lv' := [some (.inr (.inl v0)), none, none, some (.inl v3), some (.inl v4), some (.inl y0), none]) (st' := [.inl 1]) rfl ?_
      refine z_goto hk (z_row hX8_timeOf_0 48 rfl) (tgt := 87) rfl ?_
      refine z_mask [true, false, false, true, false, true, false] rfl ?_
      exact gsX8_timeOf_87 F n σ hk he v0 v3 y0 1
theorem gsX8_timeOf_51 (F : zFx E) (n : Nat) (σ : zW) (hk : zk E K "LotSalesModel" cX8_timeOf 7 3) (he : zend E K (some .int) "timeOf") (v0 : Nat) (v3 : Int32) (v4 : Int32) : zG E K (zfR σ) (sX8_timeOf_51 n σ v0 v3 v4) σ 51 [some (.inr (.inl v0)), none, none, some (.inl v3), some (.inl v4), none, none] [] := by
  unfold sX8_timeOf_51
  refine z_run hk hX8_timeOf_0 30 1 (pc' := 52) (lv' := [some (.inr (.inl v0)), none, none, some (.inl v3), some (.inl v4), none, none]) (st' := [.inl 0]) rfl ?_
  exact gsX8_timeOf_52 F n σ hk he v0 v3 v4 0
theorem mX8_timeOf (F : zFx E) (n : Nat) (a0 : Nat) (a1 : Int32) (a2 : Int32) (σ : zW) (o : Int32) (hf : fX8_timeOf n a0 a1 a2 σ = some o) : zM E qX8_timeOf cX8_timeOf 7 (some .int) 3 [.inr (.inl a0), .inl a1, .inl a2] σ (some (.int o)) σ := by
  refine zM_of (fin := (zfR σ)) F (by decide +kernel) rfl (Nat.le_of_ble_eq_true rfl) (lv0 := [some (.inr (.inl a0)), some (.inl a1), some (.inl a2), none, none, none, none]) rfl hf rfl (fun K hk he => ?_)
  have hk : zk E K "LotSalesModel" cX8_timeOf 7 3 := hk
  unfold fX8_timeOf
  refine z_run hk hX8_timeOf_0 0 9 (pc' := 10) (lv' := [some (.inr (.inl a0)), some (.inl a1), some (.inl a2), some (.inl ((10 * a1) + a2)), none, none, none]) (st' := [.inl a2, .inl a1, .inr (.inl a0)]) rfl ?_
  refine kX8_limitOf F hk (z_row hX8_timeOf_0 9 rfl) wd_1323 (by decide) (Nat.le_of_ble_eq_true rfl) (fun x13 => ?_)
  refine z_run hk hX8_timeOf_0 10 2 (pc' := 16) (lv' := [some (.inr (.inl a0)), some (.inl a1), some (.inl a2), some (.inl ((10 * a1) + a2)), some (.inl x13), none, none]) (st' := [.inr (.inl a0)]) rfl ?_
  refine z_gR hk 1 (z_row hX8_timeOf_0 12 rfl) (ci := 8) rfl rfl wd_1123 (fun x14 => ?_)
  refine z_run hk hX8_timeOf_0 13 3 (pc' := 24) (lv' := [some (.inr (.inl a0)), some (.inl a1), some (.inl a2), some (.inl ((10 * a1) + a2)), some (.inl x13), none, none]) (st' := [.inl (184 + ((10 * a1) + a2)), .inr (.inl x14)]) rfl ?_
  refine z_aI hk (z_row hX8_timeOf_0 16 rfl) (fun x15 => ?_)
  refine z_le hk (z_row hX8_timeOf_0 17 rfl) (tgt := 51) rfl ?_ ?_
  · refine z_mask [true, false, false, true, true, false, false] rfl ?_
    exact gsX8_timeOf_51 F n σ hk he a0 ((10 * a1) + a2) x13
  · refine z_run hk hX8_timeOf_0 18 2 (pc' := 30) (lv' := [some (.inr (.inl a0)), some (.inl a1), some (.inl a2), some (.inl ((10 * a1) + a2)), some (.inl x13), none, none]) (st' := [.inr (.inl a0), .inr (.inl a0)]) rfl ?_
    refine z_gR hk 1 (z_row hX8_timeOf_0 20 rfl) (ci := 8) rfl rfl wd_1123 (fun x16 => ?_)
    refine z_run hk hX8_timeOf_0 21 3 (pc' := 38) (lv' := [some (.inr (.inl a0)), some (.inl a1), some (.inl a2), some (.inl ((10 * a1) + a2)), some (.inl x13), none, none]) (st' := [.inl (184 + ((10 * a1) + a2)), .inr (.inl x16), .inr (.inl a0)]) rfl ?_
    refine z_aI hk (z_row hX8_timeOf_0 24 rfl) (fun x17 => ?_)
    refine kX8_stepBelow F hk (z_row hX8_timeOf_0 25 rfl) wd_1242 (by decide) (Nat.le_of_ble_eq_true rfl) (fun x18 => ?_)
    refine z_run hk hX8_timeOf_0 26 1 (pc' := 44) (lv' := [some (.inr (.inl a0)), some (.inl a1), some (.inl a2), some (.inl ((10 * a1) + a2)), some (.inl x13), none, none]) (st' := [.inl x13, .inl x18]) rfl ?_
    refine z_cne hk (z_row hX8_timeOf_0 27 rfl) (tgt := 51) rfl ?_ ?_
    · refine z_mask [true, false, false, true, true, false, false] rfl ?_
      exact gsX8_timeOf_51 F n σ hk he a0 ((10 * a1) + a2) x13
    · refine z_run hk hX8_timeOf_0 28 1 (pc' := 48) (lv' := [some (.inr (.inl a0)), some (.inl a1), some (.inl a2), some (.inl ((10 * a1) + a2)), some (.inl x13), none, none]) (st' := [.inl 1]) rfl ?_
      refine z_goto hk (z_row hX8_timeOf_0 29 rfl) (tgt := 52) rfl ?_
      refine z_mask [true, false, false, true, true, false, false] rfl ?_
      exact gsX8_timeOf_52 F n σ hk he a0 ((10 * a1) + a2) x13 1
theorem kX8_timeOf {n : Nat} {own : String} {cc : ByteArray} {nL h index : Nat} {α : Type} {fin : α → zO} {σ : zW} {pc : Nat} {lv : zLV} {st : List zV} {a0 : Nat} {a1 : Int32} {a2 : Int32} {c : Int32 → Option α} (F : zFx E) (hk : zk E K own cc nL h) (hd : decode cc pc = .ok (.invokevirtual index, 3)) (hl : Cond.methodLink own index qX8_timeOf ∈ lw_tbl) (hh : 3 + 1 ≤ h) (hs : zcat st ≤ 8) (k : ∀ v, zG E K fin (c v) σ (pc + 3) lv (.inl v :: st)) : zG E K fin (zck σ 9 a0 (zb (fX8_timeOf n a0 a1 a2 σ) c)) σ pc lv (.inl a2 :: .inl a1 :: .inr (.inl a0) :: st) :=
  z_vR (n := 2) (y := qX8_timeOf) (As := [.inl a1, .inl a2]) hk hd hl wd_1334 ws_38 wd_10 wd_1335 ⟨by decide, by decide, by decide +kernel⟩ ⟨hh, by decide⟩ (ci := 8) rfl rfl rfl (fun o ho => mX8_timeOf F n a0 a1 a2 σ o ho) hs k
abbrev qX8_houseLimit : MethodName := { cls := "LotSalesModel", name := "houseLimit", desc := "(I)I" }
def sX8_houseLimit_25 (n : Nat) (σ : zW) (y0 : Int32) : Option (Int32) := some y0
def fX8_houseLimit (n : Nat) (a0 : Nat) (a1 : Int32) (σ : zW) : Option (Int32) := zck σ 9 a0 (zb (fX8_at n a0 a1 2 σ) fun x1 => if 0 < x1 then zck σ 9 a0 (zb (fX8_at n a0 a1 2 σ) fun x2 => zck σ 9 a0 (zb (fX8_stepBelow n a0 (x2 - 1) σ) fun x3 => sX8_houseLimit_25 n σ x3)) else sX8_houseLimit_25 n σ 0)
theorem gsX8_houseLimit_25 (F : zFx E) (n : Nat) (σ : zW) (hk : zk E K "LotSalesModel" cX8_houseLimit 2 2) (he : zend E K (some .int) "houseLimit") (y0 : Int32) : zG E K (zfR σ) (sX8_houseLimit_25 n σ y0) σ 25 [none, none] [.inl y0] := by
  unfold sX8_houseLimit_25
  exact z_iret hk he (z_row hX8_houseLimit_0 15 rfl) rfl
theorem mX8_houseLimit (F : zFx E) (n : Nat) (a0 : Nat) (a1 : Int32) (σ : zW) (o : Int32) (hf : fX8_houseLimit n a0 a1 σ = some o) : zM E qX8_houseLimit cX8_houseLimit 2 (some .int) 2 [.inr (.inl a0), .inl a1] σ (some (.int o)) σ := by
  refine zM_of (fin := (zfR σ)) F (by decide +kernel) rfl (Nat.le_of_ble_eq_true rfl) (lv0 := [some (.inr (.inl a0)), some (.inl a1)]) rfl hf rfl (fun K hk he => ?_)
  have hk : zk E K "LotSalesModel" cX8_houseLimit 2 2 := hk
  unfold fX8_houseLimit
  refine z_run hk hX8_houseLimit_0 0 3 (pc' := 3) (lv' := [some (.inr (.inl a0)), some (.inl a1)]) (st' := [.inl 2, .inl a1, .inr (.inl a0)]) rfl ?_
  refine kX8_at F hk (z_row hX8_houseLimit_0 3 rfl) wd_1213 (by decide) (Nat.le_of_ble_eq_true rfl) (fun x1 => ?_)
  refine z_le hk (z_row hX8_houseLimit_0 4 rfl) (tgt := 24) rfl ?_ ?_
  · refine z_run hk hX8_houseLimit_0 14 1 (pc' := 25) (lv' := [some (.inr (.inl a0)), some (.inl a1)]) (st' := [.inl 0]) rfl ?_
    refine z_mask [false, false] rfl ?_
    exact gsX8_houseLimit_25 F n σ hk he 0
  · refine z_run hk hX8_houseLimit_0 5 4 (pc' := 13) (lv' := [some (.inr (.inl a0)), some (.inl a1)]) (st' := [.inl 2, .inl a1, .inr (.inl a0), .inr (.inl a0)]) rfl ?_
    refine kX8_at F hk (z_row hX8_houseLimit_0 9 rfl) wd_1213 (by decide) (Nat.le_of_ble_eq_true rfl) (fun x2 => ?_)
    refine z_run hk hX8_houseLimit_0 10 2 (pc' := 18) (lv' := [some (.inr (.inl a0)), some (.inl a1)]) (st' := [.inl (x2 - 1), .inr (.inl a0)]) rfl ?_
    refine kX8_stepBelow F hk (z_row hX8_houseLimit_0 12 rfl) wd_1242 (by decide) (Nat.le_of_ble_eq_true rfl) (fun x3 => ?_)
    refine z_goto hk (z_row hX8_houseLimit_0 13 rfl) (tgt := 25) rfl ?_
    refine z_mask [false, false] rfl ?_
    exact gsX8_houseLimit_25 F n σ hk he x3
theorem kX8_houseLimit {n : Nat} {own : String} {cc : ByteArray} {nL h index : Nat} {α : Type} {fin : α → zO} {σ : zW} {pc : Nat} {lv : zLV} {st : List zV} {a0 : Nat} {a1 : Int32} {c : Int32 → Option α} (F : zFx E) (hk : zk E K own cc nL h) (hd : decode cc pc = .ok (.invokevirtual index, 3)) (hl : Cond.methodLink own index qX8_houseLimit ∈ lw_tbl) (hh : 2 + 1 ≤ h) (hs : zcat st ≤ 8) (k : ∀ v, zG E K fin (c v) σ (pc + 3) lv (.inl v :: st)) : zG E K fin (zck σ 9 a0 (zb (fX8_houseLimit n a0 a1 σ) c)) σ pc lv (.inl a1 :: .inr (.inl a0) :: st) :=
  z_vR (n := 1) (y := qX8_houseLimit) (As := [.inl a1]) hk hd hl wd_1317 ws_34 wd_10 wd_1318 ⟨by decide, by decide, by decide +kernel⟩ ⟨hh, by decide⟩ (ci := 8) rfl rfl rfl (fun o ho => mX8_houseLimit F n a0 a1 σ o ho) hs k
abbrev qX8_isAhead : MethodName := { cls := "LotSalesModel", name := "isAhead", desc := "(III)Z" }
def sX8_isAhead_50 (n : Nat) (σ : zW) (y0 : Int32) : Option (Int32) := if y0 = 0 ∨ y0 = 1 then some y0 else none
def sX8_isAhead_45 (n : Nat) (σ : zW) : Option (Int32) := sX8_isAhead_50 n σ 1
def sX8_isAhead_49 (n : Nat) (σ : zW) : Option (Int32) := sX8_isAhead_50 n σ 0
def fX8_isAhead (n : Nat) (a0 : Nat) (a1 : Int32) (a2 : Int32) (a3 : Int32) (σ : zW) : Option (Int32) := zck σ 9 a0 (zb (fX8_limitOf n a0 a1 a2 σ) fun x1 => zck σ 9 a0 (zb (fX8_limitOf n a0 a1 a3 σ) fun x2 => if x2 < x1 then sX8_isAhead_45 n σ else if x1 = x2 then zck σ 9 a0 (zb (fX8_timeOf n a0 a1 a2 σ) fun x3 => zck σ 9 a0 (zb (fX8_timeOf n a0 a1 a3 σ) fun x4 => if x3 < x4 then sX8_isAhead_45 n σ else sX8_isAhead_49 n σ)) else sX8_isAhead_49 n σ))
theorem gsX8_isAhead_50 (F : zFx E) (n : Nat) (σ : zW) (hk : zk E K "LotSalesModel" cX8_isAhead 6 4) (he : zend E K (some .boolean) "isAhead") (y0 : Int32) : zG E K (zfR σ) (sX8_isAhead_50 n σ y0) σ 50 [none, none, none, none, none, none] [.inl y0] := by
  unfold sX8_isAhead_50
  exact z_zret (fin := (zfR σ)) (o := y0) hk he (z_row hX8_isAhead_0 28 rfl) rfl
theorem gsX8_isAhead_45 (F : zFx E) (n : Nat) (σ : zW) (hk : zk E K "LotSalesModel" cX8_isAhead 6 4) (he : zend E K (some .boolean) "isAhead") : zG E K (zfR σ) (sX8_isAhead_45 n σ) σ 45 [none, none, none, none, none, none] [] := by
  unfold sX8_isAhead_45
  refine z_run hk hX8_isAhead_0 25 1 (pc' := 46) (lv' := [none, none, none, none, none, none]) (st' := [.inl 1]) rfl ?_
  refine z_goto hk (z_row hX8_isAhead_0 26 rfl) (tgt := 50) rfl ?_
  exact gsX8_isAhead_50 F n σ hk he 1
theorem gsX8_isAhead_49 (F : zFx E) (n : Nat) (σ : zW) (hk : zk E K "LotSalesModel" cX8_isAhead 6 4) (he : zend E K (some .boolean) "isAhead") : zG E K (zfR σ) (sX8_isAhead_49 n σ) σ 49 [none, none, none, none, none, none] [] := by
  unfold sX8_isAhead_49
  refine z_run hk hX8_isAhead_0 27 1 (pc' := 50) (lv' := [none, none, none, none, none, none]) (st' := [.inl 0]) rfl ?_
  exact gsX8_isAhead_50 F n σ hk he 0
theorem mX8_isAhead (F : zFx E) (n : Nat) (a0 : Nat) (a1 : Int32) (a2 : Int32) (a3 : Int32) (σ : zW) (o : Int32) (hf : fX8_isAhead n a0 a1 a2 a3 σ = some o) : zM E qX8_isAhead cX8_isAhead 6 (some .boolean) 4 [.inr (.inl a0), .inl a1, .inl a2, .inl a3] σ (some (.int o)) σ := by
  refine zM_of (fin := (zfR σ)) F (by decide +kernel) rfl (Nat.le_of_ble_eq_true rfl) (lv0 := [some (.inr (.inl a0)), some (.inl a1), some (.inl a2), some (.inl a3), none, none]) rfl hf rfl (fun K hk he => ?_)
  have hk : zk E K "LotSalesModel" cX8_isAhead 6 4 := hk
  unfold fX8_isAhead
  refine z_run hk hX8_isAhead_0 0 3 (pc' := 3) (lv' := [some (.inr (.inl a0)), some (.inl a1), some (.inl a2), some (.inl a3), none, none]) (st' := [.inl a2, .inl a1, .inr (.inl a0)]) rfl ?_
  refine kX8_limitOf F hk (z_row hX8_isAhead_0 3 rfl) wd_1323 (by decide) (Nat.le_of_ble_eq_true rfl) (fun x1 => ?_)
  refine z_run hk hX8_isAhead_0 4 4 (pc' := 11) (lv' := [some (.inr (.inl a0)), some (.inl a1), some (.inl a2), some (.inl a3), some (.inl x1), none]) (st' := [.inl a3, .inl a1, .inr (.inl a0)]) rfl ?_
  refine kX8_limitOf F hk (z_row hX8_isAhead_0 8 rfl) wd_1323 (by decide) (Nat.le_of_ble_eq_true rfl) (fun x2 => ?_)
  refine z_run hk hX8_isAhead_0 9 3 (pc' := 20) (lv' := [some (.inr (.inl a0)), some (.inl a1), some (.inl a2), some (.inl a3), some (.inl x1), some (.inl x2)]) (st' := [.inl x2, .inl x1]) rfl ?_
  refine z_cgt hk (z_row hX8_isAhead_0 12 rfl) (tgt := 45) rfl ?_ ?_
  · refine z_mask [false, false, false, false, false, false] rfl ?_
    exact gsX8_isAhead_45 F n σ hk he
  · refine z_run hk hX8_isAhead_0 13 2 (pc' := 27) (lv' := [some (.inr (.inl a0)), some (.inl a1), some (.inl a2), some (.inl a3), some (.inl x1), some (.inl x2)]) (st' := [.inl x2, .inl x1]) rfl ?_
    refine z_cne hk (z_row hX8_isAhead_0 15 rfl) (tgt := 49) rfl ?_ ?_
    · refine z_mask [false, false, false, false, false, false] rfl ?_
      exact gsX8_isAhead_49 F n σ hk he
    · refine z_run hk hX8_isAhead_0 16 3 (pc' := 33) (lv' := [some (.inr (.inl a0)), some (.inl a1), some (.inl a2), some (.inl a3), some (.inl x1), some (.inl x2)]) (st' := [.inl a2, .inl a1, .inr (.inl a0)]) rfl ?_
      refine kX8_timeOf F hk (z_row hX8_isAhead_0 19 rfl) wd_1332 (by decide) (Nat.le_of_ble_eq_true rfl) (fun x3 => ?_)
      refine z_run hk hX8_isAhead_0 20 3 (pc' := 39) (lv' := [some (.inr (.inl a0)), some (.inl a1), some (.inl a2), some (.inl a3), some (.inl x1), some (.inl x2)]) (st' := [.inl a3, .inl a1, .inr (.inl a0), .inl x3]) rfl ?_
      refine kX8_timeOf F hk (z_row hX8_isAhead_0 23 rfl) wd_1332 (by decide) (Nat.le_of_ble_eq_true rfl) (fun x4 => ?_)
      refine z_cge hk (z_row hX8_isAhead_0 24 rfl) (tgt := 49) rfl ?_ ?_
      · refine z_mask [false, false, false, false, false, false] rfl ?_
        exact gsX8_isAhead_49 F n σ hk he
      · refine z_mask [false, false, false, false, false, false] rfl ?_
        exact gsX8_isAhead_45 F n σ hk he
theorem kX8_isAhead {n : Nat} {own : String} {cc : ByteArray} {nL h index : Nat} {α : Type} {fin : α → zO} {σ : zW} {pc : Nat} {lv : zLV} {st : List zV} {a0 : Nat} {a1 : Int32} {a2 : Int32} {a3 : Int32} {c : Int32 → Option α} (F : zFx E) (hk : zk E K own cc nL h) (hd : decode cc pc = .ok (.invokevirtual index, 3)) (hl : Cond.methodLink own index qX8_isAhead ∈ lw_tbl) (hh : 4 + 1 ≤ h) (hs : zcat st ≤ 8) (k : ∀ v, zG E K fin (c v) σ (pc + 3) lv (.inl v :: st)) : zG E K fin (zck σ 9 a0 (zb (fX8_isAhead n a0 a1 a2 a3 σ) c)) σ pc lv (.inl a3 :: .inl a2 :: .inl a1 :: .inr (.inl a0) :: st) :=
  z_vR (n := 3) (y := qX8_isAhead) (As := [.inl a1, .inl a2, .inl a3]) hk hd hl wd_1330 ws_37 wd_10 wd_1331 ⟨by decide, by decide, by decide +kernel⟩ ⟨hh, by decide⟩ (ci := 8) rfl rfl rfl (fun o ho => mX8_isAhead F n a0 a1 a2 a3 σ o ho) hs k
abbrev qX8_ranked : MethodName := { cls := "LotSalesModel", name := "ranked", desc := "(II)I" }
def sX8_ranked_55 (n : Nat) (σ : zW) (r2 : Nat → Int32 → Int32 → Int32 → Option (Int32)) (r14 : Nat → Int32 → Int32 → Int32 → Int32 → Int32 → Option (Int32)) (v0 : Nat) (v1 : Int32) (v2 : Int32) (v3 : Int32) (v5 : Int32) (y0 : Int32) (y1 : Int32) : Option (Int32) := r14 v0 v1 v2 v3 (y0 + y1) (v5 + 1)
def sX8_ranked_54 (n : Nat) (σ : zW) (r2 : Nat → Int32 → Int32 → Int32 → Option (Int32)) (r14 : Nat → Int32 → Int32 → Int32 → Int32 → Int32 → Option (Int32)) (v0 : Nat) (v1 : Int32) (v2 : Int32) (v3 : Int32) (v5 : Int32) (y0 : Int32) : Option (Int32) := sX8_ranked_55 n σ r2 r14 v0 v1 v2 v3 v5 y0 0
def sX8_ranked_81 (n : Nat) (σ : zW) (r2 : Nat → Int32 → Int32 → Int32 → Option (Int32)) (v0 : Nat) (v1 : Int32) (v2 : Int32) (v3 : Int32) : Option (Int32) := r2 v0 v1 v2 (v3 + 1)
def sX8_ranked_14 (n : Nat) (σ : zW) (r2 : Nat → Int32 → Int32 → Int32 → Option (Int32)) : Nat → Nat → Int32 → Int32 → Int32 → Int32 → Int32 → Option (Int32)
  | 0, _, _, _, _, _, _ => none
  | k + 1, v0, v1, v2, v3, v4, v5 => if v5 < 10 then if v5 = v3 then sX8_ranked_54 n σ r2 (sX8_ranked_14 n σ r2 k) v0 v1 v2 v3 v5 v4 else zck σ 9 v0 (zb (fX8_limitOf n v0 v1 v5 σ) fun x2 => if 0 < x2 then zck σ 9 v0 (zb (fX8_isAhead n v0 v1 v5 v3 σ) fun x3 => if x3 = 0 then sX8_ranked_54 n σ r2 (sX8_ranked_14 n σ r2 k) v0 v1 v2 v3 v5 v4 else sX8_ranked_55 n σ r2 (sX8_ranked_14 n σ r2 k) v0 v1 v2 v3 v5 v4 1) else sX8_ranked_54 n σ r2 (sX8_ranked_14 n σ r2 k) v0 v1 v2 v3 v5 v4) else zck σ 9 v0 (zb (fX8_limitOf n v0 v1 v3 σ) fun x1 => if 0 < x1 then if v4 = v2 then some v3 else sX8_ranked_81 n σ r2 v0 v1 v2 v3 else sX8_ranked_81 n σ r2 v0 v1 v2 v3)
def sX8_ranked_2 (n : Nat) (σ : zW) : Nat → Nat → Int32 → Int32 → Int32 → Option (Int32)
  | 0, _, _, _, _ => none
  | k + 1, v0, v1, v2, v3 => if v3 < 10 then sX8_ranked_14 n σ (sX8_ranked_2 n σ k) n v0 v1 v2 v3 0 0 else some (-1)
def fX8_ranked (n : Nat) (a0 : Nat) (a1 : Int32) (a2 : Int32) (σ : zW) : Option (Int32) := sX8_ranked_2 n σ n a0 a1 a2 0
theorem gsX8_ranked_55 (F : zFx E) (n : Nat) (σ : zW) (hk : zk E K "LotSalesModel" cX8_ranked 6 5) (he : zend E K (some .int) "ranked") (r2 : Nat → Int32 → Int32 → Int32 → Option (Int32)) (r14 : Nat → Int32 → Int32 → Int32 → Int32 → Int32 → Option (Int32)) (hr2 : ∀ (v0 : Nat) (v1 : Int32) (v2 : Int32) (v3 : Int32), zG E K (zfR σ) (r2 v0 v1 v2 v3) σ 2 [some (.inr (.inl v0)), some (.inl v1), some (.inl v2), some (.inl v3), none, none] []) (hr14 : ∀ (v0 : Nat) (v1 : Int32) (v2 : Int32) (v3 : Int32) (v4 : Int32) (v5 : Int32), zG E K (zfR σ) (r14 v0 v1 v2 v3 v4 v5) σ 14 [some (.inr (.inl v0)), some (.inl v1), some (.inl v2), some (.inl v3), some (.inl v4), some (.inl v5)] []) (v0 : Nat) (v1 : Int32) (v2 : Int32) (v3 : Int32) (v5 : Int32) (y0 : Int32) (y1 : Int32) : zG E K (zfR σ) (sX8_ranked_55 n σ r2 r14 v0 v1 v2 v3 v5 y0 y1) σ 55 [some (.inr (.inl v0)), some (.inl v1), some (.inl v2), some (.inl v3), none, some (.inl v5)] [.inl y1, .inl y0] := by
  unfold sX8_ranked_55
  refine z_run hk hX8_ranked_0 30 3 (pc' := 61) (lv' := [some (.inr (.inl v0)), some (.inl v1), some (.inl v2), some (.inl v3), some (.inl (y0 + y1)), some (.inl (v5 + 1))]) (st' := []) rfl ?_
  refine z_goto hk (z_row hX8_ranked_0 33 rfl) (tgt := 14) rfl ?_
  exact hr14 v0 v1 v2 v3 (y0 + y1) (v5 + 1)
theorem gsX8_ranked_54 (F : zFx E) (n : Nat) (σ : zW) (hk : zk E K "LotSalesModel" cX8_ranked 6 5) (he : zend E K (some .int) "ranked") (r2 : Nat → Int32 → Int32 → Int32 → Option (Int32)) (r14 : Nat → Int32 → Int32 → Int32 → Int32 → Int32 → Option (Int32)) (hr2 : ∀ (v0 : Nat) (v1 : Int32) (v2 : Int32) (v3 : Int32), zG E K (zfR σ) (r2 v0 v1 v2 v3) σ 2 [some (.inr (.inl v0)), some (.inl v1), some (.inl v2), some (.inl v3), none, none] []) (hr14 : ∀ (v0 : Nat) (v1 : Int32) (v2 : Int32) (v3 : Int32) (v4 : Int32) (v5 : Int32), zG E K (zfR σ) (r14 v0 v1 v2 v3 v4 v5) σ 14 [some (.inr (.inl v0)), some (.inl v1), some (.inl v2), some (.inl v3), some (.inl v4), some (.inl v5)] []) (v0 : Nat) (v1 : Int32) (v2 : Int32) (v3 : Int32) (v5 : Int32) (y0 : Int32) : zG E K (zfR σ) (sX8_ranked_54 n σ r2 r14 v0 v1 v2 v3 v5 y0) σ 54 [some (.inr (.inl v0)), some (.inl v1), some (.inl v2), some (.inl v3), none, some (.inl v5)] [.inl y0] := by
  unfold sX8_ranked_54
  refine z_run hk hX8_ranked_0 29 1 (pc' := 55) (lv' := [some (.inr (.inl v0)), some (.inl v1), some (.inl v2), some (.inl v3), none, some (.inl v5)]) (st' := [.inl 0, .inl y0]) rfl ?_
  exact gsX8_ranked_55 F n σ hk he r2 r14 hr2 hr14 v0 v1 v2 v3 v5 y0 0
theorem gsX8_ranked_81 (F : zFx E) (n : Nat) (σ : zW) (hk : zk E K "LotSalesModel" cX8_ranked 6 5) (he : zend E K (some .int) "ranked") (r2 : Nat → Int32 → Int32 → Int32 → Option (Int32)) (hr2 : ∀ (v0 : Nat) (v1 : Int32) (v2 : Int32) (v3 : Int32), zG E K (zfR σ) (r2 v0 v1 v2 v3) σ 2 [some (.inr (.inl v0)), some (.inl v1), some (.inl v2), some (.inl v3), none, none] []) (v0 : Nat) (v1 : Int32) (v2 : Int32) (v3 : Int32) : zG E K (zfR σ) (sX8_ranked_81 n σ r2 v0 v1 v2 v3) σ 81 [some (.inr (.inl v0)), some (.inl v1), some (.inl v2), some (.inl v3), none, none] [] := by
  unfold sX8_ranked_81
  refine z_run hk hX8_ranked_0 44 1 (pc' := 84) (lv' := [some (.inr (.inl v0)), some (.inl v1), some (.inl v2), some (.inl (v3 + 1)), none, none]) (st' := []) rfl ?_
  refine z_goto hk (z_row hX8_ranked_0 45 rfl) (tgt := 2) rfl ?_
  exact hr2 v0 v1 v2 (v3 + 1)
theorem gsX8_ranked_14 (F : zFx E) (n : Nat) (σ : zW) (hk : zk E K "LotSalesModel" cX8_ranked 6 5) (he : zend E K (some .int) "ranked") (r2 : Nat → Int32 → Int32 → Int32 → Option (Int32)) (hr2 : ∀ (v0 : Nat) (v1 : Int32) (v2 : Int32) (v3 : Int32), zG E K (zfR σ) (r2 v0 v1 v2 v3) σ 2 [some (.inr (.inl v0)), some (.inl v1), some (.inl v2), some (.inl v3), none, none] []) : ∀ (k : Nat) (v0 : Nat) (v1 : Int32) (v2 : Int32) (v3 : Int32) (v4 : Int32) (v5 : Int32), zG E K (zfR σ) (sX8_ranked_14 n σ r2 k v0 v1 v2 v3 v4 v5) σ 14 [some (.inr (.inl v0)), some (.inl v1), some (.inl v2), some (.inl v3), some (.inl v4), some (.inl v5)] [] := by
  intro k
  induction k with
  | zero =>
    intro v0 v1 v2 v3 v4 v5
    intro hX
    exact z_none hX
  | succ k ih =>
    intro v0 v1 v2 v3 v4 v5
    rw [sX8_ranked_14]
    refine z_run hk hX8_ranked_0 9 2 (pc' := 18) (lv' := [some (.inr (.inl v0)), some (.inl v1), some (.inl v2), some (.inl v3), some (.inl v4), some (.inl v5)]) (st' := [.inl 10, .inl v5]) rfl ?_
    refine z_cge hk (z_row hX8_ranked_0 11 rfl) (tgt := 64) rfl ?_ ?_
    · refine z_run hk hX8_ranked_0 34 3 (pc' := 67) (lv' := [some (.inr (.inl v0)), some (.inl v1), some (.inl v2), some (.inl v3), some (.inl v4), some (.inl v5)]) (st' := [.inl v3, .inl v1, .inr (.inl v0)]) rfl ?_
      refine kX8_limitOf F hk (z_row hX8_ranked_0 37 rfl) wd_1323 (by decide) (Nat.le_of_ble_eq_true rfl) (fun x1 => ?_)
      refine z_le hk (z_row hX8_ranked_0 38 rfl) (tgt := 81) rfl ?_ ?_
      · refine z_mask [true, true, true, true, false, false] rfl ?_
        exact gsX8_ranked_81 F n σ hk he r2 hr2 v0 v1 v2 v3
      · refine z_run hk hX8_ranked_0 39 2 (pc' := 76) (lv' := [some (.inr (.inl v0)), some (.inl v1), some (.inl v2), some (.inl v3), some (.inl v4), some (.inl v5)]) (st' := [.inl v2, .inl v4]) rfl ?_
        refine z_cne hk (z_row hX8_ranked_0 41 rfl) (tgt := 81) rfl ?_ ?_
        · refine z_mask [true, true, true, true, false, false] rfl ?_
          exact gsX8_ranked_81 F n σ hk he r2 hr2 v0 v1 v2 v3
        · refine z_run hk hX8_ranked_0 42 1 (pc' := 80) (lv' := [some (.inr (.inl v0)), some (.inl v1), some (.inl v2), some (.inl v3), some (.inl v4), some (.inl v5)]) (st' := [.inl v3]) rfl ?_
          exact z_iret hk he (z_row hX8_ranked_0 43 rfl) rfl
    · refine z_run hk hX8_ranked_0 12 3 (pc' := 26) (lv' := [some (.inr (.inl v0)), some (.inl v1), some (.inl v2), some (.inl v3), some (.inl v4), some (.inl v5)]) (st' := [.inl v3, .inl v5, .inl v4]) rfl ?_
      refine z_ceq hk (z_row hX8_ranked_0 15 rfl) (tgt := 54) rfl ?_ ?_
      · refine z_mask [true, true, true, true, false, true] rfl ?_
        exact gsX8_ranked_54 F n σ hk he r2 (sX8_ranked_14 n σ r2 k) hr2 ih v0 v1 v2 v3 v5 v4
      · refine z_run hk hX8_ranked_0 16 3 (pc' := 33) (lv' := [some (.inr (.inl v0)), some (.inl v1), some (.inl v2), some (.inl v3), some (.inl v4), some (.inl v5)]) (st' := [.inl v5, .inl v1, .inr (.inl v0), .inl v4]) rfl ?_
        refine kX8_limitOf F hk (z_row hX8_ranked_0 19 rfl) wd_1323 (by decide) (Nat.le_of_ble_eq_true rfl) (fun x2 => ?_)
        refine z_le hk (z_row hX8_ranked_0 20 rfl) (tgt := 54) rfl ?_ ?_
        · refine z_mask [true, true, true, true, false, true] rfl ?_
          exact gsX8_ranked_54 F n σ hk he r2 (sX8_ranked_14 n σ r2 k) hr2 ih v0 v1 v2 v3 v5 v4
        · refine z_run hk hX8_ranked_0 21 4 (pc' := 44) (lv' := [some (.inr (.inl v0)), some (.inl v1), some (.inl v2), some (.inl v3), some (.inl v4), some (.inl v5)]) (st' := [.inl v3, .inl v5, .inl v1, .inr (.inl v0), .inl v4]) rfl ?_
          refine kX8_isAhead F hk (z_row hX8_ranked_0 25 rfl) wd_1328 (by decide) (Nat.le_of_ble_eq_true rfl) (fun x3 => ?_)
          refine z_eq hk (z_row hX8_ranked_0 26 rfl) (tgt := 54) rfl ?_ ?_
          · refine z_mask [true, true, true, true, false, true] rfl ?_
            exact gsX8_ranked_54 F n σ hk he r2 (sX8_ranked_14 n σ r2 k) hr2 ih v0 v1 v2 v3 v5 v4
          · refine z_run hk hX8_ranked_0 27 1 (pc' := 51) (lv' := [some (.inr (.inl v0)), some (.inl v1), some (.inl v2), some (.inl v3), some (.inl v4), some (.inl v5)]) (st' := [.inl 1, .inl v4]) rfl ?_
            refine z_goto hk (z_row hX8_ranked_0 28 rfl) (tgt := 55) rfl ?_
            refine z_mask [true, true, true, true, false, true] rfl ?_
            exact gsX8_ranked_55 F n σ hk he r2 (sX8_ranked_14 n σ r2 k) hr2 ih v0 v1 v2 v3 v5 v4 1
theorem gsX8_ranked_2 (F : zFx E) (n : Nat) (σ : zW) (hk : zk E K "LotSalesModel" cX8_ranked 6 5) (he : zend E K (some .int) "ranked") : ∀ (k : Nat) (v0 : Nat) (v1 : Int32) (v2 : Int32) (v3 : Int32), zG E K (zfR σ) (sX8_ranked_2 n σ k v0 v1 v2 v3) σ 2 [some (.inr (.inl v0)), some (.inl v1), some (.inl v2), some (.inl v3), none, none] [] := by
  intro k
  induction k with
  | zero =>
    intro v0 v1 v2 v3
    intro hX
    exact z_none hX
  | succ k ih =>
    intro v0 v1 v2 v3
    rw [sX8_ranked_2]
    refine z_run hk hX8_ranked_0 2 2 (pc' := 5) (lv' := [some (.inr (.inl v0)), some (.inl v1), some (.inl v2), some (.inl v3), none, none]) (st' := [.inl 10, .inl v3]) rfl ?_
    refine z_cge hk (z_row hX8_ranked_0 4 rfl) (tgt := 87) rfl ?_ ?_
    · refine z_run hk hX8_ranked_0 46 1 (pc' := 88) (lv' := [some (.inr (.inl v0)), some (.inl v1), some (.inl v2), some (.inl v3), none, none]) (st' := [.inl (-1)]) rfl ?_
      exact z_iret hk he (z_row hX8_ranked_0 47 rfl) rfl
    · refine z_run hk hX8_ranked_0 5 4 (pc' := 14) (lv' := [some (.inr (.inl v0)), some (.inl v1), some (.inl v2), some (.inl v3), some (.inl 0), some (.inl 0)]) (st' := []) rfl ?_
      exact gsX8_ranked_14 F n σ hk he (sX8_ranked_2 n σ k) ih n v0 v1 v2 v3 0 0
theorem mX8_ranked (F : zFx E) (n : Nat) (a0 : Nat) (a1 : Int32) (a2 : Int32) (σ : zW) (o : Int32) (hf : fX8_ranked n a0 a1 a2 σ = some o) : zM E qX8_ranked cX8_ranked 6 (some .int) 5 [.inr (.inl a0), .inl a1, .inl a2] σ (some (.int o)) σ := by
  refine zM_of (fin := (zfR σ)) F (by decide +kernel) rfl (Nat.le_of_ble_eq_true rfl) (lv0 := [some (.inr (.inl a0)), some (.inl a1), some (.inl a2), none, none, none]) rfl hf rfl (fun K hk he => ?_)
  have hk : zk E K "LotSalesModel" cX8_ranked 6 5 := hk
  unfold fX8_ranked
  refine z_run hk hX8_ranked_0 0 2 (pc' := 2) (lv' := [some (.inr (.inl a0)), some (.inl a1), some (.inl a2), some (.inl 0), none, none]) (st' := []) rfl ?_
  exact gsX8_ranked_2 F n σ hk he n a0 a1 a2 0
theorem kX8_ranked {n : Nat} {own : String} {cc : ByteArray} {nL h index : Nat} {α : Type} {fin : α → zO} {σ : zW} {pc : Nat} {lv : zLV} {st : List zV} {a0 : Nat} {a1 : Int32} {a2 : Int32} {c : Int32 → Option α} (F : zFx E) (hk : zk E K own cc nL h) (hd : decode cc pc = .ok (.invokevirtual index, 3)) (hl : Cond.methodLink own index qX8_ranked ∈ lw_tbl) (hh : 5 + 1 ≤ h) (hs : zcat st ≤ 8) (k : ∀ v, zG E K fin (c v) σ (pc + 3) lv (.inl v :: st)) : zG E K fin (zck σ 9 a0 (zb (fX8_ranked n a0 a1 a2 σ) c)) σ pc lv (.inl a2 :: .inl a1 :: .inr (.inl a0) :: st) :=
  z_vR (n := 2) (y := qX8_ranked) (As := [.inl a1, .inl a2]) hk hd hl wd_1321 ws_35 wd_10 wd_1322 ⟨by decide, by decide, by decide +kernel⟩ ⟨hh, by decide⟩ (ci := 8) rfl rfl rfl (fun o ho => mX8_ranked F n a0 a1 a2 σ o ho) hs k
abbrev qX8_stand : MethodName := { cls := "LotSalesModel", name := "stand", desc := "(I)V" }
def sX8_stand_152 (n : Nat) (v0 : Nat) (y0 : Nat) (y1 : Int32) (σ : zW) : Option (zW) := zpI σ 9 y0 9 y1 fun σ1 => zgI σ1 9 v0 8 fun x2 => zgI σ1 9 v0 9 fun x3 => zck σ1 9 v0 (zb (fX8_stepAbove n v0 x3 σ1) fun x4 => zpI σ1 9 v0 10 (if x4 < x2 then x4 else x2) fun σ5 => some σ5)
def sX8_stand_149 (n : Nat) (v0 : Nat) (y0 : Nat) (y1 : Int32) (y2 : Int32) (σ : zW) : Option (zW) := sX8_stand_152 n v0 y0 (if y1 < y2 then y2 else y1) σ
def sX8_stand_117 (n : Nat) (v0 : Nat) (v1 : Int32) (v2 : Int32) (v4 : Int32) (v5 : Int32) (v6 : Int32) (y0 : Nat) (y1 : Int32) (σ : zW) : Option (zW) := zpI σ 9 y0 8 y1 fun σ6 => if v6 = 0 then if v5 = (-1) then sX8_stand_149 n v0 v0 v2 0 σ6 else zck σ6 9 v0 (zb (fX8_limitOf n v0 v1 v5 σ6) fun x7 => sX8_stand_149 n v0 v0 v2 x7 σ6) else sX8_stand_152 n v0 v0 v4 σ6
def sX8_stand_102 (n : Nat) (v0 : Nat) (v1 : Int32) (v2 : Int32) (v4 : Int32) (v5 : Int32) (v6 : Int32) (y0 : Nat) (y1 : Int32) (σ : zW) : Option (zW) := zpI σ 9 y0 7 y1 fun σ8 => if v6 = 0 then sX8_stand_117 n v0 v1 v2 v4 v5 v6 v0 v4 σ8 else sX8_stand_117 n v0 v1 v2 v4 v5 v6 v0 v2 σ8
def sX8_stand_88 (n : Nat) (v0 : Nat) (v1 : Int32) (v2 : Int32) (v3 : Int32) (v4 : Int32) (v5 : Int32) (y0 : Int32) (σ : zW) : Option (zW) := if y0 = 0 then sX8_stand_102 n v0 v1 v2 v4 v5 y0 v0 v3 σ else sX8_stand_102 n v0 v1 v2 v4 v5 y0 v0 10 σ
def sX8_stand_77 (n : Nat) (v0 : Nat) (v1 : Int32) (v2 : Int32) (v3 : Int32) (v4 : Int32) (v5 : Int32) (σ : zW) : Option (zW) := if v4 < v2 then sX8_stand_88 n v0 v1 v2 v3 v4 v5 1 σ else sX8_stand_88 n v0 v1 v2 v3 v4 v5 0 σ
def sX8_stand_45 (n : Nat) (v0 : Nat) (v1 : Int32) (v2 : Int32) (v3 : Int32) (v4 : Int32) (y0 : Int32) (σ : zW) : Option (zW) := if v3 = (-1) then if v2 = 0 then zpI σ 9 v0 7 (-1) fun σ9 => zpI σ9 9 v0 8 0 fun σ10 => zpI σ10 9 v0 9 0 fun σ11 => zpI σ11 9 v0 10 0 fun σ12 => some σ12 else sX8_stand_77 n v0 v1 v2 v3 v4 y0 σ else sX8_stand_77 n v0 v1 v2 v3 v4 y0 σ
def sX8_stand_28 (n : Nat) (v0 : Nat) (v1 : Int32) (v2 : Int32) (v3 : Int32) (y0 : Int32) (σ : zW) : Option (zW) := if v3 = (-1) then sX8_stand_45 n v0 v1 v2 v3 y0 (-1) σ else zck σ 9 v0 (zb (fX8_ranked n v0 v1 1 σ) fun x13 => sX8_stand_45 n v0 v1 v2 v3 y0 x13 σ)
def fX8_stand (n : Nat) (a0 : Nat) (a1 : Int32) (σ : zW) : Option (zW) := zck σ 9 a0 (zb (fX8_houseLimit n a0 a1 σ) fun x14 => zck σ 9 a0 (zb (fX8_ranked n a0 a1 0 σ) fun x15 => if x15 = (-1) then sX8_stand_28 n a0 a1 x14 x15 0 σ else zck σ 9 a0 (zb (fX8_limitOf n a0 a1 x15 σ) fun x16 => sX8_stand_28 n a0 a1 x14 x15 x16 σ)))
theorem gsX8_stand_152 (F : zFx E) (n : Nat) (hk : zk E K "LotSalesModel" cX8_stand 7 6) (he : zend E K none "stand") (v0 : Nat) (y0 : Nat) (y1 : Int32) (σ : zW) : zG E K zfV (sX8_stand_152 n v0 y0 y1 σ) σ 152 [some (.inr (.inl v0)), none, none, none, none, none, none] [.inl y1, .inr (.inl y0)] := by
  unfold sX8_stand_152
  refine z_pI hk 9 (z_row hX8_stand_1 24 rfl) (ci := 8) rfl rfl wd_1131 rfl rfl rfl (fun σ1 => ?_)
  refine z_run hk hX8_stand_1 25 2 (pc' := 157) (lv' := [some (.inr (.inl v0)), none, none, none, none, none, none]) (st' := [.inr (.inl v0), .inr (.inl v0)]) rfl ?_
  refine z_gI hk 8 (z_row hX8_stand_1 27 rfl) (ci := 8) rfl rfl wd_1130 (fun x2 => ?_)
  refine z_run hk hX8_stand_1 28 2 (pc' := 162) (lv' := [some (.inr (.inl v0)), none, none, none, none, none, none]) (st' := [.inr (.inl v0), .inr (.inl v0), .inl x2, .inr (.inl v0)]) rfl ?_
  refine z_gI hk 9 (z_row hX8_stand_1 30 rfl) (ci := 8) rfl rfl wd_1131 (fun x3 => ?_)
  refine kX8_stepAbove F hk (z_row hX8_stand_1 31 rfl) wd_1255 (by decide) (Nat.le_of_ble_eq_true rfl) (fun x4 => ?_)
  refine z_mmin hk (z_row hX8_stand_1 32 rfl) wd_1336 wd_453 wd_16 wd_454 (by decide) (Nat.le_of_ble_eq_true rfl) ?_
  refine z_pI hk 10 (z_row hX8_stand_1 33 rfl) (ci := 8) rfl rfl wd_1132 rfl rfl rfl (fun σ5 => ?_)
  exact z_vret hk he (z_row hX8_stand_1 34 rfl) rfl
theorem gsX8_stand_149 (F : zFx E) (n : Nat) (hk : zk E K "LotSalesModel" cX8_stand 7 6) (he : zend E K none "stand") (v0 : Nat) (y0 : Nat) (y1 : Int32) (y2 : Int32) (σ : zW) : zG E K zfV (sX8_stand_149 n v0 y0 y1 y2 σ) σ 149 [some (.inr (.inl v0)), none, none, none, none, none, none] [.inl y2, .inl y1, .inr (.inl y0)] := by
  unfold sX8_stand_149
  refine z_mmax hk (z_row hX8_stand_1 23 rfl) wd_1327 wd_578 wd_16 wd_579 (by decide) (Nat.le_of_ble_eq_true rfl) ?_
  exact gsX8_stand_152 F n hk he v0 y0 (if y1 < y2 then y2 else y1) σ
theorem gsX8_stand_117 (F : zFx E) (n : Nat) (hk : zk E K "LotSalesModel" cX8_stand 7 6) (he : zend E K none "stand") (v0 : Nat) (v1 : Int32) (v2 : Int32) (v4 : Int32) (v5 : Int32) (v6 : Int32) (y0 : Nat) (y1 : Int32) (σ : zW) : zG E K zfV (sX8_stand_117 n v0 v1 v2 v4 v5 v6 y0 y1 σ) σ 117 [some (.inr (.inl v0)), some (.inl v1), some (.inl v2), none, some (.inl v4), some (.inl v5), some (.inl v6)] [.inl y1, .inr (.inl y0)] := by
  unfold sX8_stand_117
  refine z_pI hk 8 (z_row hX8_stand_1 7 rfl) (ci := 8) rfl rfl wd_1130 rfl rfl rfl (fun σ6 => ?_)
  refine z_run hk hX8_stand_1 8 2 (pc' := 123) (lv' := [some (.inr (.inl v0)), some (.inl v1), some (.inl v2), none, some (.inl v4), some (.inl v5), some (.inl v6)]) (st' := [.inl v6, .inr (.inl v0)]) rfl ?_
  refine z_eq hk (z_row hX8_stand_1 10 rfl) (tgt := 131) rfl ?_ ?_
  · refine z_run hk hX8_stand_1 13 3 (pc' := 135) (lv' := [some (.inr (.inl v0)), some (.inl v1), some (.inl v2), none, some (.inl v4), some (.inl v5), some (.inl v6)]) (st' := [.inl (-1), .inl v5, .inl v2, .inr (.inl v0)]) rfl ?_
    refine z_cne hk (z_row hX8_stand_1 16 rfl) (tgt := 142) rfl ?_ ?_
    · refine z_run hk hX8_stand_1 19 3 (pc' := 146) (lv' := [some (.inr (.inl v0)), some (.inl v1), some (.inl v2), none, some (.inl v4), some (.inl v5), some (.inl v6)]) (st' := [.inl v5, .inl v1, .inr (.inl v0), .inl v2, .inr (.inl v0)]) rfl ?_
      refine kX8_limitOf F hk (z_row hX8_stand_1 22 rfl) wd_1323 (by decide) (Nat.le_of_ble_eq_true rfl) (fun x7 => ?_)
      refine z_mask [true, false, false, false, false, false, false] rfl ?_
      exact gsX8_stand_149 F n hk he v0 v0 v2 x7 σ6
    · refine z_run hk hX8_stand_1 17 1 (pc' := 139) (lv' := [some (.inr (.inl v0)), some (.inl v1), some (.inl v2), none, some (.inl v4), some (.inl v5), some (.inl v6)]) (st' := [.inl 0, .inl v2, .inr (.inl v0)]) rfl ?_
      refine z_goto hk (z_row hX8_stand_1 18 rfl) (tgt := 149) rfl ?_
      refine z_mask [true, false, false, false, false, false, false] rfl ?_
      exact gsX8_stand_149 F n hk he v0 v0 v2 0 σ6
  · refine z_run hk hX8_stand_1 11 1 (pc' := 128) (lv' := [some (.inr (.inl v0)), some (.inl v1), some (.inl v2), none, some (.inl v4), some (.inl v5), some (.inl v6)]) (st' := [.inl v4, .inr (.inl v0)]) rfl ?_
    refine z_goto hk (z_row hX8_stand_1 12 rfl) (tgt := 152) rfl ?_
    refine z_mask [true, false, false, false, false, false, false] rfl ?_
    exact gsX8_stand_152 F n hk he v0 v0 v4 σ6
theorem gsX8_stand_102 (F : zFx E) (n : Nat) (hk : zk E K "LotSalesModel" cX8_stand 7 6) (he : zend E K none "stand") (v0 : Nat) (v1 : Int32) (v2 : Int32) (v4 : Int32) (v5 : Int32) (v6 : Int32) (y0 : Nat) (y1 : Int32) (σ : zW) : zG E K zfV (sX8_stand_102 n v0 v1 v2 v4 v5 v6 y0 y1 σ) σ 102 [some (.inr (.inl v0)), some (.inl v1), some (.inl v2), none, some (.inl v4), some (.inl v5), some (.inl v6)] [.inl y1, .inr (.inl y0)] := by
  unfold sX8_stand_102
  refine z_pI hk 7 (z_row hX8_stand_1 0 rfl) (ci := 8) rfl rfl wd_1129 rfl rfl rfl (fun σ8 => ?_)
  refine z_run hk hX8_stand_1 1 2 (pc' := 108) (lv' := [some (.inr (.inl v0)), some (.inl v1), some (.inl v2), none, some (.inl v4), some (.inl v5), some (.inl v6)]) (st' := [.inl v6, .inr (.inl v0)]) rfl ?_
  refine z_eq hk (z_row hX8_stand_1 3 rfl) (tgt := 115) rfl ?_ ?_
  · refine z_run hk hX8_stand_1 6 1 (pc' := 117) (lv' := [some (.inr (.inl v0)), some (.inl v1), some (.inl v2), none, some (.inl v4), some (.inl v5), some (.inl v6)]) (st' := [.inl v4, .inr (.inl v0)]) rfl ?_
    exact gsX8_stand_117 F n hk he v0 v1 v2 v4 v5 v6 v0 v4 σ8
  · refine z_run hk hX8_stand_1 4 1 (pc' := 112) (lv' := [some (.inr (.inl v0)), some (.inl v1), some (.inl v2), none, some (.inl v4), some (.inl v5), some (.inl v6)]) (st' := [.inl v2, .inr (.inl v0)]) rfl ?_
    refine z_goto hk (z_row hX8_stand_1 5 rfl) (tgt := 117) rfl ?_
    exact gsX8_stand_117 F n hk he v0 v1 v2 v4 v5 v6 v0 v2 σ8
theorem gsX8_stand_88 (F : zFx E) (n : Nat) (hk : zk E K "LotSalesModel" cX8_stand 7 6) (he : zend E K none "stand") (v0 : Nat) (v1 : Int32) (v2 : Int32) (v3 : Int32) (v4 : Int32) (v5 : Int32) (y0 : Int32) (σ : zW) : zG E K zfV (sX8_stand_88 n v0 v1 v2 v3 v4 v5 y0 σ) σ 88 [some (.inr (.inl v0)), some (.inl v1), some (.inl v2), some (.inl v3), some (.inl v4), some (.inl v5), none] [.inl y0] := by
  unfold sX8_stand_88
  refine z_run hk hX8_stand_0 53 3 (pc' := 93) (lv' := [some (.inr (.inl v0)), some (.inl v1), some (.inl v2), some (.inl v3), some (.inl v4), some (.inl v5), some (.inl y0)]) (st' := [.inl y0, .inr (.inl v0)]) rfl ?_
  refine z_eq hk (z_row hX8_stand_0 56 rfl) (tgt := 101) rfl ?_ ?_
  · refine z_run hk hX8_stand_0 59 1 (pc' := 102) (lv' := [some (.inr (.inl v0)), some (.inl v1), some (.inl v2), some (.inl v3), some (.inl v4), some (.inl v5), some (.inl y0)]) (st' := [.inl v3, .inr (.inl v0)]) rfl ?_
    refine z_mask [true, true, true, false, true, true, true] rfl ?_
    exact gsX8_stand_102 F n hk he v0 v1 v2 v4 v5 y0 v0 v3 σ
  · refine z_run hk hX8_stand_0 57 1 (pc' := 98) (lv' := [some (.inr (.inl v0)), some (.inl v1), some (.inl v2), some (.inl v3), some (.inl v4), some (.inl v5), some (.inl y0)]) (st' := [.inl 10, .inr (.inl v0)]) rfl ?_
    refine z_goto hk (z_row hX8_stand_0 58 rfl) (tgt := 102) rfl ?_
    refine z_mask [true, true, true, false, true, true, true] rfl ?_
    exact gsX8_stand_102 F n hk he v0 v1 v2 v4 v5 y0 v0 10 σ
theorem gsX8_stand_77 (F : zFx E) (n : Nat) (hk : zk E K "LotSalesModel" cX8_stand 7 6) (he : zend E K none "stand") (v0 : Nat) (v1 : Int32) (v2 : Int32) (v3 : Int32) (v4 : Int32) (v5 : Int32) (σ : zW) : zG E K zfV (sX8_stand_77 n v0 v1 v2 v3 v4 v5 σ) σ 77 [some (.inr (.inl v0)), some (.inl v1), some (.inl v2), some (.inl v3), some (.inl v4), some (.inl v5), none] [] := by
  unfold sX8_stand_77
  refine z_run hk hX8_stand_0 47 2 (pc' := 80) (lv' := [some (.inr (.inl v0)), some (.inl v1), some (.inl v2), some (.inl v3), some (.inl v4), some (.inl v5), none]) (st' := [.inl v4, .inl v2]) rfl ?_
  refine z_cle hk (z_row hX8_stand_0 49 rfl) (tgt := 87) rfl ?_ ?_
  · refine z_run hk hX8_stand_0 52 1 (pc' := 88) (lv' := [some (.inr (.inl v0)), some (.inl v1), some (.inl v2), some (.inl v3), some (.inl v4), some (.inl v5), none]) (st' := [.inl 0]) rfl ?_
    exact gsX8_stand_88 F n hk he v0 v1 v2 v3 v4 v5 0 σ
  · refine z_run hk hX8_stand_0 50 1 (pc' := 84) (lv' := [some (.inr (.inl v0)), some (.inl v1), some (.inl v2), some (.inl v3), some (.inl v4), some (.inl v5), none]) (st' := [.inl 1]) rfl ?_
    refine z_goto hk (z_row hX8_stand_0 51 rfl) (tgt := 88) rfl ?_
    exact gsX8_stand_88 F n hk he v0 v1 v2 v3 v4 v5 1 σ
theorem gsX8_stand_45 (F : zFx E) (n : Nat) (hk : zk E K "LotSalesModel" cX8_stand 7 6) (he : zend E K none "stand") (v0 : Nat) (v1 : Int32) (v2 : Int32) (v3 : Int32) (v4 : Int32) (y0 : Int32) (σ : zW) : zG E K zfV (sX8_stand_45 n v0 v1 v2 v3 v4 y0 σ) σ 45 [some (.inr (.inl v0)), some (.inl v1), some (.inl v2), some (.inl v3), some (.inl v4), none, none] [.inl y0] := by
  unfold sX8_stand_45
  refine z_run hk hX8_stand_0 28 3 (pc' := 49) (lv' := [some (.inr (.inl v0)), some (.inl v1), some (.inl v2), some (.inl v3), some (.inl v4), some (.inl y0), none]) (st' := [.inl (-1), .inl v3]) rfl ?_
  refine z_cne hk (z_row hX8_stand_0 31 rfl) (tgt := 77) rfl ?_ ?_
  · exact gsX8_stand_77 F n hk he v0 v1 v2 v3 v4 y0 σ
  · refine z_run hk hX8_stand_0 32 1 (pc' := 53) (lv' := [some (.inr (.inl v0)), some (.inl v1), some (.inl v2), some (.inl v3), some (.inl v4), some (.inl y0), none]) (st' := [.inl v2]) rfl ?_
    refine z_ne hk (z_row hX8_stand_0 33 rfl) (tgt := 77) rfl ?_ ?_
    · exact gsX8_stand_77 F n hk he v0 v1 v2 v3 v4 y0 σ
    · refine z_run hk hX8_stand_0 34 2 (pc' := 58) (lv' := [some (.inr (.inl v0)), some (.inl v1), some (.inl v2), some (.inl v3), some (.inl v4), some (.inl y0), none]) (st' := [.inl (-1), .inr (.inl v0)]) rfl ?_
      refine z_pI hk 7 (z_row hX8_stand_0 36 rfl) (ci := 8) rfl rfl wd_1129 rfl rfl rfl (fun σ9 => ?_)
      refine z_run hk hX8_stand_0 37 2 (pc' := 63) (lv' := [some (.inr (.inl v0)), some (.inl v1), some (.inl v2), some (.inl v3), some (.inl v4), some (.inl y0), none]) (st' := [.inl 0, .inr (.inl v0)]) rfl ?_
      refine z_pI hk 8 (z_row hX8_stand_0 39 rfl) (ci := 8) rfl rfl wd_1130 rfl rfl rfl (fun σ10 => ?_)
      refine z_run hk hX8_stand_0 40 2 (pc' := 68) (lv' := [some (.inr (.inl v0)), some (.inl v1), some (.inl v2), some (.inl v3), some (.inl v4), some (.inl y0), none]) (st' := [.inl 0, .inr (.inl v0)]) rfl ?_
      refine z_pI hk 9 (z_row hX8_stand_0 42 rfl) (ci := 8) rfl rfl wd_1131 rfl rfl rfl (fun σ11 => ?_)
      refine z_run hk hX8_stand_0 43 2 (pc' := 73) (lv' := [some (.inr (.inl v0)), some (.inl v1), some (.inl v2), some (.inl v3), some (.inl v4), some (.inl y0), none]) (st' := [.inl 0, .inr (.inl v0)]) rfl ?_
      refine z_pI hk 10 (z_row hX8_stand_0 45 rfl) (ci := 8) rfl rfl wd_1132 rfl rfl rfl (fun σ12 => ?_)
      exact z_vret hk he (z_row hX8_stand_0 46 rfl) rfl
theorem gsX8_stand_28 (F : zFx E) (n : Nat) (hk : zk E K "LotSalesModel" cX8_stand 7 6) (he : zend E K none "stand") (v0 : Nat) (v1 : Int32) (v2 : Int32) (v3 : Int32) (y0 : Int32) (σ : zW) : zG E K zfV (sX8_stand_28 n v0 v1 v2 v3 y0 σ) σ 28 [some (.inr (.inl v0)), some (.inl v1), some (.inl v2), some (.inl v3), none, none, none] [.inl y0] := by
  unfold sX8_stand_28
  refine z_run hk hX8_stand_0 18 3 (pc' := 32) (lv' := [some (.inr (.inl v0)), some (.inl v1), some (.inl v2), some (.inl v3), some (.inl y0), none, none]) (st' := [.inl (-1), .inl v3]) rfl ?_
  refine z_cne hk (z_row hX8_stand_0 21 rfl) (tgt := 39) rfl ?_ ?_
  · refine z_run hk hX8_stand_0 24 3 (pc' := 42) (lv' := [some (.inr (.inl v0)), some (.inl v1), some (.inl v2), some (.inl v3), some (.inl y0), none, none]) (st' := [.inl 1, .inl v1, .inr (.inl v0)]) rfl ?_
    refine kX8_ranked F hk (z_row hX8_stand_0 27 rfl) wd_1319 (by decide) (Nat.le_of_ble_eq_true rfl) (fun x13 => ?_)
    exact gsX8_stand_45 F n hk he v0 v1 v2 v3 y0 x13 σ
  · refine z_run hk hX8_stand_0 22 1 (pc' := 36) (lv' := [some (.inr (.inl v0)), some (.inl v1), some (.inl v2), some (.inl v3), some (.inl y0), none, none]) (st' := [.inl (-1)]) rfl ?_
    refine z_goto hk (z_row hX8_stand_0 23 rfl) (tgt := 45) rfl ?_
    exact gsX8_stand_45 F n hk he v0 v1 v2 v3 y0 (-1) σ
theorem mX8_stand (F : zFx E) (n : Nat) (a0 : Nat) (a1 : Int32) (σ : zW) (o : zW) (hf : fX8_stand n a0 a1 σ = some o) : zM E qX8_stand cX8_stand 7 none 6 [.inr (.inl a0), .inl a1] σ none o := by
  refine zM_of (fin := zfV) F (by decide +kernel) rfl (Nat.le_of_ble_eq_true rfl) (lv0 := [some (.inr (.inl a0)), some (.inl a1), none, none, none, none, none]) rfl hf rfl (fun K hk he => ?_)
  have hk : zk E K "LotSalesModel" cX8_stand 7 6 := hk
  unfold fX8_stand
  refine z_run hk hX8_stand_0 0 2 (pc' := 2) (lv' := [some (.inr (.inl a0)), some (.inl a1), none, none, none, none, none]) (st' := [.inl a1, .inr (.inl a0)]) rfl ?_
  refine kX8_houseLimit F hk (z_row hX8_stand_0 2 rfl) wd_1315 (by decide) (Nat.le_of_ble_eq_true rfl) (fun x14 => ?_)
  refine z_run hk hX8_stand_0 3 4 (pc' := 9) (lv' := [some (.inr (.inl a0)), some (.inl a1), some (.inl x14), none, none, none, none]) (st' := [.inl 0, .inl a1, .inr (.inl a0)]) rfl ?_
  refine kX8_ranked F hk (z_row hX8_stand_0 7 rfl) wd_1319 (by decide) (Nat.le_of_ble_eq_true rfl) (fun x15 => ?_)
  refine z_run hk hX8_stand_0 8 3 (pc' := 15) (lv' := [some (.inr (.inl a0)), some (.inl a1), some (.inl x14), some (.inl x15), none, none, none]) (st' := [.inl (-1), .inl x15]) rfl ?_
  refine z_cne hk (z_row hX8_stand_0 11 rfl) (tgt := 22) rfl ?_ ?_
  · refine z_run hk hX8_stand_0 14 3 (pc' := 25) (lv' := [some (.inr (.inl a0)), some (.inl a1), some (.inl x14), some (.inl x15), none, none, none]) (st' := [.inl x15, .inl a1, .inr (.inl a0)]) rfl ?_
    refine kX8_limitOf F hk (z_row hX8_stand_0 17 rfl) wd_1323 (by decide) (Nat.le_of_ble_eq_true rfl) (fun x16 => ?_)
    exact gsX8_stand_28 F n hk he a0 a1 x14 x15 x16 σ
  · refine z_run hk hX8_stand_0 12 1 (pc' := 19) (lv' := [some (.inr (.inl a0)), some (.inl a1), some (.inl x14), some (.inl x15), none, none, none]) (st' := [.inl 0]) rfl ?_
    refine z_goto hk (z_row hX8_stand_0 13 rfl) (tgt := 28) rfl ?_
    exact gsX8_stand_28 F n hk he a0 a1 x14 x15 0 σ
theorem kX8_stand {n : Nat} {own : String} {cc : ByteArray} {nL h index : Nat} {α : Type} {fin : α → zO} {σ : zW} {pc : Nat} {lv : zLV} {st : List zV} {a0 : Nat} {a1 : Int32} {c : zW → Option α} (F : zFx E) (hk : zk E K own cc nL h) (hd : decode cc pc = .ok (.invokevirtual index, 3)) (hl : Cond.methodLink own index qX8_stand ∈ lw_tbl) (hh : 6 + 1 ≤ h) (hs : zcat st ≤ 8) (k : ∀ s, zG E K fin (c s) s (pc + 3) lv st) : zG E K fin (zck σ 9 a0 (zb (fX8_stand n a0 a1 σ) c)) σ pc lv (.inl a1 :: .inr (.inl a0) :: st) :=
  z_vV (n := 1) (y := qX8_stand) (As := [.inl a1]) hk hd hl wd_1313 ws_33 wd_10 wd_1314 ⟨by decide, by decide, by decide +kernel⟩ ⟨hh, by decide⟩ (ci := 8) rfl rfl rfl (fun o ho => mX8_stand F n a0 a1 σ o ho) hs k
abbrev qX8_isMet : MethodName := { cls := "LotSalesModel", name := "isMet", desc := "(I)Z" }
def sX8_isMet_35 (n : Nat) (σ : zW) (y0 : Int32) : Option (Int32) := if y0 = 0 ∨ y0 = 1 then some y0 else none
def sX8_isMet_34 (n : Nat) (σ : zW) : Option (Int32) := sX8_isMet_35 n σ 0
def fX8_isMet (n : Nat) (a0 : Nat) (a1 : Int32) (σ : zW) : Option (Int32) := zgI σ 9 a0 7 fun x1 => if x1 = (-1) then sX8_isMet_34 n σ else zgI σ 9 a0 7 fun x2 => if x2 = 10 then sX8_isMet_34 n σ else zgI σ 9 a0 10 fun x3 => zck σ 9 a0 (zb (fX8_at n a0 a1 2 σ) fun x4 => if x3 < x4 then sX8_isMet_34 n σ else sX8_isMet_35 n σ 1)
theorem gsX8_isMet_35 (F : zFx E) (n : Nat) (σ : zW) (hk : zk E K "LotSalesModel" cX8_isMet 2 1) (he : zend E K (some .boolean) "isMet") (y0 : Int32) : zG E K (zfR σ) (sX8_isMet_35 n σ y0) σ 35 [none, none] [.inl y0] := by
  unfold sX8_isMet_35
  exact z_zret (fin := (zfR σ)) (o := y0) hk he (z_row hX8_isMet_0 18 rfl) rfl
theorem gsX8_isMet_34 (F : zFx E) (n : Nat) (σ : zW) (hk : zk E K "LotSalesModel" cX8_isMet 2 1) (he : zend E K (some .boolean) "isMet") : zG E K (zfR σ) (sX8_isMet_34 n σ) σ 34 [none, none] [] := by
  unfold sX8_isMet_34
  refine z_run hk hX8_isMet_0 17 1 (pc' := 35) (lv' := [none, none]) (st' := [.inl 0]) rfl ?_
  exact gsX8_isMet_35 F n σ hk he 0
theorem mX8_isMet (F : zFx E) (n : Nat) (a0 : Nat) (a1 : Int32) (σ : zW) (o : Int32) (hf : fX8_isMet n a0 a1 σ = some o) : zM E qX8_isMet cX8_isMet 2 (some .boolean) 1 [.inr (.inl a0), .inl a1] σ (some (.int o)) σ := by
  refine zM_of (fin := (zfR σ)) F (by decide +kernel) rfl (Nat.le_of_ble_eq_true rfl) (lv0 := [some (.inr (.inl a0)), some (.inl a1)]) rfl hf rfl (fun K hk he => ?_)
  have hk : zk E K "LotSalesModel" cX8_isMet 2 1 := hk
  unfold fX8_isMet
  refine z_run hk hX8_isMet_0 0 1 (pc' := 1) (lv' := [some (.inr (.inl a0)), some (.inl a1)]) (st' := [.inr (.inl a0)]) rfl ?_
  refine z_gI hk 7 (z_row hX8_isMet_0 1 rfl) (ci := 8) rfl rfl wd_1129 (fun x1 => ?_)
  refine z_run hk hX8_isMet_0 2 1 (pc' := 5) (lv' := [some (.inr (.inl a0)), some (.inl a1)]) (st' := [.inl (-1), .inl x1]) rfl ?_
  refine z_ceq hk (z_row hX8_isMet_0 3 rfl) (tgt := 34) rfl ?_ ?_
  · refine z_mask [false, false] rfl ?_
    exact gsX8_isMet_34 F n σ hk he
  · refine z_run hk hX8_isMet_0 4 1 (pc' := 9) (lv' := [some (.inr (.inl a0)), some (.inl a1)]) (st' := [.inr (.inl a0)]) rfl ?_
    refine z_gI hk 7 (z_row hX8_isMet_0 5 rfl) (ci := 8) rfl rfl wd_1129 (fun x2 => ?_)
    refine z_run hk hX8_isMet_0 6 1 (pc' := 14) (lv' := [some (.inr (.inl a0)), some (.inl a1)]) (st' := [.inl 10, .inl x2]) rfl ?_
    refine z_ceq hk (z_row hX8_isMet_0 7 rfl) (tgt := 34) rfl ?_ ?_
    · refine z_mask [false, false] rfl ?_
      exact gsX8_isMet_34 F n σ hk he
    · refine z_run hk hX8_isMet_0 8 1 (pc' := 18) (lv' := [some (.inr (.inl a0)), some (.inl a1)]) (st' := [.inr (.inl a0)]) rfl ?_
      refine z_gI hk 10 (z_row hX8_isMet_0 9 rfl) (ci := 8) rfl rfl wd_1132 (fun x3 => ?_)
      refine z_run hk hX8_isMet_0 10 3 (pc' := 24) (lv' := [some (.inr (.inl a0)), some (.inl a1)]) (st' := [.inl 2, .inl a1, .inr (.inl a0), .inl x3]) rfl ?_
      refine kX8_at F hk (z_row hX8_isMet_0 13 rfl) wd_1213 (by decide) (Nat.le_of_ble_eq_true rfl) (fun x4 => ?_)
      refine z_clt hk (z_row hX8_isMet_0 14 rfl) (tgt := 34) rfl ?_ ?_
      · refine z_mask [false, false] rfl ?_
        exact gsX8_isMet_34 F n σ hk he
      · refine z_run hk hX8_isMet_0 15 1 (pc' := 31) (lv' := [some (.inr (.inl a0)), some (.inl a1)]) (st' := [.inl 1]) rfl ?_
        refine z_goto hk (z_row hX8_isMet_0 16 rfl) (tgt := 35) rfl ?_
        refine z_mask [false, false] rfl ?_
        exact gsX8_isMet_35 F n σ hk he 1
theorem kX8_isMet {n : Nat} {own : String} {cc : ByteArray} {nL h index : Nat} {α : Type} {fin : α → zO} {σ : zW} {pc : Nat} {lv : zLV} {st : List zV} {a0 : Nat} {a1 : Int32} {c : Int32 → Option α} (F : zFx E) (hk : zk E K own cc nL h) (hd : decode cc pc = .ok (.invokevirtual index, 3)) (hl : Cond.methodLink own index qX8_isMet ∈ lw_tbl) (hh : 1 + 1 ≤ h) (hs : zcat st ≤ 8) (k : ∀ v, zG E K fin (c v) σ (pc + 3) lv (.inl v :: st)) : zG E K fin (zck σ 9 a0 (zb (fX8_isMet n a0 a1 σ) c)) σ pc lv (.inl a1 :: .inr (.inl a0) :: st) :=
  z_vR (n := 1) (y := qX8_isMet) (As := [.inl a1]) hk hd hl wd_1378 ws_44 wd_10 wd_1379 ⟨by decide, by decide, by decide +kernel⟩ ⟨hh, by decide⟩ (ci := 8) rfl rfl rfl (fun o ho => mX8_isMet F n a0 a1 σ o ho) hs k
abbrev qX8_countingLimits : MethodName := { cls := "LotSalesModel", name := "countingLimits", desc := "(I)I" }
def sX8_countingLimits_25 (n : Nat) (σ : zW) (r4 : Nat → Int32 → Int32 → Int32 → Option (Int32)) (v0 : Nat) (v1 : Int32) (v3 : Int32) (y0 : Int32) (y1 : Int32) : Option (Int32) := r4 v0 v1 (y0 + y1) (v3 + 1)
def sX8_countingLimits_4 (n : Nat) (σ : zW) : Nat → Nat → Int32 → Int32 → Int32 → Option (Int32)
  | 0, _, _, _, _ => none
  | k + 1, v0, v1, v2, v3 => if v3 < 10 then zck σ 9 v0 (zb (fX8_limitOf n v0 v1 v3 σ) fun x1 => if 0 < x1 then sX8_countingLimits_25 n σ (sX8_countingLimits_4 n σ k) v0 v1 v3 v2 1 else sX8_countingLimits_25 n σ (sX8_countingLimits_4 n σ k) v0 v1 v3 v2 0) else some v2
def fX8_countingLimits (n : Nat) (a0 : Nat) (a1 : Int32) (σ : zW) : Option (Int32) := sX8_countingLimits_4 n σ n a0 a1 0 0
theorem gsX8_countingLimits_25 (F : zFx E) (n : Nat) (σ : zW) (hk : zk E K "LotSalesModel" cX8_countingLimits 4 3) (he : zend E K (some .int) "countingLimits") (r4 : Nat → Int32 → Int32 → Int32 → Option (Int32)) (hr4 : ∀ (v0 : Nat) (v1 : Int32) (v2 : Int32) (v3 : Int32), zG E K (zfR σ) (r4 v0 v1 v2 v3) σ 4 [some (.inr (.inl v0)), some (.inl v1), some (.inl v2), some (.inl v3)] []) (v0 : Nat) (v1 : Int32) (v3 : Int32) (y0 : Int32) (y1 : Int32) : zG E K (zfR σ) (sX8_countingLimits_25 n σ r4 v0 v1 v3 y0 y1) σ 25 [some (.inr (.inl v0)), some (.inl v1), none, some (.inl v3)] [.inl y1, .inl y0] := by
  unfold sX8_countingLimits_25
  refine z_run hk hX8_countingLimits_0 16 3 (pc' := 30) (lv' := [some (.inr (.inl v0)), some (.inl v1), some (.inl (y0 + y1)), some (.inl (v3 + 1))]) (st' := []) rfl ?_
  refine z_goto hk (z_row hX8_countingLimits_0 19 rfl) (tgt := 4) rfl ?_
  exact hr4 v0 v1 (y0 + y1) (v3 + 1)
theorem gsX8_countingLimits_4 (F : zFx E) (n : Nat) (σ : zW) (hk : zk E K "LotSalesModel" cX8_countingLimits 4 3) (he : zend E K (some .int) "countingLimits") : ∀ (k : Nat) (v0 : Nat) (v1 : Int32) (v2 : Int32) (v3 : Int32), zG E K (zfR σ) (sX8_countingLimits_4 n σ k v0 v1 v2 v3) σ 4 [some (.inr (.inl v0)), some (.inl v1), some (.inl v2), some (.inl v3)] [] := by
  intro k
  induction k with
  | zero =>
    intro v0 v1 v2 v3
    intro hX
    exact z_none hX
  | succ k ih =>
    intro v0 v1 v2 v3
    rw [sX8_countingLimits_4]
    refine z_run hk hX8_countingLimits_0 4 2 (pc' := 7) (lv' := [some (.inr (.inl v0)), some (.inl v1), some (.inl v2), some (.inl v3)]) (st' := [.inl 10, .inl v3]) rfl ?_
    refine z_cge hk (z_row hX8_countingLimits_0 6 rfl) (tgt := 33) rfl ?_ ?_
    · refine z_run hk hX8_countingLimits_0 20 1 (pc' := 34) (lv' := [some (.inr (.inl v0)), some (.inl v1), some (.inl v2), some (.inl v3)]) (st' := [.inl v2]) rfl ?_
      exact z_iret hk he (z_row hX8_countingLimits_0 21 rfl) rfl
    · refine z_run hk hX8_countingLimits_0 7 4 (pc' := 14) (lv' := [some (.inr (.inl v0)), some (.inl v1), some (.inl v2), some (.inl v3)]) (st' := [.inl v3, .inl v1, .inr (.inl v0), .inl v2]) rfl ?_
      refine kX8_limitOf F hk (z_row hX8_countingLimits_0 11 rfl) wd_1323 (by decide) (Nat.le_of_ble_eq_true rfl) (fun x1 => ?_)
      refine z_le hk (z_row hX8_countingLimits_0 12 rfl) (tgt := 24) rfl ?_ ?_
      · refine z_run hk hX8_countingLimits_0 15 1 (pc' := 25) (lv' := [some (.inr (.inl v0)), some (.inl v1), some (.inl v2), some (.inl v3)]) (st' := [.inl 0, .inl v2]) rfl ?_
        refine z_mask [true, true, false, true] rfl ?_
        exact gsX8_countingLimits_25 F n σ hk he (sX8_countingLimits_4 n σ k) ih v0 v1 v3 v2 0
      · refine z_run hk hX8_countingLimits_0 13 1 (pc' := 21) (lv' := [some (.inr (.inl v0)), some (.inl v1), some (.inl v2), some (.inl v3)]) (st' := [.inl 1, .inl v2]) rfl ?_
        refine z_goto hk (z_row hX8_countingLimits_0 14 rfl) (tgt := 25) rfl ?_
        refine z_mask [true, true, false, true] rfl ?_
        exact gsX8_countingLimits_25 F n σ hk he (sX8_countingLimits_4 n σ k) ih v0 v1 v3 v2 1
theorem mX8_countingLimits (F : zFx E) (n : Nat) (a0 : Nat) (a1 : Int32) (σ : zW) (o : Int32) (hf : fX8_countingLimits n a0 a1 σ = some o) : zM E qX8_countingLimits cX8_countingLimits 4 (some .int) 3 [.inr (.inl a0), .inl a1] σ (some (.int o)) σ := by
  refine zM_of (fin := (zfR σ)) F (by decide +kernel) rfl (Nat.le_of_ble_eq_true rfl) (lv0 := [some (.inr (.inl a0)), some (.inl a1), none, none]) rfl hf rfl (fun K hk he => ?_)
  have hk : zk E K "LotSalesModel" cX8_countingLimits 4 3 := hk
  unfold fX8_countingLimits
  refine z_run hk hX8_countingLimits_0 0 4 (pc' := 4) (lv' := [some (.inr (.inl a0)), some (.inl a1), some (.inl 0), some (.inl 0)]) (st' := []) rfl ?_
  exact gsX8_countingLimits_4 F n σ hk he n a0 a1 0 0
theorem kX8_countingLimits {n : Nat} {own : String} {cc : ByteArray} {nL h index : Nat} {α : Type} {fin : α → zO} {σ : zW} {pc : Nat} {lv : zLV} {st : List zV} {a0 : Nat} {a1 : Int32} {c : Int32 → Option α} (F : zFx E) (hk : zk E K own cc nL h) (hd : decode cc pc = .ok (.invokevirtual index, 3)) (hl : Cond.methodLink own index qX8_countingLimits ∈ lw_tbl) (hh : 3 + 1 ≤ h) (hs : zcat st ≤ 8) (k : ∀ v, zG E K fin (c v) σ (pc + 3) lv (.inl v :: st)) : zG E K fin (zck σ 9 a0 (zb (fX8_countingLimits n a0 a1 σ) c)) σ pc lv (.inl a1 :: .inr (.inl a0) :: st) :=
  z_vR (n := 1) (y := qX8_countingLimits) (As := [.inl a1]) hk hd hl wd_1382 ws_45 wd_10 wd_1383 ⟨by decide, by decide, by decide +kernel⟩ ⟨hh, by decide⟩ (ci := 8) rfl rfl rfl (fun o ho => mX8_countingLimits F n a0 a1 σ o ho) hs k
abbrev qX8_isLeading : MethodName := { cls := "LotSalesModel", name := "isLeading", desc := "(II)Z" }
def sX8_isLeading_30 (n : Nat) (y0 : Int32) (σ : zW) : Option (Int32 × zW) := if y0 = 0 ∨ y0 = 1 then some (y0, σ) else none
def fX8_isLeading (n : Nat) (a0 : Nat) (a1 : Int32) (a2 : Int32) (σ : zW) : Option (Int32 × zW) := zck σ 9 a0 (zb (fX8_at n a0 a1 3 σ) fun x1 => if x1 = 1 then zck σ 9 a0 (zb (fX8_stand n a0 a1 σ) fun σ2 => zgI σ2 9 a0 7 fun x3 => if x3 = a2 then sX8_isLeading_30 n 1 σ2 else sX8_isLeading_30 n 0 σ2) else if 0 = 0 ∨ 0 = 1 then some (0, σ) else none)
theorem gsX8_isLeading_30 (F : zFx E) (n : Nat) (hk : zk E K "LotSalesModel" cX8_isLeading 3 7) (he : zend E K (some .boolean) "isLeading") (y0 : Int32) (σ : zW) : zG E K zfW (sX8_isLeading_30 n y0 σ) σ 30 [none, none, none] [.inl y0] := by
  unfold sX8_isLeading_30
  exact z_zret (fin := zfW) (o := (y0, σ)) hk he (z_row hX8_isLeading_0 18 rfl) rfl
theorem mX8_isLeading (F : zFx E) (n : Nat) (a0 : Nat) (a1 : Int32) (a2 : Int32) (σ : zW) (o : Int32 × zW) (hf : fX8_isLeading n a0 a1 a2 σ = some o) : zM E qX8_isLeading cX8_isLeading 3 (some .boolean) 7 [.inr (.inl a0), .inl a1, .inl a2] σ (some (.int o.1)) o.2 := by
  refine zM_of (fin := zfW) F (by decide +kernel) rfl (Nat.le_of_ble_eq_true rfl) (lv0 := [some (.inr (.inl a0)), some (.inl a1), some (.inl a2)]) rfl hf rfl (fun K hk he => ?_)
  have hk : zk E K "LotSalesModel" cX8_isLeading 3 7 := hk
  unfold fX8_isLeading
  refine z_run hk hX8_isLeading_0 0 3 (pc' := 3) (lv' := [some (.inr (.inl a0)), some (.inl a1), some (.inl a2)]) (st' := [.inl 3, .inl a1, .inr (.inl a0)]) rfl ?_
  refine kX8_at F hk (z_row hX8_isLeading_0 3 rfl) wd_1213 (by decide) (Nat.le_of_ble_eq_true rfl) (fun x1 => ?_)
  refine z_run hk hX8_isLeading_0 4 1 (pc' := 7) (lv' := [some (.inr (.inl a0)), some (.inl a1), some (.inl a2)]) (st' := [.inl 1, .inl x1]) rfl ?_
  refine z_ceq hk (z_row hX8_isLeading_0 5 rfl) (tgt := 12) rfl ?_ ?_
  · refine z_run hk hX8_isLeading_0 8 2 (pc' := 14) (lv' := [some (.inr (.inl a0)), some (.inl a1), some (.inl a2)]) (st' := [.inl a1, .inr (.inl a0)]) rfl ?_
    refine kX8_stand F hk (z_row hX8_isLeading_0 10 rfl) wd_1311 (by decide) (Nat.le_of_ble_eq_true rfl) (fun σ2 => ?_)
    refine z_run hk hX8_isLeading_0 11 1 (pc' := 18) (lv' := [some (.inr (.inl a0)), some (.inl a1), some (.inl a2)]) (st' := [.inr (.inl a0)]) rfl ?_
    refine z_gI hk 7 (z_row hX8_isLeading_0 12 rfl) (ci := 8) rfl rfl wd_1129 (fun x3 => ?_)
    refine z_run hk hX8_isLeading_0 13 1 (pc' := 22) (lv' := [some (.inr (.inl a0)), some (.inl a1), some (.inl a2)]) (st' := [.inl a2, .inl x3]) rfl ?_
    refine z_cne hk (z_row hX8_isLeading_0 14 rfl) (tgt := 29) rfl ?_ ?_
    · refine z_run hk hX8_isLeading_0 17 1 (pc' := 30) (lv' := [some (.inr (.inl a0)), some (.inl a1), some (.inl a2)]) (st' := [.inl 0]) rfl ?_
      refine z_mask [false, false, false] rfl ?_
      exact gsX8_isLeading_30 F n hk he 0 σ2
    · refine z_run hk hX8_isLeading_0 15 1 (pc' := 26) (lv' := [some (.inr (.inl a0)), some (.inl a1), some (.inl a2)]) (st' := [.inl 1]) rfl ?_
      refine z_goto hk (z_row hX8_isLeading_0 16 rfl) (tgt := 30) rfl ?_
      refine z_mask [false, false, false] rfl ?_
      exact gsX8_isLeading_30 F n hk he 1 σ2
  · refine z_run hk hX8_isLeading_0 6 1 (pc' := 11) (lv' := [some (.inr (.inl a0)), some (.inl a1), some (.inl a2)]) (st' := [.inl 0]) rfl ?_
    exact z_zret (fin := zfW) (o := (0, σ)) hk he (z_row hX8_isLeading_0 7 rfl) rfl
theorem kX8_isLeading {n : Nat} {own : String} {cc : ByteArray} {nL h index : Nat} {α : Type} {fin : α → zO} {σ : zW} {pc : Nat} {lv : zLV} {st : List zV} {a0 : Nat} {a1 : Int32} {a2 : Int32} {c : Int32 → zW → Option α} (F : zFx E) (hk : zk E K own cc nL h) (hd : decode cc pc = .ok (.invokevirtual index, 3)) (hl : Cond.methodLink own index qX8_isLeading ∈ lw_tbl) (hh : 7 + 1 ≤ h) (hs : zcat st ≤ 8) (k : ∀ v s, zG E K fin (c v s) s (pc + 3) lv (.inl v :: st)) : zG E K fin (zck σ 9 a0 (zb2 (fX8_isLeading n a0 a1 a2 σ) c)) σ pc lv (.inl a2 :: .inl a1 :: .inr (.inl a0) :: st) :=
  z_vW (n := 2) (y := qX8_isLeading) (As := [.inl a1, .inl a2]) hk hd hl wd_1347 ws_40 wd_10 wd_1348 ⟨by decide, by decide, by decide +kernel⟩ ⟨hh, by decide⟩ (ci := 8) rfl rfl rfl (fun o ho => mX8_isLeading F n a0 a1 a2 σ o ho) hs k
abbrev qX8_premiumOf : MethodName := { cls := "LotSalesModel", name := "premiumOf", desc := "(I)I" }
def fX8_premiumOf (n : Nat) (a0 : Int32) (σ : zW) : Option (Int32) := zdv 100 (zdv 100 (zdv 100 (some (((((if 1000 < a0 then 1000 else a0) * 25) / 100) + (((if 0 < ((if 5000 < a0 then 5000 else a0) - 1000) then ((if 5000 < a0 then 5000 else a0) - 1000) else 0) * 20) / 100)) + (((if 0 < (a0 - 5000) then (a0 - 5000) else 0) * 12) / 100)))))
theorem mX8_premiumOf (F : zFx E) (n : Nat) (a0 : Int32) (σ : zW) (o : Int32) (hf : fX8_premiumOf n a0 σ = some o) : zM E qX8_premiumOf cX8_premiumOf 4 (some .int) 1 [.inl a0] σ (some (.int o)) σ := by
  refine zM_of (fin := (zfR σ)) F (by decide +kernel) rfl (Nat.le_of_ble_eq_true rfl) (lv0 := [some (.inl a0), none, none, none]) rfl hf rfl (fun K hk he => ?_)
  have hk : zk E K "LotSalesModel" cX8_premiumOf 4 1 := hk
  unfold fX8_premiumOf
  refine z_run hk hX8_premiumOf_0 0 2 (pc' := 4) (lv' := [some (.inl a0), none, none, none]) (st' := [.inl 1000, .inl a0]) rfl ?_
  refine z_mmin hk (z_row hX8_premiumOf_0 2 rfl) wd_1336 wd_453 wd_16 wd_454 (by decide) (Nat.le_of_ble_eq_true rfl) ?_
  refine z_run hk hX8_premiumOf_0 3 4 (pc' := 13) (lv' := [some (.inl a0), some (.inl (if 1000 < a0 then 1000 else a0)), none, none]) (st' := [.inl 5000, .inl a0, .inl 0]) rfl ?_
  refine z_mmin hk (z_row hX8_premiumOf_0 7 rfl) wd_1336 wd_453 wd_16 wd_454 (by decide) (Nat.le_of_ble_eq_true rfl) ?_
  refine z_run hk hX8_premiumOf_0 8 2 (pc' := 20) (lv' := [some (.inl a0), some (.inl (if 1000 < a0 then 1000 else a0)), none, none]) (st' := [.inl ((if 5000 < a0 then 5000 else a0) - 1000), .inl 0]) rfl ?_
  refine z_mmax hk (z_row hX8_premiumOf_0 10 rfl) wd_1327 wd_578 wd_16 wd_579 (by decide) (Nat.le_of_ble_eq_true rfl) ?_
  refine z_run hk hX8_premiumOf_0 11 5 (pc' := 30) (lv' := [some (.inl a0), some (.inl (if 1000 < a0 then 1000 else a0)), some (.inl (if 0 < ((if 5000 < a0 then 5000 else a0) - 1000) then ((if 5000 < a0 then 5000 else a0) - 1000) else 0)), none]) (st' := [.inl (a0 - 5000), .inl 0]) rfl ?_
  refine z_mmax hk (z_row hX8_premiumOf_0 16 rfl) wd_1327 wd_578 wd_16 wd_579 (by decide) (Nat.le_of_ble_eq_true rfl) ?_
  refine z_run hk hX8_premiumOf_0 17 5 (pc' := 40) (lv' := [some (.inl a0), some (.inl (if 1000 < a0 then 1000 else a0)), some (.inl (if 0 < ((if 5000 < a0 then 5000 else a0) - 1000) then ((if 5000 < a0 then 5000 else a0) - 1000) else 0)), some (.inl (if 0 < (a0 - 5000) then (a0 - 5000) else 0))]) (st' := [.inl 100, .inl ((if 1000 < a0 then 1000 else a0) * 25)]) rfl ?_
  refine z_idiv hk (z_row hX8_premiumOf_0 22 rfl) ?_
  refine z_run hk hX8_premiumOf_0 23 4 (pc' := 47) (lv' := [some (.inl a0), some (.inl (if 1000 < a0 then 1000 else a0)), some (.inl (if 0 < ((if 5000 < a0 then 5000 else a0) - 1000) then ((if 5000 < a0 then 5000 else a0) - 1000) else 0)), some (.inl (if 0 < (a0 - 5000) then (a0 - 5000) else 0))]) (st' := [.inl 100, .inl ((if 0 < ((if 5000 < a0 then 5000 else a0) - 1000) then ((if 5000 < a0 then 5000 else a0) - 1000) else 0) * 20), .inl (((if 1000 < a0 then 1000 else a0) * 25) / 100)]) rfl ?_
  refine z_idiv hk (z_row hX8_premiumOf_0 27 rfl) ?_
  refine z_run hk hX8_premiumOf_0 28 5 (pc' := 55) (lv' := [some (.inl a0), some (.inl (if 1000 < a0 then 1000 else a0)), some (.inl (if 0 < ((if 5000 < a0 then 5000 else a0) - 1000) then ((if 5000 < a0 then 5000 else a0) - 1000) else 0)), some (.inl (if 0 < (a0 - 5000) then (a0 - 5000) else 0))]) (st' := [.inl 100, .inl ((if 0 < (a0 - 5000) then (a0 - 5000) else 0) * 12), .inl ((((if 1000 < a0 then 1000 else a0) * 25) / 100) + (((if 0 < ((if 5000 < a0 then 5000 else a0) - 1000) then ((if 5000 < a0 then 5000 else a0) - 1000) else 0) * 20) / 100))]) rfl ?_
  refine z_idiv hk (z_row hX8_premiumOf_0 33 rfl) ?_
  refine z_run hk hX8_premiumOf_0 34 1 (pc' := 57) (lv' := [some (.inl a0), some (.inl (if 1000 < a0 then 1000 else a0)), some (.inl (if 0 < ((if 5000 < a0 then 5000 else a0) - 1000) then ((if 5000 < a0 then 5000 else a0) - 1000) else 0)), some (.inl (if 0 < (a0 - 5000) then (a0 - 5000) else 0))]) (st' := [.inl (((((if 1000 < a0 then 1000 else a0) * 25) / 100) + (((if 0 < ((if 5000 < a0 then 5000 else a0) - 1000) then ((if 5000 < a0 then 5000 else a0) - 1000) else 0) * 20) / 100)) + (((if 0 < (a0 - 5000) then (a0 - 5000) else 0) * 12) / 100))]) rfl ?_
  exact z_iret hk he (z_row hX8_premiumOf_0 35 rfl) rfl
theorem kX8_premiumOf {n : Nat} {own : String} {cc : ByteArray} {nL h index : Nat} {α : Type} {fin : α → zO} {σ : zW} {pc : Nat} {lv : zLV} {st : List zV} {a0 : Int32} {c : Int32 → Option α} (F : zFx E) (hk : zk E K own cc nL h) (hd : decode cc pc = .ok (.invokestatic index, 3)) (hl : Cond.methodLink own index qX8_premiumOf ∈ lw_tbl) (hh : 1 + 1 ≤ h) (hs : zcat st ≤ 8) (k : ∀ v, zG E K fin (c v) σ (pc + 3) lv (.inl v :: st)) : zG E K fin (zb (fX8_premiumOf n a0 σ) c) σ pc lv (.inl a0 :: st) :=
  z_qR (n := 1) (y := qX8_premiumOf) (As := [.inl a0]) hk hd hl wd_1362 wd_10 wd_1363 ⟨by decide, by decide, by decide +kernel⟩ ⟨hh, by decide⟩ rfl (fun o ho => mX8_premiumOf F n a0 σ o ho) hs k
abbrev qX8_boughtBy : MethodName := { cls := "LotSalesModel", name := "boughtBy", desc := "(II)I" }
def sX8_boughtBy_92 (n : Nat) (σ : zW) (r5 : Nat → Int32 → Int32 → Int32 → Int32 → Option (Int32)) (v0 : Nat) (v1 : Int32) (v2 : Int32) (v4 : Int32) (y0 : Int32) (y1 : Int32) : Option (Int32) := r5 v0 v1 v2 (y0 + y1) (v4 + 1)
def sX8_boughtBy_45 (n : Nat) (σ : zW) (r5 : Nat → Int32 → Int32 → Int32 → Int32 → Option (Int32)) (v0 : Nat) (v1 : Int32) (v2 : Int32) (v3 : Int32) (v4 : Int32) (y0 : Int32) : Option (Int32) := if y0 = 0 then sX8_boughtBy_92 n σ r5 v0 v1 v2 v4 v3 0 else if v2 = 0 then sX8_boughtBy_92 n σ r5 v0 v1 v2 v4 v3 1 else if v2 = 1 then zck σ 9 v0 (zb (fX8_at n v0 v4 7 σ) fun x3 => sX8_boughtBy_92 n σ r5 v0 v1 v2 v4 v3 x3) else zck σ 9 v0 (zb (fX8_at n v0 v4 7 σ) fun x1 => zb (fX8_premiumOf n x1 σ) fun x2 => sX8_boughtBy_92 n σ r5 v0 v1 v2 v4 v3 x2)
def sX8_boughtBy_44 (n : Nat) (σ : zW) (r5 : Nat → Int32 → Int32 → Int32 → Int32 → Option (Int32)) (v0 : Nat) (v1 : Int32) (v2 : Int32) (v3 : Int32) (v4 : Int32) : Option (Int32) := sX8_boughtBy_45 n σ r5 v0 v1 v2 v3 v4 0
def sX8_boughtBy_5 (n : Nat) (σ : zW) : Nat → Nat → Int32 → Int32 → Int32 → Int32 → Option (Int32)
  | 0, _, _, _, _, _ => none
  | k + 1, v0, v1, v2, v3, v4 => zgR σ 9 v0 1 fun x4 => zaI σ x4 23 fun x5 => if v4 < x5 then zck σ 9 v0 (zb (fX8_at n v0 v4 3 σ) fun x6 => if x6 = 2 then zck σ 9 v0 (zb (fX8_at n v0 v4 6 σ) fun x7 => if x7 = v1 then sX8_boughtBy_45 n σ (sX8_boughtBy_5 n σ k) v0 v1 v2 v3 v4 1 else sX8_boughtBy_44 n σ (sX8_boughtBy_5 n σ k) v0 v1 v2 v3 v4) else sX8_boughtBy_44 n σ (sX8_boughtBy_5 n σ k) v0 v1 v2 v3 v4) else some v3
def fX8_boughtBy (n : Nat) (a0 : Nat) (a1 : Int32) (a2 : Int32) (σ : zW) : Option (Int32) := sX8_boughtBy_5 n σ n a0 a1 a2 0 0
theorem gsX8_boughtBy_92 (F : zFx E) (n : Nat) (σ : zW) (hk : zk E K "LotSalesModel" cX8_boughtBy 6 2) (he : zend E K (some .int) "boughtBy") (r5 : Nat → Int32 → Int32 → Int32 → Int32 → Option (Int32)) (hr5 : ∀ (v0 : Nat) (v1 : Int32) (v2 : Int32) (v3 : Int32) (v4 : Int32), zG E K (zfR σ) (r5 v0 v1 v2 v3 v4) σ 5 [some (.inr (.inl v0)), some (.inl v1), some (.inl v2), some (.inl v3), some (.inl v4), none] []) (v0 : Nat) (v1 : Int32) (v2 : Int32) (v4 : Int32) (y0 : Int32) (y1 : Int32) : zG E K (zfR σ) (sX8_boughtBy_92 n σ r5 v0 v1 v2 v4 y0 y1) σ 92 [some (.inr (.inl v0)), some (.inl v1), some (.inl v2), none, some (.inl v4), none] [.inl y1, .inl y0] := by
  unfold sX8_boughtBy_92
  refine z_run hk hX8_boughtBy_0 48 3 (pc' := 97) (lv' := [some (.inr (.inl v0)), some (.inl v1), some (.inl v2), some (.inl (y0 + y1)), some (.inl (v4 + 1)), none]) (st' := []) rfl ?_
  refine z_goto hk (z_row hX8_boughtBy_0 51 rfl) (tgt := 5) rfl ?_
  exact hr5 v0 v1 v2 (y0 + y1) (v4 + 1)
theorem gsX8_boughtBy_45 (F : zFx E) (n : Nat) (σ : zW) (hk : zk E K "LotSalesModel" cX8_boughtBy 6 2) (he : zend E K (some .int) "boughtBy") (r5 : Nat → Int32 → Int32 → Int32 → Int32 → Option (Int32)) (hr5 : ∀ (v0 : Nat) (v1 : Int32) (v2 : Int32) (v3 : Int32) (v4 : Int32), zG E K (zfR σ) (r5 v0 v1 v2 v3 v4) σ 5 [some (.inr (.inl v0)), some (.inl v1), some (.inl v2), some (.inl v3), some (.inl v4), none] []) (v0 : Nat) (v1 : Int32) (v2 : Int32) (v3 : Int32) (v4 : Int32) (y0 : Int32) : zG E K (zfR σ) (sX8_boughtBy_45 n σ r5 v0 v1 v2 v3 v4 y0) σ 45 [some (.inr (.inl v0)), some (.inl v1), some (.inl v2), some (.inl v3), some (.inl v4), none] [.inl y0] := by
  unfold sX8_boughtBy_45
  refine z_run hk hX8_boughtBy_0 25 3 (pc' := 50) (lv' := [some (.inr (.inl v0)), some (.inl v1), some (.inl v2), some (.inl v3), some (.inl v4), some (.inl y0)]) (st' := [.inl y0, .inl v3]) rfl ?_
  refine z_ne hk (z_row hX8_boughtBy_0 28 rfl) (tgt := 57) rfl ?_ ?_
  · refine z_run hk hX8_boughtBy_0 31 1 (pc' := 58) (lv' := [some (.inr (.inl v0)), some (.inl v1), some (.inl v2), some (.inl v3), some (.inl v4), some (.inl y0)]) (st' := [.inl v2, .inl v3]) rfl ?_
    refine z_ne hk (z_row hX8_boughtBy_0 32 rfl) (tgt := 65) rfl ?_ ?_
    · refine z_run hk hX8_boughtBy_0 35 2 (pc' := 67) (lv' := [some (.inr (.inl v0)), some (.inl v1), some (.inl v2), some (.inl v3), some (.inl v4), some (.inl y0)]) (st' := [.inl 1, .inl v2, .inl v3]) rfl ?_
      refine z_cne hk (z_row hX8_boughtBy_0 37 rfl) (tgt := 81) rfl ?_ ?_
      · refine z_run hk hX8_boughtBy_0 43 3 (pc' := 86) (lv' := [some (.inr (.inl v0)), some (.inl v1), some (.inl v2), some (.inl v3), some (.inl v4), some (.inl y0)]) (st' := [.inl 7, .inl v4, .inr (.inl v0), .inl v3]) rfl ?_
        refine kX8_at F hk (z_row hX8_boughtBy_0 46 rfl) wd_1213 (by decide) (Nat.le_of_ble_eq_true rfl) (fun x1 => ?_)
        refine kX8_premiumOf F hk (z_row hX8_boughtBy_0 47 rfl) wd_1361 (by decide) (Nat.le_of_ble_eq_true rfl) (fun x2 => ?_)
        refine z_mask [true, true, true, false, true, false] rfl ?_
        exact gsX8_boughtBy_92 F n σ hk he r5 hr5 v0 v1 v2 v4 v3 x2
      · refine z_run hk hX8_boughtBy_0 38 3 (pc' := 75) (lv' := [some (.inr (.inl v0)), some (.inl v1), some (.inl v2), some (.inl v3), some (.inl v4), some (.inl y0)]) (st' := [.inl 7, .inl v4, .inr (.inl v0), .inl v3]) rfl ?_
        refine kX8_at F hk (z_row hX8_boughtBy_0 41 rfl) wd_1213 (by decide) (Nat.le_of_ble_eq_true rfl) (fun x3 => ?_)
        refine z_goto hk (z_row hX8_boughtBy_0 42 rfl) (tgt := 92) rfl ?_
        refine z_mask [true, true, true, false, true, false] rfl ?_
        exact gsX8_boughtBy_92 F n σ hk he r5 hr5 v0 v1 v2 v4 v3 x3
    · refine z_run hk hX8_boughtBy_0 33 1 (pc' := 62) (lv' := [some (.inr (.inl v0)), some (.inl v1), some (.inl v2), some (.inl v3), some (.inl v4), some (.inl y0)]) (st' := [.inl 1, .inl v3]) rfl ?_
      refine z_goto hk (z_row hX8_boughtBy_0 34 rfl) (tgt := 92) rfl ?_
      refine z_mask [true, true, true, false, true, false] rfl ?_
      exact gsX8_boughtBy_92 F n σ hk he r5 hr5 v0 v1 v2 v4 v3 1
  · refine z_run hk hX8_boughtBy_0 29 1 (pc' := 54) (lv' := [some (.inr (.inl v0)), some (.inl v1), some (.inl v2), some (.inl v3), some (.inl v4), some (.inl y0)]) (st' := [.inl 0, .inl v3]) rfl ?_
    refine z_goto hk (z_row hX8_boughtBy_0 30 rfl) (tgt := 92) rfl ?_
    refine z_mask [true, true, true, false, true, false] rfl ?_
    exact gsX8_boughtBy_92 F n σ hk he r5 hr5 v0 v1 v2 v4 v3 0
theorem gsX8_boughtBy_44 (F : zFx E) (n : Nat) (σ : zW) (hk : zk E K "LotSalesModel" cX8_boughtBy 6 2) (he : zend E K (some .int) "boughtBy") (r5 : Nat → Int32 → Int32 → Int32 → Int32 → Option (Int32)) (hr5 : ∀ (v0 : Nat) (v1 : Int32) (v2 : Int32) (v3 : Int32) (v4 : Int32), zG E K (zfR σ) (r5 v0 v1 v2 v3 v4) σ 5 [some (.inr (.inl v0)), some (.inl v1), some (.inl v2), some (.inl v3), some (.inl v4), none] []) (v0 : Nat) (v1 : Int32) (v2 : Int32) (v3 : Int32) (v4 : Int32) : zG E K (zfR σ) (sX8_boughtBy_44 n σ r5 v0 v1 v2 v3 v4) σ 44 [some (.inr (.inl v0)), some (.inl v1), some (.inl v2), some (.inl v3), some (.inl v4), none] [] := by
  unfold sX8_boughtBy_44
  refine z_run hk hX8_boughtBy_0 24 1 (pc' := 45) (lv' := [some (.inr (.inl v0)), some (.inl v1), some (.inl v2), some (.inl v3), some (.inl v4), none]) (st' := [.inl 0]) rfl ?_
  exact gsX8_boughtBy_45 F n σ hk he r5 hr5 v0 v1 v2 v3 v4 0
theorem gsX8_boughtBy_5 (F : zFx E) (n : Nat) (σ : zW) (hk : zk E K "LotSalesModel" cX8_boughtBy 6 2) (he : zend E K (some .int) "boughtBy") : ∀ (k : Nat) (v0 : Nat) (v1 : Int32) (v2 : Int32) (v3 : Int32) (v4 : Int32), zG E K (zfR σ) (sX8_boughtBy_5 n σ k v0 v1 v2 v3 v4) σ 5 [some (.inr (.inl v0)), some (.inl v1), some (.inl v2), some (.inl v3), some (.inl v4), none] [] := by
  intro k
  induction k with
  | zero =>
    intro v0 v1 v2 v3 v4
    intro hX
    exact z_none hX
  | succ k ih =>
    intro v0 v1 v2 v3 v4
    rw [sX8_boughtBy_5]
    refine z_run hk hX8_boughtBy_0 4 2 (pc' := 8) (lv' := [some (.inr (.inl v0)), some (.inl v1), some (.inl v2), some (.inl v3), some (.inl v4), none]) (st' := [.inr (.inl v0), .inl v4]) rfl ?_
    refine z_gR hk 1 (z_row hX8_boughtBy_0 6 rfl) (ci := 8) rfl rfl wd_1123 (fun x4 => ?_)
    refine z_run hk hX8_boughtBy_0 7 1 (pc' := 13) (lv' := [some (.inr (.inl v0)), some (.inl v1), some (.inl v2), some (.inl v3), some (.inl v4), none]) (st' := [.inl 23, .inr (.inl x4), .inl v4]) rfl ?_
    refine z_aI hk (z_row hX8_boughtBy_0 8 rfl) (fun x5 => ?_)
    refine z_cge hk (z_row hX8_boughtBy_0 9 rfl) (tgt := 100) rfl ?_ ?_
    · refine z_run hk hX8_boughtBy_0 52 1 (pc' := 101) (lv' := [some (.inr (.inl v0)), some (.inl v1), some (.inl v2), some (.inl v3), some (.inl v4), none]) (st' := [.inl v3]) rfl ?_
      exact z_iret hk he (z_row hX8_boughtBy_0 53 rfl) rfl
    · refine z_run hk hX8_boughtBy_0 10 3 (pc' := 21) (lv' := [some (.inr (.inl v0)), some (.inl v1), some (.inl v2), some (.inl v3), some (.inl v4), none]) (st' := [.inl 3, .inl v4, .inr (.inl v0)]) rfl ?_
      refine kX8_at F hk (z_row hX8_boughtBy_0 13 rfl) wd_1213 (by decide) (Nat.le_of_ble_eq_true rfl) (fun x6 => ?_)
      refine z_run hk hX8_boughtBy_0 14 1 (pc' := 25) (lv' := [some (.inr (.inl v0)), some (.inl v1), some (.inl v2), some (.inl v3), some (.inl v4), none]) (st' := [.inl 2, .inl x6]) rfl ?_
      refine z_cne hk (z_row hX8_boughtBy_0 15 rfl) (tgt := 44) rfl ?_ ?_
      · exact gsX8_boughtBy_44 F n σ hk he (sX8_boughtBy_5 n σ k) ih v0 v1 v2 v3 v4
      · refine z_run hk hX8_boughtBy_0 16 3 (pc' := 33) (lv' := [some (.inr (.inl v0)), some (.inl v1), some (.inl v2), some (.inl v3), some (.inl v4), none]) (st' := [.inl 6, .inl v4, .inr (.inl v0)]) rfl ?_
        refine kX8_at F hk (z_row hX8_boughtBy_0 19 rfl) wd_1213 (by decide) (Nat.le_of_ble_eq_true rfl) (fun x7 => ?_)
        refine z_run hk hX8_boughtBy_0 20 1 (pc' := 37) (lv' := [some (.inr (.inl v0)), some (.inl v1), some (.inl v2), some (.inl v3), some (.inl v4), none]) (st' := [.inl v1, .inl x7]) rfl ?_
        refine z_cne hk (z_row hX8_boughtBy_0 21 rfl) (tgt := 44) rfl ?_ ?_
        · exact gsX8_boughtBy_44 F n σ hk he (sX8_boughtBy_5 n σ k) ih v0 v1 v2 v3 v4
        · refine z_run hk hX8_boughtBy_0 22 1 (pc' := 41) (lv' := [some (.inr (.inl v0)), some (.inl v1), some (.inl v2), some (.inl v3), some (.inl v4), none]) (st' := [.inl 1]) rfl ?_
          refine z_goto hk (z_row hX8_boughtBy_0 23 rfl) (tgt := 45) rfl ?_
          exact gsX8_boughtBy_45 F n σ hk he (sX8_boughtBy_5 n σ k) ih v0 v1 v2 v3 v4 1
theorem mX8_boughtBy (F : zFx E) (n : Nat) (a0 : Nat) (a1 : Int32) (a2 : Int32) (σ : zW) (o : Int32) (hf : fX8_boughtBy n a0 a1 a2 σ = some o) : zM E qX8_boughtBy cX8_boughtBy 6 (some .int) 2 [.inr (.inl a0), .inl a1, .inl a2] σ (some (.int o)) σ := by
  refine zM_of (fin := (zfR σ)) F (by decide +kernel) rfl (Nat.le_of_ble_eq_true rfl) (lv0 := [some (.inr (.inl a0)), some (.inl a1), some (.inl a2), none, none, none]) rfl hf rfl (fun K hk he => ?_)
  have hk : zk E K "LotSalesModel" cX8_boughtBy 6 2 := hk
  unfold fX8_boughtBy
  refine z_run hk hX8_boughtBy_0 0 4 (pc' := 5) (lv' := [some (.inr (.inl a0)), some (.inl a1), some (.inl a2), some (.inl 0), some (.inl 0), none]) (st' := []) rfl ?_
  exact gsX8_boughtBy_5 F n σ hk he n a0 a1 a2 0 0
theorem kX8_boughtBy {n : Nat} {own : String} {cc : ByteArray} {nL h index : Nat} {α : Type} {fin : α → zO} {σ : zW} {pc : Nat} {lv : zLV} {st : List zV} {a0 : Nat} {a1 : Int32} {a2 : Int32} {c : Int32 → Option α} (F : zFx E) (hk : zk E K own cc nL h) (hd : decode cc pc = .ok (.invokevirtual index, 3)) (hl : Cond.methodLink own index qX8_boughtBy ∈ lw_tbl) (hh : 2 + 1 ≤ h) (hs : zcat st ≤ 8) (k : ∀ v, zG E K fin (c v) σ (pc + 3) lv (.inl v :: st)) : zG E K fin (zck σ 9 a0 (zb (fX8_boughtBy n a0 a1 a2 σ) c)) σ pc lv (.inl a2 :: .inl a1 :: .inr (.inl a0) :: st) :=
  z_vR (n := 2) (y := qX8_boughtBy) (As := [.inl a1, .inl a2]) hk hd hl wd_1359 ws_43 wd_10 wd_1360 ⟨by decide, by decide, by decide +kernel⟩ ⟨hh, by decide⟩ (ci := 8) rfl rfl rfl (fun o ho => mX8_boughtBy F n a0 a1 a2 σ o ho) hs k
abbrev qX8_exposureOf : MethodName := { cls := "LotSalesModel", name := "exposureOf", desc := "(I)I" }
def sX8_exposureOf_40 (n : Nat) (r9 : Nat → Int32 → Int32 → Int32 → zW → Option (Int32 × zW)) (v0 : Nat) (v1 : Int32) (v3 : Int32) (y0 : Int32) (y1 : Int32) (σ : zW) : Option (Int32 × zW) := r9 v0 v1 (y0 + y1) (v3 + 1) σ
def sX8_exposureOf_9 (n : Nat) : Nat → Nat → Int32 → Int32 → Int32 → zW → Option (Int32 × zW)
  | 0, _, _, _, _, _ => none
  | k + 1, v0, v1, v2, v3, σ => zgR σ 9 v0 1 fun x1 => zaI σ x1 23 fun x2 => if v3 < x2 then zck σ 9 v0 (zb2 (fX8_isLeading n v0 v3 v1 σ) fun x3 σ4 => if x3 = 0 then sX8_exposureOf_40 n (sX8_exposureOf_9 n k) v0 v1 v3 v2 0 σ4 else zck σ4 9 v0 (zb (fX8_limitOf n v0 v3 v1 σ4) fun x5 => sX8_exposureOf_40 n (sX8_exposureOf_9 n k) v0 v1 v3 v2 x5 σ4)) else some (v2, σ)
def fX8_exposureOf (n : Nat) (a0 : Nat) (a1 : Int32) (σ : zW) : Option (Int32 × zW) := zck σ 9 a0 (zb (fX8_boughtBy n a0 a1 1 σ) fun x6 => sX8_exposureOf_9 n n a0 a1 x6 0 σ)
theorem gsX8_exposureOf_40 (F : zFx E) (n : Nat) (hk : zk E K "LotSalesModel" cX8_exposureOf 4 8) (he : zend E K (some .int) "exposureOf") (r9 : Nat → Int32 → Int32 → Int32 → zW → Option (Int32 × zW)) (hr9 : ∀ (v0 : Nat) (v1 : Int32) (v2 : Int32) (v3 : Int32) (σ : zW), zG E K zfW (r9 v0 v1 v2 v3 σ) σ 9 [some (.inr (.inl v0)), some (.inl v1), some (.inl v2), some (.inl v3)] []) (v0 : Nat) (v1 : Int32) (v3 : Int32) (y0 : Int32) (y1 : Int32) (σ : zW) : zG E K zfW (sX8_exposureOf_40 n r9 v0 v1 v3 y0 y1 σ) σ 40 [some (.inr (.inl v0)), some (.inl v1), none, some (.inl v3)] [.inl y1, .inl y0] := by
  unfold sX8_exposureOf_40
  refine z_run hk hX8_exposureOf_0 25 3 (pc' := 45) (lv' := [some (.inr (.inl v0)), some (.inl v1), some (.inl (y0 + y1)), some (.inl (v3 + 1))]) (st' := []) rfl ?_
  refine z_goto hk (z_row hX8_exposureOf_0 28 rfl) (tgt := 9) rfl ?_
  exact hr9 v0 v1 (y0 + y1) (v3 + 1) σ
theorem gsX8_exposureOf_9 (F : zFx E) (n : Nat) (hk : zk E K "LotSalesModel" cX8_exposureOf 4 8) (he : zend E K (some .int) "exposureOf") : ∀ (k : Nat) (v0 : Nat) (v1 : Int32) (v2 : Int32) (v3 : Int32) (σ : zW), zG E K zfW (sX8_exposureOf_9 n k v0 v1 v2 v3 σ) σ 9 [some (.inr (.inl v0)), some (.inl v1), some (.inl v2), some (.inl v3)] [] := by
  intro k
  induction k with
  | zero =>
    intro v0 v1 v2 v3 σ
    intro hX
    exact z_none hX
  | succ k ih =>
    intro v0 v1 v2 v3 σ
    rw [sX8_exposureOf_9]
    refine z_run hk hX8_exposureOf_0 7 2 (pc' := 11) (lv' := [some (.inr (.inl v0)), some (.inl v1), some (.inl v2), some (.inl v3)]) (st' := [.inr (.inl v0), .inl v3]) rfl ?_
    refine z_gR hk 1 (z_row hX8_exposureOf_0 9 rfl) (ci := 8) rfl rfl wd_1123 (fun x1 => ?_)
    refine z_run hk hX8_exposureOf_0 10 1 (pc' := 16) (lv' := [some (.inr (.inl v0)), some (.inl v1), some (.inl v2), some (.inl v3)]) (st' := [.inl 23, .inr (.inl x1), .inl v3]) rfl ?_
    refine z_aI hk (z_row hX8_exposureOf_0 11 rfl) (fun x2 => ?_)
    refine z_cge hk (z_row hX8_exposureOf_0 12 rfl) (tgt := 48) rfl ?_ ?_
    · refine z_run hk hX8_exposureOf_0 29 1 (pc' := 49) (lv' := [some (.inr (.inl v0)), some (.inl v1), some (.inl v2), some (.inl v3)]) (st' := [.inl v2]) rfl ?_
      exact z_iret hk he (z_row hX8_exposureOf_0 30 rfl) rfl
    · refine z_run hk hX8_exposureOf_0 13 4 (pc' := 24) (lv' := [some (.inr (.inl v0)), some (.inl v1), some (.inl v2), some (.inl v3)]) (st' := [.inl v1, .inl v3, .inr (.inl v0), .inl v2]) rfl ?_
      refine kX8_isLeading F hk (z_row hX8_exposureOf_0 17 rfl) wd_1345 (by decide) (Nat.le_of_ble_eq_true rfl) (fun x3 σ4 => ?_)
      refine z_eq hk (z_row hX8_exposureOf_0 18 rfl) (tgt := 39) rfl ?_ ?_
      · refine z_run hk hX8_exposureOf_0 24 1 (pc' := 40) (lv' := [some (.inr (.inl v0)), some (.inl v1), some (.inl v2), some (.inl v3)]) (st' := [.inl 0, .inl v2]) rfl ?_
        refine z_mask [true, true, false, true] rfl ?_
        exact gsX8_exposureOf_40 F n hk he (sX8_exposureOf_9 n k) ih v0 v1 v3 v2 0 σ4
      · refine z_run hk hX8_exposureOf_0 19 3 (pc' := 33) (lv' := [some (.inr (.inl v0)), some (.inl v1), some (.inl v2), some (.inl v3)]) (st' := [.inl v1, .inl v3, .inr (.inl v0), .inl v2]) rfl ?_
        refine kX8_limitOf F hk (z_row hX8_exposureOf_0 22 rfl) wd_1323 (by decide) (Nat.le_of_ble_eq_true rfl) (fun x5 => ?_)
        refine z_goto hk (z_row hX8_exposureOf_0 23 rfl) (tgt := 40) rfl ?_
        refine z_mask [true, true, false, true] rfl ?_
        exact gsX8_exposureOf_40 F n hk he (sX8_exposureOf_9 n k) ih v0 v1 v3 v2 x5 σ4
theorem mX8_exposureOf (F : zFx E) (n : Nat) (a0 : Nat) (a1 : Int32) (σ : zW) (o : Int32 × zW) (hf : fX8_exposureOf n a0 a1 σ = some o) : zM E qX8_exposureOf cX8_exposureOf 4 (some .int) 8 [.inr (.inl a0), .inl a1] σ (some (.int o.1)) o.2 := by
  refine zM_of (fin := zfW) F (by decide +kernel) rfl (Nat.le_of_ble_eq_true rfl) (lv0 := [some (.inr (.inl a0)), some (.inl a1), none, none]) rfl hf rfl (fun K hk he => ?_)
  have hk : zk E K "LotSalesModel" cX8_exposureOf 4 8 := hk
  unfold fX8_exposureOf
  refine z_run hk hX8_exposureOf_0 0 3 (pc' := 3) (lv' := [some (.inr (.inl a0)), some (.inl a1), none, none]) (st' := [.inl 1, .inl a1, .inr (.inl a0)]) rfl ?_
  refine kX8_boughtBy F hk (z_row hX8_exposureOf_0 3 rfl) wd_1357 (by decide) (Nat.le_of_ble_eq_true rfl) (fun x6 => ?_)
  refine z_run hk hX8_exposureOf_0 4 3 (pc' := 9) (lv' := [some (.inr (.inl a0)), some (.inl a1), some (.inl x6), some (.inl 0)]) (st' := []) rfl ?_
  exact gsX8_exposureOf_9 F n hk he n a0 a1 x6 0 σ
theorem kX8_exposureOf {n : Nat} {own : String} {cc : ByteArray} {nL h index : Nat} {α : Type} {fin : α → zO} {σ : zW} {pc : Nat} {lv : zLV} {st : List zV} {a0 : Nat} {a1 : Int32} {c : Int32 → zW → Option α} (F : zFx E) (hk : zk E K own cc nL h) (hd : decode cc pc = .ok (.invokevirtual index, 3)) (hl : Cond.methodLink own index qX8_exposureOf ∈ lw_tbl) (hh : 8 + 1 ≤ h) (hs : zcat st ≤ 8) (k : ∀ v s, zG E K fin (c v s) s (pc + 3) lv (.inl v :: st)) : zG E K fin (zck σ 9 a0 (zb2 (fX8_exposureOf n a0 a1 σ) c)) σ pc lv (.inl a1 :: .inr (.inl a0) :: st) :=
  z_vW (n := 1) (y := qX8_exposureOf) (As := [.inl a1]) hk hd hl wd_1355 ws_42 wd_10 wd_1356 ⟨by decide, by decide, by decide +kernel⟩ ⟨hh, by decide⟩ (ci := 8) rfl rfl rfl (fun o ho => mX8_exposureOf F n a0 a1 σ o ho) hs k
abbrev qX8_orderRefusal : MethodName := { cls := "LotSalesModel", name := "orderRefusal", desc := "(III)I" }
def sX8_orderRefusal_105 (n : Nat) (σ : zW) (y0 : Int32) : Option (Int32) := some y0
def sX8_orderRefusal_49 (n : Nat) (σ : zW) (v0 : Nat) (v1 : Int32) (v2 : Int32) (v3 : Int32) (v4 : Int32) (y0 : Int32) : Option (Int32) := if v4 = 0 then sX8_orderRefusal_105 n σ 6 else zck σ 9 v0 (zb (fX8_orderOf n v0 v1 v2 σ) fun x1 => if x1 < v3 then zgR σ 9 v0 1 fun x2 => zaI σ x2 (13 + v2) fun x3 => if x3 < v3 then sX8_orderRefusal_105 n σ 8 else if y0 = 0 then sX8_orderRefusal_105 n σ 0 else sX8_orderRefusal_105 n σ 9 else sX8_orderRefusal_105 n σ 7)
def sX8_orderRefusal_48 (n : Nat) (σ : zW) (v0 : Nat) (v1 : Int32) (v2 : Int32) (v3 : Int32) (v4 : Int32) : Option (Int32) := sX8_orderRefusal_49 n σ v0 v1 v2 v3 v4 0
def sX8_orderRefusal_24 (n : Nat) (σ : zW) (v0 : Nat) (v1 : Int32) (v2 : Int32) (v3 : Int32) (y0 : Int32) : Option (Int32) := zck σ 9 v0 (zb (fX8_allOrders n v0 σ) fun x4 => if x4 = 40 then zck σ 9 v0 (zb (fX8_orderOf n v0 v1 v2 σ) fun x5 => if x5 = 0 then sX8_orderRefusal_49 n σ v0 v1 v2 v3 y0 1 else sX8_orderRefusal_48 n σ v0 v1 v2 v3 y0) else sX8_orderRefusal_48 n σ v0 v1 v2 v3 y0)
def sX8_orderRefusal_19 (n : Nat) (σ : zW) (v0 : Nat) (v1 : Int32) (v2 : Int32) (v3 : Int32) : Option (Int32) := sX8_orderRefusal_24 n σ v0 v1 v2 v3 1
def fX8_orderRefusal (n : Nat) (a0 : Nat) (a1 : Int32) (a2 : Int32) (a3 : Int32) (σ : zW) : Option (Int32) := zck σ 9 a0 (zb (fX8_at n a0 a1 3 σ) fun x6 => if x6 = 0 then sX8_orderRefusal_19 n σ a0 a1 a2 a3 else zck σ 9 a0 (zb (fX8_at n a0 a1 3 σ) fun x7 => if x7 = 1 then sX8_orderRefusal_19 n σ a0 a1 a2 a3 else sX8_orderRefusal_24 n σ a0 a1 a2 a3 0))
theorem gsX8_orderRefusal_105 (F : zFx E) (n : Nat) (σ : zW) (hk : zk E K "LotSalesModel" cX8_orderRefusal 6 3) (he : zend E K (some .int) "orderRefusal") (y0 : Int32) : zG E K (zfR σ) (sX8_orderRefusal_105 n σ y0) σ 105 [none, none, none, none, none, none] [.inl y0] := by
  unfold sX8_orderRefusal_105
  exact z_iret hk he (z_row hX8_orderRefusal_0 55 rfl) rfl
theorem gsX8_orderRefusal_49 (F : zFx E) (n : Nat) (σ : zW) (hk : zk E K "LotSalesModel" cX8_orderRefusal 6 3) (he : zend E K (some .int) "orderRefusal") (v0 : Nat) (v1 : Int32) (v2 : Int32) (v3 : Int32) (v4 : Int32) (y0 : Int32) : zG E K (zfR σ) (sX8_orderRefusal_49 n σ v0 v1 v2 v3 v4 y0) σ 49 [some (.inr (.inl v0)), some (.inl v1), some (.inl v2), some (.inl v3), some (.inl v4), none] [.inl y0] := by
  unfold sX8_orderRefusal_49
  refine z_run hk hX8_orderRefusal_0 27 2 (pc' := 53) (lv' := [some (.inr (.inl v0)), some (.inl v1), some (.inl v2), some (.inl v3), some (.inl v4), some (.inl y0)]) (st' := [.inl v4]) rfl ?_
  refine z_ne hk (z_row hX8_orderRefusal_0 29 rfl) (tgt := 61) rfl ?_ ?_
  · refine z_run hk hX8_orderRefusal_0 32 3 (pc' := 64) (lv' := [some (.inr (.inl v0)), some (.inl v1), some (.inl v2), some (.inl v3), some (.inl v4), some (.inl y0)]) (st' := [.inl v2, .inl v1, .inr (.inl v0)]) rfl ?_
    refine kX8_orderOf F hk (z_row hX8_orderRefusal_0 35 rfl) wd_1283 (by decide) (Nat.le_of_ble_eq_true rfl) (fun x1 => ?_)
    refine z_run hk hX8_orderRefusal_0 36 1 (pc' := 68) (lv' := [some (.inr (.inl v0)), some (.inl v1), some (.inl v2), some (.inl v3), some (.inl v4), some (.inl y0)]) (st' := [.inl v3, .inl x1]) rfl ?_
    refine z_clt hk (z_row hX8_orderRefusal_0 37 rfl) (tgt := 76) rfl ?_ ?_
    · refine z_run hk hX8_orderRefusal_0 40 2 (pc' := 78) (lv' := [some (.inr (.inl v0)), some (.inl v1), some (.inl v2), some (.inl v3), some (.inl v4), some (.inl y0)]) (st' := [.inr (.inl v0), .inl v3]) rfl ?_
      refine z_gR hk 1 (z_row hX8_orderRefusal_0 42 rfl) (ci := 8) rfl rfl wd_1123 (fun x2 => ?_)
      refine z_run hk hX8_orderRefusal_0 43 3 (pc' := 85) (lv' := [some (.inr (.inl v0)), some (.inl v1), some (.inl v2), some (.inl v3), some (.inl v4), some (.inl y0)]) (st' := [.inl (13 + v2), .inr (.inl x2), .inl v3]) rfl ?_
      refine z_aI hk (z_row hX8_orderRefusal_0 46 rfl) (fun x3 => ?_)
      refine z_cle hk (z_row hX8_orderRefusal_0 47 rfl) (tgt := 94) rfl ?_ ?_
      · refine z_run hk hX8_orderRefusal_0 50 1 (pc' := 96) (lv' := [some (.inr (.inl v0)), some (.inl v1), some (.inl v2), some (.inl v3), some (.inl v4), some (.inl y0)]) (st' := [.inl y0]) rfl ?_
        refine z_eq hk (z_row hX8_orderRefusal_0 51 rfl) (tgt := 104) rfl ?_ ?_
        · refine z_run hk hX8_orderRefusal_0 54 1 (pc' := 105) (lv' := [some (.inr (.inl v0)), some (.inl v1), some (.inl v2), some (.inl v3), some (.inl v4), some (.inl y0)]) (st' := [.inl 0]) rfl ?_
          refine z_mask [false, false, false, false, false, false] rfl ?_
          exact gsX8_orderRefusal_105 F n σ hk he 0
        · refine z_run hk hX8_orderRefusal_0 52 1 (pc' := 101) (lv' := [some (.inr (.inl v0)), some (.inl v1), some (.inl v2), some (.inl v3), some (.inl v4), some (.inl y0)]) (st' := [.inl 9]) rfl ?_
          refine z_goto hk (z_row hX8_orderRefusal_0 53 rfl) (tgt := 105) rfl ?_
          refine z_mask [false, false, false, false, false, false] rfl ?_
          exact gsX8_orderRefusal_105 F n σ hk he 9
      · refine z_run hk hX8_orderRefusal_0 48 1 (pc' := 91) (lv' := [some (.inr (.inl v0)), some (.inl v1), some (.inl v2), some (.inl v3), some (.inl v4), some (.inl y0)]) (st' := [.inl 8]) rfl ?_
        refine z_goto hk (z_row hX8_orderRefusal_0 49 rfl) (tgt := 105) rfl ?_
        refine z_mask [false, false, false, false, false, false] rfl ?_
        exact gsX8_orderRefusal_105 F n σ hk he 8
    · refine z_run hk hX8_orderRefusal_0 38 1 (pc' := 73) (lv' := [some (.inr (.inl v0)), some (.inl v1), some (.inl v2), some (.inl v3), some (.inl v4), some (.inl y0)]) (st' := [.inl 7]) rfl ?_
      refine z_goto hk (z_row hX8_orderRefusal_0 39 rfl) (tgt := 105) rfl ?_
      refine z_mask [false, false, false, false, false, false] rfl ?_
      exact gsX8_orderRefusal_105 F n σ hk he 7
  · refine z_run hk hX8_orderRefusal_0 30 1 (pc' := 58) (lv' := [some (.inr (.inl v0)), some (.inl v1), some (.inl v2), some (.inl v3), some (.inl v4), some (.inl y0)]) (st' := [.inl 6]) rfl ?_
    refine z_goto hk (z_row hX8_orderRefusal_0 31 rfl) (tgt := 105) rfl ?_
    refine z_mask [false, false, false, false, false, false] rfl ?_
    exact gsX8_orderRefusal_105 F n σ hk he 6
theorem gsX8_orderRefusal_48 (F : zFx E) (n : Nat) (σ : zW) (hk : zk E K "LotSalesModel" cX8_orderRefusal 6 3) (he : zend E K (some .int) "orderRefusal") (v0 : Nat) (v1 : Int32) (v2 : Int32) (v3 : Int32) (v4 : Int32) : zG E K (zfR σ) (sX8_orderRefusal_48 n σ v0 v1 v2 v3 v4) σ 48 [some (.inr (.inl v0)), some (.inl v1), some (.inl v2), some (.inl v3), some (.inl v4), none] [] := by
  unfold sX8_orderRefusal_48
  refine z_run hk hX8_orderRefusal_0 26 1 (pc' := 49) (lv' := [some (.inr (.inl v0)), some (.inl v1), some (.inl v2), some (.inl v3), some (.inl v4), none]) (st' := [.inl 0]) rfl ?_
  exact gsX8_orderRefusal_49 F n σ hk he v0 v1 v2 v3 v4 0
theorem gsX8_orderRefusal_24 (F : zFx E) (n : Nat) (σ : zW) (hk : zk E K "LotSalesModel" cX8_orderRefusal 6 3) (he : zend E K (some .int) "orderRefusal") (v0 : Nat) (v1 : Int32) (v2 : Int32) (v3 : Int32) (y0 : Int32) : zG E K (zfR σ) (sX8_orderRefusal_24 n σ v0 v1 v2 v3 y0) σ 24 [some (.inr (.inl v0)), some (.inl v1), some (.inl v2), some (.inl v3), none, none] [.inl y0] := by
  unfold sX8_orderRefusal_24
  refine z_run hk hX8_orderRefusal_0 14 2 (pc' := 27) (lv' := [some (.inr (.inl v0)), some (.inl v1), some (.inl v2), some (.inl v3), some (.inl y0), none]) (st' := [.inr (.inl v0)]) rfl ?_
  refine kX8_allOrders F hk (z_row hX8_orderRefusal_0 16 rfl) wd_1275 (by decide) (Nat.le_of_ble_eq_true rfl) (fun x4 => ?_)
  refine z_run hk hX8_orderRefusal_0 17 1 (pc' := 32) (lv' := [some (.inr (.inl v0)), some (.inl v1), some (.inl v2), some (.inl v3), some (.inl y0), none]) (st' := [.inl 40, .inl x4]) rfl ?_
  refine z_cne hk (z_row hX8_orderRefusal_0 18 rfl) (tgt := 48) rfl ?_ ?_
  · exact gsX8_orderRefusal_48 F n σ hk he v0 v1 v2 v3 y0
  · refine z_run hk hX8_orderRefusal_0 19 3 (pc' := 38) (lv' := [some (.inr (.inl v0)), some (.inl v1), some (.inl v2), some (.inl v3), some (.inl y0), none]) (st' := [.inl v2, .inl v1, .inr (.inl v0)]) rfl ?_
    refine kX8_orderOf F hk (z_row hX8_orderRefusal_0 22 rfl) wd_1283 (by decide) (Nat.le_of_ble_eq_true rfl) (fun x5 => ?_)
    refine z_ne hk (z_row hX8_orderRefusal_0 23 rfl) (tgt := 48) rfl ?_ ?_
    · exact gsX8_orderRefusal_48 F n σ hk he v0 v1 v2 v3 y0
    · refine z_run hk hX8_orderRefusal_0 24 1 (pc' := 45) (lv' := [some (.inr (.inl v0)), some (.inl v1), some (.inl v2), some (.inl v3), some (.inl y0), none]) (st' := [.inl 1]) rfl ?_
      refine z_goto hk (z_row hX8_orderRefusal_0 25 rfl) (tgt := 49) rfl ?_
      exact gsX8_orderRefusal_49 F n σ hk he v0 v1 v2 v3 y0 1
theorem gsX8_orderRefusal_19 (F : zFx E) (n : Nat) (σ : zW) (hk : zk E K "LotSalesModel" cX8_orderRefusal 6 3) (he : zend E K (some .int) "orderRefusal") (v0 : Nat) (v1 : Int32) (v2 : Int32) (v3 : Int32) : zG E K (zfR σ) (sX8_orderRefusal_19 n σ v0 v1 v2 v3) σ 19 [some (.inr (.inl v0)), some (.inl v1), some (.inl v2), some (.inl v3), none, none] [] := by
  unfold sX8_orderRefusal_19
  refine z_run hk hX8_orderRefusal_0 11 1 (pc' := 20) (lv' := [some (.inr (.inl v0)), some (.inl v1), some (.inl v2), some (.inl v3), none, none]) (st' := [.inl 1]) rfl ?_
  refine z_goto hk (z_row hX8_orderRefusal_0 12 rfl) (tgt := 24) rfl ?_
  exact gsX8_orderRefusal_24 F n σ hk he v0 v1 v2 v3 1
theorem mX8_orderRefusal (F : zFx E) (n : Nat) (a0 : Nat) (a1 : Int32) (a2 : Int32) (a3 : Int32) (σ : zW) (o : Int32) (hf : fX8_orderRefusal n a0 a1 a2 a3 σ = some o) : zM E qX8_orderRefusal cX8_orderRefusal 6 (some .int) 3 [.inr (.inl a0), .inl a1, .inl a2, .inl a3] σ (some (.int o)) σ := by
  refine zM_of (fin := (zfR σ)) F (by decide +kernel) rfl (Nat.le_of_ble_eq_true rfl) (lv0 := [some (.inr (.inl a0)), some (.inl a1), some (.inl a2), some (.inl a3), none, none]) rfl hf rfl (fun K hk he => ?_)
  have hk : zk E K "LotSalesModel" cX8_orderRefusal 6 3 := hk
  unfold fX8_orderRefusal
  refine z_run hk hX8_orderRefusal_0 0 3 (pc' := 3) (lv' := [some (.inr (.inl a0)), some (.inl a1), some (.inl a2), some (.inl a3), none, none]) (st' := [.inl 3, .inl a1, .inr (.inl a0)]) rfl ?_
  refine kX8_at F hk (z_row hX8_orderRefusal_0 3 rfl) wd_1213 (by decide) (Nat.le_of_ble_eq_true rfl) (fun x6 => ?_)
  refine z_eq hk (z_row hX8_orderRefusal_0 4 rfl) (tgt := 19) rfl ?_ ?_
  · exact gsX8_orderRefusal_19 F n σ hk he a0 a1 a2 a3
  · refine z_run hk hX8_orderRefusal_0 5 3 (pc' := 12) (lv' := [some (.inr (.inl a0)), some (.inl a1), some (.inl a2), some (.inl a3), none, none]) (st' := [.inl 3, .inl a1, .inr (.inl a0)]) rfl ?_
    refine kX8_at F hk (z_row hX8_orderRefusal_0 8 rfl) wd_1213 (by decide) (Nat.le_of_ble_eq_true rfl) (fun x7 => ?_)
    refine z_run hk hX8_orderRefusal_0 9 1 (pc' := 16) (lv' := [some (.inr (.inl a0)), some (.inl a1), some (.inl a2), some (.inl a3), none, none]) (st' := [.inl 1, .inl x7]) rfl ?_
    refine z_cne hk (z_row hX8_orderRefusal_0 10 rfl) (tgt := 23) rfl ?_ ?_
    · refine z_run hk hX8_orderRefusal_0 13 1 (pc' := 24) (lv' := [some (.inr (.inl a0)), some (.inl a1), some (.inl a2), some (.inl a3), none, none]) (st' := [.inl 0]) rfl ?_
      exact gsX8_orderRefusal_24 F n σ hk he a0 a1 a2 a3 0
    · exact gsX8_orderRefusal_19 F n σ hk he a0 a1 a2 a3
theorem kX8_orderRefusal {n : Nat} {own : String} {cc : ByteArray} {nL h index : Nat} {α : Type} {fin : α → zO} {σ : zW} {pc : Nat} {lv : zLV} {st : List zV} {a0 : Nat} {a1 : Int32} {a2 : Int32} {a3 : Int32} {c : Int32 → Option α} (F : zFx E) (hk : zk E K own cc nL h) (hd : decode cc pc = .ok (.invokevirtual index, 3)) (hl : Cond.methodLink own index qX8_orderRefusal ∈ lw_tbl) (hh : 3 + 1 ≤ h) (hs : zcat st ≤ 8) (k : ∀ v, zG E K fin (c v) σ (pc + 3) lv (.inl v :: st)) : zG E K fin (zck σ 9 a0 (zb (fX8_orderRefusal n a0 a1 a2 a3 σ) c)) σ pc lv (.inl a3 :: .inl a2 :: .inl a1 :: .inr (.inl a0) :: st) :=
  z_vR (n := 3) (y := qX8_orderRefusal) (As := [.inl a1, .inl a2, .inl a3]) hk hd hl wd_1273 ws_27 wd_10 wd_1274 ⟨by decide, by decide, by decide +kernel⟩ ⟨hh, by decide⟩ (ci := 8) rfl rfl rfl (fun o ho => mX8_orderRefusal F n a0 a1 a2 a3 σ o ho) hs k
abbrev qX8_bidRefusal : MethodName := { cls := "LotSalesModel", name := "bidRefusal", desc := "(III)I" }
def sX8_bidRefusal_73 (n : Nat) (y0 : Int32) (σ : zW) : Option (Int32 × zW) := some (y0, σ)
def fX8_bidRefusal (n : Nat) (a0 : Nat) (a1 : Int32) (a2 : Int32) (a3 : Int32) (σ : zW) : Option (Int32 × zW) := zck σ 9 a0 (zb (fX8_at n a0 a1 3 σ) fun x1 => if x1 = 1 then zck σ 9 a0 (zb2 (fX8_isLeading n a0 a1 a2 σ) fun x2 σ3 => if x2 = 0 then zgI σ3 9 a0 10 fun x4 => zck σ3 9 a0 (zb (fX8_stepAbove n a0 x4 σ3) fun x5 => if a3 < x5 then some (3, σ3) else zck σ3 9 a0 (zb (fX8_isStep n a0 a3 σ3) fun x6 => if x6 = 0 then sX8_bidRefusal_73 n 4 σ3 else zck σ3 9 a0 (zb2 (fX8_exposureOf n a0 a2 σ3) fun x7 σ8 => zgR σ8 9 a0 1 fun x9 => zaI σ8 x9 (13 + a2) fun x10 => if x10 < (a3 + x7) then sX8_bidRefusal_73 n 5 σ8 else sX8_bidRefusal_73 n 0 σ8))) else some (2, σ3)) else some (1, σ))
theorem gsX8_bidRefusal_73 (F : zFx E) (n : Nat) (hk : zk E K "LotSalesModel" cX8_bidRefusal 4 9) (he : zend E K (some .int) "bidRefusal") (y0 : Int32) (σ : zW) : zG E K zfW (sX8_bidRefusal_73 n y0 σ) σ 73 [none, none, none, none] [.inl y0] := by
  unfold sX8_bidRefusal_73
  exact z_iret hk he (z_row hX8_bidRefusal_0 44 rfl) rfl
theorem mX8_bidRefusal (F : zFx E) (n : Nat) (a0 : Nat) (a1 : Int32) (a2 : Int32) (a3 : Int32) (σ : zW) (o : Int32 × zW) (hf : fX8_bidRefusal n a0 a1 a2 a3 σ = some o) : zM E qX8_bidRefusal cX8_bidRefusal 4 (some .int) 9 [.inr (.inl a0), .inl a1, .inl a2, .inl a3] σ (some (.int o.1)) o.2 := by
  refine zM_of (fin := zfW) F (by decide +kernel) rfl (Nat.le_of_ble_eq_true rfl) (lv0 := [some (.inr (.inl a0)), some (.inl a1), some (.inl a2), some (.inl a3)]) rfl hf rfl (fun K hk he => ?_)
  have hk : zk E K "LotSalesModel" cX8_bidRefusal 4 9 := hk
  unfold fX8_bidRefusal
  refine z_run hk hX8_bidRefusal_0 0 3 (pc' := 3) (lv' := [some (.inr (.inl a0)), some (.inl a1), some (.inl a2), some (.inl a3)]) (st' := [.inl 3, .inl a1, .inr (.inl a0)]) rfl ?_
  refine kX8_at F hk (z_row hX8_bidRefusal_0 3 rfl) wd_1213 (by decide) (Nat.le_of_ble_eq_true rfl) (fun x1 => ?_)
  refine z_run hk hX8_bidRefusal_0 4 1 (pc' := 7) (lv' := [some (.inr (.inl a0)), some (.inl a1), some (.inl a2), some (.inl a3)]) (st' := [.inl 1, .inl x1]) rfl ?_
  refine z_ceq hk (z_row hX8_bidRefusal_0 5 rfl) (tgt := 12) rfl ?_ ?_
  · refine z_run hk hX8_bidRefusal_0 8 3 (pc' := 15) (lv' := [some (.inr (.inl a0)), some (.inl a1), some (.inl a2), some (.inl a3)]) (st' := [.inl a2, .inl a1, .inr (.inl a0)]) rfl ?_
    refine kX8_isLeading F hk (z_row hX8_bidRefusal_0 11 rfl) wd_1345 (by decide) (Nat.le_of_ble_eq_true rfl) (fun x2 σ3 => ?_)
    refine z_eq hk (z_row hX8_bidRefusal_0 12 rfl) (tgt := 23) rfl ?_ ?_
    · refine z_run hk hX8_bidRefusal_0 15 3 (pc' := 26) (lv' := [some (.inr (.inl a0)), some (.inl a1), some (.inl a2), some (.inl a3)]) (st' := [.inr (.inl a0), .inr (.inl a0), .inl a3]) rfl ?_
      refine z_gI hk 10 (z_row hX8_bidRefusal_0 18 rfl) (ci := 8) rfl rfl wd_1132 (fun x4 => ?_)
      refine kX8_stepAbove F hk (z_row hX8_bidRefusal_0 19 rfl) wd_1255 (by decide) (Nat.le_of_ble_eq_true rfl) (fun x5 => ?_)
      refine z_cge hk (z_row hX8_bidRefusal_0 20 rfl) (tgt := 37) rfl ?_ ?_
      · refine z_run hk hX8_bidRefusal_0 23 2 (pc' := 39) (lv' := [some (.inr (.inl a0)), some (.inl a1), some (.inl a2), some (.inl a3)]) (st' := [.inl a3, .inr (.inl a0)]) rfl ?_
        refine kX8_isStep F hk (z_row hX8_bidRefusal_0 25 rfl) wd_1349 (by decide) (Nat.le_of_ble_eq_true rfl) (fun x6 => ?_)
        refine z_ne hk (z_row hX8_bidRefusal_0 26 rfl) (tgt := 49) rfl ?_ ?_
        · refine z_run hk hX8_bidRefusal_0 29 3 (pc' := 52) (lv' := [some (.inr (.inl a0)), some (.inl a1), some (.inl a2), some (.inl a3)]) (st' := [.inl a2, .inr (.inl a0), .inl a3]) rfl ?_
          refine kX8_exposureOf F hk (z_row hX8_bidRefusal_0 32 rfl) wd_1353 (by decide) (Nat.le_of_ble_eq_true rfl) (fun x7 σ8 => ?_)
          refine z_run hk hX8_bidRefusal_0 33 2 (pc' := 57) (lv' := [some (.inr (.inl a0)), some (.inl a1), some (.inl a2), some (.inl a3)]) (st' := [.inr (.inl a0), .inl (a3 + x7)]) rfl ?_
          refine z_gR hk 1 (z_row hX8_bidRefusal_0 35 rfl) (ci := 8) rfl rfl wd_1123 (fun x9 => ?_)
          refine z_run hk hX8_bidRefusal_0 36 3 (pc' := 64) (lv' := [some (.inr (.inl a0)), some (.inl a1), some (.inl a2), some (.inl a3)]) (st' := [.inl (13 + a2), .inr (.inl x9), .inl (a3 + x7)]) rfl ?_
          refine z_aI hk (z_row hX8_bidRefusal_0 39 rfl) (fun x10 => ?_)
          refine z_cle hk (z_row hX8_bidRefusal_0 40 rfl) (tgt := 72) rfl ?_ ?_
          · refine z_run hk hX8_bidRefusal_0 43 1 (pc' := 73) (lv' := [some (.inr (.inl a0)), some (.inl a1), some (.inl a2), some (.inl a3)]) (st' := [.inl 0]) rfl ?_
            refine z_mask [false, false, false, false] rfl ?_
            exact gsX8_bidRefusal_73 F n hk he 0 σ8
          · refine z_run hk hX8_bidRefusal_0 41 1 (pc' := 69) (lv' := [some (.inr (.inl a0)), some (.inl a1), some (.inl a2), some (.inl a3)]) (st' := [.inl 5]) rfl ?_
            refine z_goto hk (z_row hX8_bidRefusal_0 42 rfl) (tgt := 73) rfl ?_
            refine z_mask [false, false, false, false] rfl ?_
            exact gsX8_bidRefusal_73 F n hk he 5 σ8
        · refine z_run hk hX8_bidRefusal_0 27 1 (pc' := 46) (lv' := [some (.inr (.inl a0)), some (.inl a1), some (.inl a2), some (.inl a3)]) (st' := [.inl 4]) rfl ?_
          refine z_goto hk (z_row hX8_bidRefusal_0 28 rfl) (tgt := 73) rfl ?_
          refine z_mask [false, false, false, false] rfl ?_
          exact gsX8_bidRefusal_73 F n hk he 4 σ3
      · refine z_run hk hX8_bidRefusal_0 21 1 (pc' := 36) (lv' := [some (.inr (.inl a0)), some (.inl a1), some (.inl a2), some (.inl a3)]) (st' := [.inl 3]) rfl ?_
        exact z_iret hk he (z_row hX8_bidRefusal_0 22 rfl) rfl
    · refine z_run hk hX8_bidRefusal_0 13 1 (pc' := 22) (lv' := [some (.inr (.inl a0)), some (.inl a1), some (.inl a2), some (.inl a3)]) (st' := [.inl 2]) rfl ?_
      exact z_iret hk he (z_row hX8_bidRefusal_0 14 rfl) rfl
  · refine z_run hk hX8_bidRefusal_0 6 1 (pc' := 11) (lv' := [some (.inr (.inl a0)), some (.inl a1), some (.inl a2), some (.inl a3)]) (st' := [.inl 1]) rfl ?_
    exact z_iret hk he (z_row hX8_bidRefusal_0 7 rfl) rfl
theorem kX8_bidRefusal {n : Nat} {own : String} {cc : ByteArray} {nL h index : Nat} {α : Type} {fin : α → zO} {σ : zW} {pc : Nat} {lv : zLV} {st : List zV} {a0 : Nat} {a1 : Int32} {a2 : Int32} {a3 : Int32} {c : Int32 → zW → Option α} (F : zFx E) (hk : zk E K own cc nL h) (hd : decode cc pc = .ok (.invokevirtual index, 3)) (hl : Cond.methodLink own index qX8_bidRefusal ∈ lw_tbl) (hh : 9 + 1 ≤ h) (hs : zcat st ≤ 8) (k : ∀ v s, zG E K fin (c v s) s (pc + 3) lv (.inl v :: st)) : zG E K fin (zck σ 9 a0 (zb2 (fX8_bidRefusal n a0 a1 a2 a3 σ) c)) σ pc lv (.inl a3 :: .inl a2 :: .inl a1 :: .inr (.inl a0) :: st) :=
  z_vW (n := 3) (y := qX8_bidRefusal) (As := [.inl a1, .inl a2, .inl a3]) hk hd hl wd_1343 ws_39 wd_10 wd_1344 ⟨by decide, by decide, by decide +kernel⟩ ⟨hh, by decide⟩ (ci := 8) rfl rfl rfl (fun o ho => mX8_bidRefusal F n a0 a1 a2 a3 σ o ho) hs k
abbrev qX8_order : MethodName := { cls := "LotSalesModel", name := "order", desc := "(III)I" }
def sX8_order_35 (n : Nat) (v0 : Nat) (v1 : Int32) (v2 : Int32) (v3 : Int32) (y0 : Nat) (y1 : Int32) (σ : zW) : Option (Int32 × zW) := zpI σ 9 y0 0 y1 fun σ1 => zgI σ1 9 v0 0 fun x2 => if x2 = 0 then zck σ1 9 v0 (zb (fX8_orderRefusal n v0 v1 v2 v3 σ1) fun x3 => if x3 = 0 then zck σ1 9 v0 (zb (fX8_keep n v0 σ1) fun σ4 => zck σ4 9 v0 (zb2 (fX8_nextNumber n v0 σ4) fun x5 σ6 => zck σ6 9 v0 (zb (fX8_putOrder n v0 v1 v2 v3 x5 σ6) fun σ7 => zck σ7 9 v0 (zb (fX8_note n v0 0 v1 v2 v3 σ7) fun σ8 => zck σ8 9 v0 (zb (fX8_allOrders n v0 σ8) fun x9 => some (x9, σ8)))))) else zpI σ1 9 v0 6 x3 fun σ10 => zck σ10 9 v0 (zb2 (fX8_fail n v0 3 σ10) fun x11 σ12 => some (x11, σ12))) else some (0, σ1)
def sX8_order_16 (n : Nat) (v0 : Nat) (v1 : Int32) (v2 : Int32) (v3 : Int32) (y0 : Nat) (σ : zW) : Option (Int32 × zW) := sX8_order_35 n v0 v1 v2 v3 y0 1 σ
def fX8_order (n : Nat) (a0 : Nat) (a1 : Int32) (a2 : Int32) (a3 : Int32) (σ : zW) : Option (Int32 × zW) := zck σ 9 a0 (zb (fX8_isLot n a0 a1 σ) fun x13 => if x13 = 0 then sX8_order_16 n a0 a1 a2 a3 a0 σ else zb (fX8_isBidder n a2 σ) fun x14 => if x14 = 0 then sX8_order_16 n a0 a1 a2 a3 a0 σ else zb (fX8_isIn n a3 1 90000 σ) fun x15 => if x15 = 0 then sX8_order_35 n a0 a1 a2 a3 a0 2 σ else sX8_order_35 n a0 a1 a2 a3 a0 0 σ)
theorem gsX8_order_35 (F : zFx E) (n : Nat) (hk : zk E K "LotSalesModel" cX8_order 5 4) (he : zend E K (some .int) "order") (v0 : Nat) (v1 : Int32) (v2 : Int32) (v3 : Int32) (y0 : Nat) (y1 : Int32) (σ : zW) : zG E K zfW (sX8_order_35 n v0 v1 v2 v3 y0 y1 σ) σ 35 [some (.inr (.inl v0)), some (.inl v1), some (.inl v2), some (.inl v3), none] [.inl y1, .inr (.inl y0)] := by
  unfold sX8_order_35
  refine z_pI hk 0 (z_row hX8_order_0 18 rfl) (ci := 8) rfl rfl wd_1122 rfl rfl rfl (fun σ1 => ?_)
  refine z_run hk hX8_order_0 19 1 (pc' := 39) (lv' := [some (.inr (.inl v0)), some (.inl v1), some (.inl v2), some (.inl v3), none]) (st' := [.inr (.inl v0)]) rfl ?_
  refine z_gI hk 0 (z_row hX8_order_0 20 rfl) (ci := 8) rfl rfl wd_1122 (fun x2 => ?_)
  refine z_eq hk (z_row hX8_order_0 21 rfl) (tgt := 47) rfl ?_ ?_
  · refine z_run hk hX8_order_0 24 4 (pc' := 51) (lv' := [some (.inr (.inl v0)), some (.inl v1), some (.inl v2), some (.inl v3), none]) (st' := [.inl v3, .inl v2, .inl v1, .inr (.inl v0)]) rfl ?_
    refine kX8_orderRefusal F hk (z_row hX8_order_0 28 rfl) wd_1271 (by decide) (Nat.le_of_ble_eq_true rfl) (fun x3 => ?_)
    refine z_run hk hX8_order_0 29 2 (pc' := 58) (lv' := [some (.inr (.inl v0)), some (.inl v1), some (.inl v2), some (.inl v3), some (.inl x3)]) (st' := [.inl x3]) rfl ?_
    refine z_eq hk (z_row hX8_order_0 31 rfl) (tgt := 73) rfl ?_ ?_
    · refine z_run hk hX8_order_0 39 1 (pc' := 74) (lv' := [some (.inr (.inl v0)), some (.inl v1), some (.inl v2), some (.inl v3), some (.inl x3)]) (st' := [.inr (.inl v0)]) rfl ?_
      refine kX8_keep F hk (z_row hX8_order_0 40 rfl) wd_1185 (by decide) (Nat.le_of_ble_eq_true rfl) (fun σ4 => ?_)
      refine z_run hk hX8_order_0 41 5 (pc' := 82) (lv' := [some (.inr (.inl v0)), some (.inl v1), some (.inl v2), some (.inl v3), some (.inl x3)]) (st' := [.inr (.inl v0), .inl v3, .inl v2, .inl v1, .inr (.inl v0)]) rfl ?_
      refine kX8_nextNumber F hk (z_row hX8_order_0 46 rfl) wd_1287 (by decide) (Nat.le_of_ble_eq_true rfl) (fun x5 σ6 => ?_)
      refine kX8_putOrder F hk (z_row hX8_order_0 47 rfl) wd_1197 (by decide) (Nat.le_of_ble_eq_true rfl) (fun σ7 => ?_)
      refine z_run hk hX8_order_0 48 5 (pc' := 93) (lv' := [some (.inr (.inl v0)), some (.inl v1), some (.inl v2), some (.inl v3), some (.inl x3)]) (st' := [.inl v3, .inl v2, .inl v1, .inl 0, .inr (.inl v0)]) rfl ?_
      refine kX8_note F hk (z_row hX8_order_0 53 rfl) wd_1291 (by decide) (Nat.le_of_ble_eq_true rfl) (fun σ8 => ?_)
      refine z_run hk hX8_order_0 54 1 (pc' := 97) (lv' := [some (.inr (.inl v0)), some (.inl v1), some (.inl v2), some (.inl v3), some (.inl x3)]) (st' := [.inr (.inl v0)]) rfl ?_
      refine kX8_allOrders F hk (z_row hX8_order_0 55 rfl) wd_1275 (by decide) (Nat.le_of_ble_eq_true rfl) (fun x9 => ?_)
      exact z_iret hk he (z_row hX8_order_0 56 rfl) rfl
    · refine z_run hk hX8_order_0 32 2 (pc' := 64) (lv' := [some (.inr (.inl v0)), some (.inl v1), some (.inl v2), some (.inl v3), some (.inl x3)]) (st' := [.inl x3, .inr (.inl v0)]) rfl ?_
      refine z_pI hk 6 (z_row hX8_order_0 34 rfl) (ci := 8) rfl rfl wd_1128 rfl rfl rfl (fun σ10 => ?_)
      refine z_run hk hX8_order_0 35 2 (pc' := 69) (lv' := [some (.inr (.inl v0)), some (.inl v1), some (.inl v2), some (.inl v3), some (.inl x3)]) (st' := [.inl 3, .inr (.inl v0)]) rfl ?_
      refine kX8_fail F hk (z_row hX8_order_0 37 rfl) wd_1221 (by decide) (Nat.le_of_ble_eq_true rfl) (fun x11 σ12 => ?_)
      exact z_iret hk he (z_row hX8_order_0 38 rfl) rfl
  · refine z_run hk hX8_order_0 22 1 (pc' := 46) (lv' := [some (.inr (.inl v0)), some (.inl v1), some (.inl v2), some (.inl v3), none]) (st' := [.inl 0]) rfl ?_
    exact z_iret hk he (z_row hX8_order_0 23 rfl) rfl
theorem gsX8_order_16 (F : zFx E) (n : Nat) (hk : zk E K "LotSalesModel" cX8_order 5 4) (he : zend E K (some .int) "order") (v0 : Nat) (v1 : Int32) (v2 : Int32) (v3 : Int32) (y0 : Nat) (σ : zW) : zG E K zfW (sX8_order_16 n v0 v1 v2 v3 y0 σ) σ 16 [some (.inr (.inl v0)), some (.inl v1), some (.inl v2), some (.inl v3), none] [.inr (.inl y0)] := by
  unfold sX8_order_16
  refine z_run hk hX8_order_0 8 1 (pc' := 17) (lv' := [some (.inr (.inl v0)), some (.inl v1), some (.inl v2), some (.inl v3), none]) (st' := [.inl 1, .inr (.inl y0)]) rfl ?_
  refine z_goto hk (z_row hX8_order_0 9 rfl) (tgt := 35) rfl ?_
  exact gsX8_order_35 F n hk he v0 v1 v2 v3 y0 1 σ
theorem mX8_order (F : zFx E) (n : Nat) (a0 : Nat) (a1 : Int32) (a2 : Int32) (a3 : Int32) (σ : zW) (o : Int32 × zW) (hf : fX8_order n a0 a1 a2 a3 σ = some o) : zM E qX8_order cX8_order 5 (some .int) 4 [.inr (.inl a0), .inl a1, .inl a2, .inl a3] σ (some (.int o.1)) o.2 := by
  refine zM_of (fin := zfW) F (by decide +kernel) rfl (Nat.le_of_ble_eq_true rfl) (lv0 := [some (.inr (.inl a0)), some (.inl a1), some (.inl a2), some (.inl a3), none]) rfl hf rfl (fun K hk he => ?_)
  have hk : zk E K "LotSalesModel" cX8_order 5 4 := hk
  unfold fX8_order
  refine z_run hk hX8_order_0 0 3 (pc' := 3) (lv' := [some (.inr (.inl a0)), some (.inl a1), some (.inl a2), some (.inl a3), none]) (st' := [.inl a1, .inr (.inl a0), .inr (.inl a0)]) rfl ?_
  refine kX8_isLot F hk (z_row hX8_order_0 3 rfl) wd_1209 (by decide) (Nat.le_of_ble_eq_true rfl) (fun x13 => ?_)
  refine z_eq hk (z_row hX8_order_0 4 rfl) (tgt := 16) rfl ?_ ?_
  · exact gsX8_order_16 F n hk he a0 a1 a2 a3 a0 σ
  · refine z_run hk hX8_order_0 5 1 (pc' := 10) (lv' := [some (.inr (.inl a0)), some (.inl a1), some (.inl a2), some (.inl a3), none]) (st' := [.inl a2, .inr (.inl a0)]) rfl ?_
    refine kX8_isBidder F hk (z_row hX8_order_0 6 rfl) wd_1263 (by decide) (Nat.le_of_ble_eq_true rfl) (fun x14 => ?_)
    refine z_ne hk (z_row hX8_order_0 7 rfl) (tgt := 20) rfl ?_ ?_
    · refine z_run hk hX8_order_0 10 2 (pc' := 22) (lv' := [some (.inr (.inl a0)), some (.inl a1), some (.inl a2), some (.inl a3), none]) (st' := [.inl 1, .inl a3, .inr (.inl a0)]) rfl ?_
      refine z_ldc hk (z_row hX8_order_0 12 rfl) wd_1184 ?_
      refine kX8_isIn F hk (z_row hX8_order_0 13 rfl) wd_1181 (by decide) (Nat.le_of_ble_eq_true rfl) (fun x15 => ?_)
      refine z_ne hk (z_row hX8_order_0 14 rfl) (tgt := 34) rfl ?_ ?_
      · refine z_run hk hX8_order_0 17 1 (pc' := 35) (lv' := [some (.inr (.inl a0)), some (.inl a1), some (.inl a2), some (.inl a3), none]) (st' := [.inl 0, .inr (.inl a0)]) rfl ?_
        exact gsX8_order_35 F n hk he a0 a1 a2 a3 a0 0 σ
      · refine z_run hk hX8_order_0 15 1 (pc' := 31) (lv' := [some (.inr (.inl a0)), some (.inl a1), some (.inl a2), some (.inl a3), none]) (st' := [.inl 2, .inr (.inl a0)]) rfl ?_
        refine z_goto hk (z_row hX8_order_0 16 rfl) (tgt := 35) rfl ?_
        exact gsX8_order_35 F n hk he a0 a1 a2 a3 a0 2 σ
    · exact gsX8_order_16 F n hk he a0 a1 a2 a3 a0 σ
theorem kX8_order {n : Nat} {own : String} {cc : ByteArray} {nL h index : Nat} {α : Type} {fin : α → zO} {σ : zW} {pc : Nat} {lv : zLV} {st : List zV} {a0 : Nat} {a1 : Int32} {a2 : Int32} {a3 : Int32} {c : Int32 → zW → Option α} (F : zFx E) (hk : zk E K own cc nL h) (hd : decode cc pc = .ok (.invokevirtual index, 3)) (hl : Cond.methodLink own index qX8_order ∈ lw_tbl) (hh : 4 + 1 ≤ h) (hs : zcat st ≤ 8) (k : ∀ v s, zG E K fin (c v s) s (pc + 3) lv (.inl v :: st)) : zG E K fin (zck σ 9 a0 (zb2 (fX8_order n a0 a1 a2 a3 σ) c)) σ pc lv (.inl a3 :: .inl a2 :: .inl a1 :: .inr (.inl a0) :: st) :=
  z_vW (n := 3) (y := qX8_order) (As := [.inl a1, .inl a2, .inl a3]) hk hd hl wd_1268 wd_1269 wd_10 wd_1270 ⟨by decide, by decide, by decide +kernel⟩ ⟨hh, by decide⟩ (ci := 8) rfl rfl rfl (fun o ho => mX8_order F n a0 a1 a2 a3 σ o ho) hs k
abbrev qX8_cancel : MethodName := { cls := "LotSalesModel", name := "cancel", desc := "(II)I" }
def sX8_cancel_47 (n : Nat) (v0 : Nat) (v1 : Int32) (v2 : Int32) (y0 : Nat) (y1 : Int32) (σ : zW) : Option (Int32 × zW) := zpI σ 9 y0 0 y1 fun σ1 => zgI σ1 9 v0 0 fun x2 => if x2 = 0 then zck σ1 9 v0 (zb (fX8_keep n v0 σ1) fun σ3 => zck σ3 9 v0 (zb (fX8_orderOf n v0 v1 v2 σ3) fun x4 => zck σ3 9 v0 (zb (fX8_putOrder n v0 v1 v2 0 0 σ3) fun σ5 => zck σ5 9 v0 (zb (fX8_note n v0 9 v1 v2 x4 σ5) fun σ6 => some (x4, σ6))))) else some (0, σ1)
def sX8_cancel_16 (n : Nat) (v0 : Nat) (v1 : Int32) (v2 : Int32) (y0 : Nat) (σ : zW) : Option (Int32 × zW) := sX8_cancel_47 n v0 v1 v2 y0 1 σ
def fX8_cancel (n : Nat) (a0 : Nat) (a1 : Int32) (a2 : Int32) (σ : zW) : Option (Int32 × zW) := zck σ 9 a0 (zb (fX8_isLot n a0 a1 σ) fun x7 => if x7 = 0 then sX8_cancel_16 n a0 a1 a2 a0 σ else zb (fX8_isBidder n a2 σ) fun x8 => if x8 = 0 then sX8_cancel_16 n a0 a1 a2 a0 σ else zck σ 9 a0 (zb (fX8_orderOf n a0 a1 a2 σ) fun x9 => if x9 = 0 then sX8_cancel_47 n a0 a1 a2 a0 2 σ else zck σ 9 a0 (zb (fX8_at n a0 a1 3 σ) fun x10 => if x10 = 0 then sX8_cancel_47 n a0 a1 a2 a0 0 σ else sX8_cancel_47 n a0 a1 a2 a0 3 σ)))
theorem gsX8_cancel_47 (F : zFx E) (n : Nat) (hk : zk E K "LotSalesModel" cX8_cancel 4 2) (he : zend E K (some .int) "cancel") (v0 : Nat) (v1 : Int32) (v2 : Int32) (y0 : Nat) (y1 : Int32) (σ : zW) : zG E K zfW (sX8_cancel_47 n v0 v1 v2 y0 y1 σ) σ 47 [some (.inr (.inl v0)), some (.inl v1), some (.inl v2), none] [.inl y1, .inr (.inl y0)] := by
  unfold sX8_cancel_47
  refine z_pI hk 0 (z_row hX8_cancel_0 25 rfl) (ci := 8) rfl rfl wd_1122 rfl rfl rfl (fun σ1 => ?_)
  refine z_run hk hX8_cancel_0 26 1 (pc' := 51) (lv' := [some (.inr (.inl v0)), some (.inl v1), some (.inl v2), none]) (st' := [.inr (.inl v0)]) rfl ?_
  refine z_gI hk 0 (z_row hX8_cancel_0 27 rfl) (ci := 8) rfl rfl wd_1122 (fun x2 => ?_)
  refine z_eq hk (z_row hX8_cancel_0 28 rfl) (tgt := 59) rfl ?_ ?_
  · refine z_run hk hX8_cancel_0 31 1 (pc' := 60) (lv' := [some (.inr (.inl v0)), some (.inl v1), some (.inl v2), none]) (st' := [.inr (.inl v0)]) rfl ?_
    refine kX8_keep F hk (z_row hX8_cancel_0 32 rfl) wd_1185 (by decide) (Nat.le_of_ble_eq_true rfl) (fun σ3 => ?_)
    refine z_run hk hX8_cancel_0 33 3 (pc' := 66) (lv' := [some (.inr (.inl v0)), some (.inl v1), some (.inl v2), none]) (st' := [.inl v2, .inl v1, .inr (.inl v0)]) rfl ?_
    refine kX8_orderOf F hk (z_row hX8_cancel_0 36 rfl) wd_1283 (by decide) (Nat.le_of_ble_eq_true rfl) (fun x4 => ?_)
    refine z_run hk hX8_cancel_0 37 6 (pc' := 75) (lv' := [some (.inr (.inl v0)), some (.inl v1), some (.inl v2), some (.inl x4)]) (st' := [.inl 0, .inl 0, .inl v2, .inl v1, .inr (.inl v0)]) rfl ?_
    refine kX8_putOrder F hk (z_row hX8_cancel_0 43 rfl) wd_1197 (by decide) (Nat.le_of_ble_eq_true rfl) (fun σ5 => ?_)
    refine z_run hk hX8_cancel_0 44 5 (pc' := 84) (lv' := [some (.inr (.inl v0)), some (.inl v1), some (.inl v2), some (.inl x4)]) (st' := [.inl x4, .inl v2, .inl v1, .inl 9, .inr (.inl v0)]) rfl ?_
    refine kX8_note F hk (z_row hX8_cancel_0 49 rfl) wd_1291 (by decide) (Nat.le_of_ble_eq_true rfl) (fun σ6 => ?_)
    refine z_run hk hX8_cancel_0 50 1 (pc' := 88) (lv' := [some (.inr (.inl v0)), some (.inl v1), some (.inl v2), some (.inl x4)]) (st' := [.inl x4]) rfl ?_
    exact z_iret hk he (z_row hX8_cancel_0 51 rfl) rfl
  · refine z_run hk hX8_cancel_0 29 1 (pc' := 58) (lv' := [some (.inr (.inl v0)), some (.inl v1), some (.inl v2), none]) (st' := [.inl 0]) rfl ?_
    exact z_iret hk he (z_row hX8_cancel_0 30 rfl) rfl
theorem gsX8_cancel_16 (F : zFx E) (n : Nat) (hk : zk E K "LotSalesModel" cX8_cancel 4 2) (he : zend E K (some .int) "cancel") (v0 : Nat) (v1 : Int32) (v2 : Int32) (y0 : Nat) (σ : zW) : zG E K zfW (sX8_cancel_16 n v0 v1 v2 y0 σ) σ 16 [some (.inr (.inl v0)), some (.inl v1), some (.inl v2), none] [.inr (.inl y0)] := by
  unfold sX8_cancel_16
  refine z_run hk hX8_cancel_0 8 1 (pc' := 17) (lv' := [some (.inr (.inl v0)), some (.inl v1), some (.inl v2), none]) (st' := [.inl 1, .inr (.inl y0)]) rfl ?_
  refine z_goto hk (z_row hX8_cancel_0 9 rfl) (tgt := 47) rfl ?_
  exact gsX8_cancel_47 F n hk he v0 v1 v2 y0 1 σ
theorem mX8_cancel (F : zFx E) (n : Nat) (a0 : Nat) (a1 : Int32) (a2 : Int32) (σ : zW) (o : Int32 × zW) (hf : fX8_cancel n a0 a1 a2 σ = some o) : zM E qX8_cancel cX8_cancel 4 (some .int) 2 [.inr (.inl a0), .inl a1, .inl a2] σ (some (.int o.1)) o.2 := by
  refine zM_of (fin := zfW) F (by decide +kernel) rfl (Nat.le_of_ble_eq_true rfl) (lv0 := [some (.inr (.inl a0)), some (.inl a1), some (.inl a2), none]) rfl hf rfl (fun K hk he => ?_)
  have hk : zk E K "LotSalesModel" cX8_cancel 4 2 := hk
  unfold fX8_cancel
  refine z_run hk hX8_cancel_0 0 3 (pc' := 3) (lv' := [some (.inr (.inl a0)), some (.inl a1), some (.inl a2), none]) (st' := [.inl a1, .inr (.inl a0), .inr (.inl a0)]) rfl ?_
  refine kX8_isLot F hk (z_row hX8_cancel_0 3 rfl) wd_1209 (by decide) (Nat.le_of_ble_eq_true rfl) (fun x7 => ?_)
  refine z_eq hk (z_row hX8_cancel_0 4 rfl) (tgt := 16) rfl ?_ ?_
  · exact gsX8_cancel_16 F n hk he a0 a1 a2 a0 σ
  · refine z_run hk hX8_cancel_0 5 1 (pc' := 10) (lv' := [some (.inr (.inl a0)), some (.inl a1), some (.inl a2), none]) (st' := [.inl a2, .inr (.inl a0)]) rfl ?_
    refine kX8_isBidder F hk (z_row hX8_cancel_0 6 rfl) wd_1263 (by decide) (Nat.le_of_ble_eq_true rfl) (fun x8 => ?_)
    refine z_ne hk (z_row hX8_cancel_0 7 rfl) (tgt := 20) rfl ?_ ?_
    · refine z_run hk hX8_cancel_0 10 3 (pc' := 23) (lv' := [some (.inr (.inl a0)), some (.inl a1), some (.inl a2), none]) (st' := [.inl a2, .inl a1, .inr (.inl a0), .inr (.inl a0)]) rfl ?_
      refine kX8_orderOf F hk (z_row hX8_cancel_0 13 rfl) wd_1283 (by decide) (Nat.le_of_ble_eq_true rfl) (fun x9 => ?_)
      refine z_ne hk (z_row hX8_cancel_0 14 rfl) (tgt := 33) rfl ?_ ?_
      · refine z_run hk hX8_cancel_0 17 3 (pc' := 36) (lv' := [some (.inr (.inl a0)), some (.inl a1), some (.inl a2), none]) (st' := [.inl 3, .inl a1, .inr (.inl a0), .inr (.inl a0)]) rfl ?_
        refine kX8_at F hk (z_row hX8_cancel_0 20 rfl) wd_1213 (by decide) (Nat.le_of_ble_eq_true rfl) (fun x10 => ?_)
        refine z_eq hk (z_row hX8_cancel_0 21 rfl) (tgt := 46) rfl ?_ ?_
        · refine z_run hk hX8_cancel_0 24 1 (pc' := 47) (lv' := [some (.inr (.inl a0)), some (.inl a1), some (.inl a2), none]) (st' := [.inl 0, .inr (.inl a0)]) rfl ?_
          exact gsX8_cancel_47 F n hk he a0 a1 a2 a0 0 σ
        · refine z_run hk hX8_cancel_0 22 1 (pc' := 43) (lv' := [some (.inr (.inl a0)), some (.inl a1), some (.inl a2), none]) (st' := [.inl 3, .inr (.inl a0)]) rfl ?_
          refine z_goto hk (z_row hX8_cancel_0 23 rfl) (tgt := 47) rfl ?_
          exact gsX8_cancel_47 F n hk he a0 a1 a2 a0 3 σ
      · refine z_run hk hX8_cancel_0 15 1 (pc' := 30) (lv' := [some (.inr (.inl a0)), some (.inl a1), some (.inl a2), none]) (st' := [.inl 2, .inr (.inl a0)]) rfl ?_
        refine z_goto hk (z_row hX8_cancel_0 16 rfl) (tgt := 47) rfl ?_
        exact gsX8_cancel_47 F n hk he a0 a1 a2 a0 2 σ
    · exact gsX8_cancel_16 F n hk he a0 a1 a2 a0 σ
theorem kX8_cancel {n : Nat} {own : String} {cc : ByteArray} {nL h index : Nat} {α : Type} {fin : α → zO} {σ : zW} {pc : Nat} {lv : zLV} {st : List zV} {a0 : Nat} {a1 : Int32} {a2 : Int32} {c : Int32 → zW → Option α} (F : zFx E) (hk : zk E K own cc nL h) (hd : decode cc pc = .ok (.invokevirtual index, 3)) (hl : Cond.methodLink own index qX8_cancel ∈ lw_tbl) (hh : 2 + 1 ≤ h) (hs : zcat st ≤ 8) (k : ∀ v s, zG E K fin (c v s) s (pc + 3) lv (.inl v :: st)) : zG E K fin (zck σ 9 a0 (zb2 (fX8_cancel n a0 a1 a2 σ) c)) σ pc lv (.inl a2 :: .inl a1 :: .inr (.inl a0) :: st) :=
  z_vW (n := 2) (y := qX8_cancel) (As := [.inl a1, .inl a2]) hk hd hl wd_1296 wd_1297 wd_10 wd_1298 ⟨by decide, by decide, by decide +kernel⟩ ⟨hh, by decide⟩ (ci := 8) rfl rfl rfl (fun o ho => mX8_cancel F n a0 a1 a2 σ o ho) hs k
abbrev qX8_maximum : MethodName := { cls := "LotSalesModel", name := "maximum", desc := "(II)I" }
def sX8_maximum_54 (n : Nat) (y0 : Int32) (σ : zW) : Option (Int32 × zW) := some (y0, σ)
def sX8_maximum_34 (n : Nat) (v0 : Nat) (v1 : Int32) (v2 : Int32) (y0 : Nat) (y1 : Int32) (σ : zW) : Option (Int32 × zW) := zpI σ 9 y0 0 y1 fun σ1 => zgI σ1 9 v0 0 fun x2 => if x2 = 0 then zck σ1 9 v0 (zb (fX8_orderOf n v0 v1 v2 σ1) fun x3 => sX8_maximum_54 n x3 σ1) else sX8_maximum_54 n 0 σ1
def sX8_maximum_16 (n : Nat) (v0 : Nat) (v1 : Int32) (v2 : Int32) (y0 : Nat) (σ : zW) : Option (Int32 × zW) := sX8_maximum_34 n v0 v1 v2 y0 1 σ
def fX8_maximum (n : Nat) (a0 : Nat) (a1 : Int32) (a2 : Int32) (σ : zW) : Option (Int32 × zW) := zck σ 9 a0 (zb (fX8_isLot n a0 a1 σ) fun x4 => if x4 = 0 then sX8_maximum_16 n a0 a1 a2 a0 σ else zb (fX8_isBidder n a2 σ) fun x5 => if x5 = 0 then sX8_maximum_16 n a0 a1 a2 a0 σ else zck σ 9 a0 (zb (fX8_orderOf n a0 a1 a2 σ) fun x6 => if x6 = 0 then sX8_maximum_34 n a0 a1 a2 a0 2 σ else sX8_maximum_34 n a0 a1 a2 a0 0 σ))
theorem gsX8_maximum_54 (F : zFx E) (n : Nat) (hk : zk E K "LotSalesModel" cX8_maximum 3 2) (he : zend E K (some .int) "maximum") (y0 : Int32) (σ : zW) : zG E K zfW (sX8_maximum_54 n y0 σ) σ 54 [none, none, none] [.inl y0] := by
  unfold sX8_maximum_54
  exact z_iret hk he (z_row hX8_maximum_0 28 rfl) rfl
theorem gsX8_maximum_34 (F : zFx E) (n : Nat) (hk : zk E K "LotSalesModel" cX8_maximum 3 2) (he : zend E K (some .int) "maximum") (v0 : Nat) (v1 : Int32) (v2 : Int32) (y0 : Nat) (y1 : Int32) (σ : zW) : zG E K zfW (sX8_maximum_34 n v0 v1 v2 y0 y1 σ) σ 34 [some (.inr (.inl v0)), some (.inl v1), some (.inl v2)] [.inl y1, .inr (.inl y0)] := by
  unfold sX8_maximum_34
  refine z_pI hk 0 (z_row hX8_maximum_0 18 rfl) (ci := 8) rfl rfl wd_1122 rfl rfl rfl (fun σ1 => ?_)
  refine z_run hk hX8_maximum_0 19 1 (pc' := 38) (lv' := [some (.inr (.inl v0)), some (.inl v1), some (.inl v2)]) (st' := [.inr (.inl v0)]) rfl ?_
  refine z_gI hk 0 (z_row hX8_maximum_0 20 rfl) (ci := 8) rfl rfl wd_1122 (fun x2 => ?_)
  refine z_ne hk (z_row hX8_maximum_0 21 rfl) (tgt := 53) rfl ?_ ?_
  · refine z_run hk hX8_maximum_0 27 1 (pc' := 54) (lv' := [some (.inr (.inl v0)), some (.inl v1), some (.inl v2)]) (st' := [.inl 0]) rfl ?_
    refine z_mask [false, false, false] rfl ?_
    exact gsX8_maximum_54 F n hk he 0 σ1
  · refine z_run hk hX8_maximum_0 22 3 (pc' := 47) (lv' := [some (.inr (.inl v0)), some (.inl v1), some (.inl v2)]) (st' := [.inl v2, .inl v1, .inr (.inl v0)]) rfl ?_
    refine kX8_orderOf F hk (z_row hX8_maximum_0 25 rfl) wd_1283 (by decide) (Nat.le_of_ble_eq_true rfl) (fun x3 => ?_)
    refine z_goto hk (z_row hX8_maximum_0 26 rfl) (tgt := 54) rfl ?_
    refine z_mask [false, false, false] rfl ?_
    exact gsX8_maximum_54 F n hk he x3 σ1
theorem gsX8_maximum_16 (F : zFx E) (n : Nat) (hk : zk E K "LotSalesModel" cX8_maximum 3 2) (he : zend E K (some .int) "maximum") (v0 : Nat) (v1 : Int32) (v2 : Int32) (y0 : Nat) (σ : zW) : zG E K zfW (sX8_maximum_16 n v0 v1 v2 y0 σ) σ 16 [some (.inr (.inl v0)), some (.inl v1), some (.inl v2)] [.inr (.inl y0)] := by
  unfold sX8_maximum_16
  refine z_run hk hX8_maximum_0 8 1 (pc' := 17) (lv' := [some (.inr (.inl v0)), some (.inl v1), some (.inl v2)]) (st' := [.inl 1, .inr (.inl y0)]) rfl ?_
  refine z_goto hk (z_row hX8_maximum_0 9 rfl) (tgt := 34) rfl ?_
  exact gsX8_maximum_34 F n hk he v0 v1 v2 y0 1 σ
theorem mX8_maximum (F : zFx E) (n : Nat) (a0 : Nat) (a1 : Int32) (a2 : Int32) (σ : zW) (o : Int32 × zW) (hf : fX8_maximum n a0 a1 a2 σ = some o) : zM E qX8_maximum cX8_maximum 3 (some .int) 2 [.inr (.inl a0), .inl a1, .inl a2] σ (some (.int o.1)) o.2 := by
  refine zM_of (fin := zfW) F (by decide +kernel) rfl (Nat.le_of_ble_eq_true rfl) (lv0 := [some (.inr (.inl a0)), some (.inl a1), some (.inl a2)]) rfl hf rfl (fun K hk he => ?_)
  have hk : zk E K "LotSalesModel" cX8_maximum 3 2 := hk
  unfold fX8_maximum
  refine z_run hk hX8_maximum_0 0 3 (pc' := 3) (lv' := [some (.inr (.inl a0)), some (.inl a1), some (.inl a2)]) (st' := [.inl a1, .inr (.inl a0), .inr (.inl a0)]) rfl ?_
  refine kX8_isLot F hk (z_row hX8_maximum_0 3 rfl) wd_1209 (by decide) (Nat.le_of_ble_eq_true rfl) (fun x4 => ?_)
  refine z_eq hk (z_row hX8_maximum_0 4 rfl) (tgt := 16) rfl ?_ ?_
  · exact gsX8_maximum_16 F n hk he a0 a1 a2 a0 σ
  · refine z_run hk hX8_maximum_0 5 1 (pc' := 10) (lv' := [some (.inr (.inl a0)), some (.inl a1), some (.inl a2)]) (st' := [.inl a2, .inr (.inl a0)]) rfl ?_
    refine kX8_isBidder F hk (z_row hX8_maximum_0 6 rfl) wd_1263 (by decide) (Nat.le_of_ble_eq_true rfl) (fun x5 => ?_)
    refine z_ne hk (z_row hX8_maximum_0 7 rfl) (tgt := 20) rfl ?_ ?_
    · refine z_run hk hX8_maximum_0 10 3 (pc' := 23) (lv' := [some (.inr (.inl a0)), some (.inl a1), some (.inl a2)]) (st' := [.inl a2, .inl a1, .inr (.inl a0), .inr (.inl a0)]) rfl ?_
      refine kX8_orderOf F hk (z_row hX8_maximum_0 13 rfl) wd_1283 (by decide) (Nat.le_of_ble_eq_true rfl) (fun x6 => ?_)
      refine z_ne hk (z_row hX8_maximum_0 14 rfl) (tgt := 33) rfl ?_ ?_
      · refine z_run hk hX8_maximum_0 17 1 (pc' := 34) (lv' := [some (.inr (.inl a0)), some (.inl a1), some (.inl a2)]) (st' := [.inl 0, .inr (.inl a0)]) rfl ?_
        exact gsX8_maximum_34 F n hk he a0 a1 a2 a0 0 σ
      · refine z_run hk hX8_maximum_0 15 1 (pc' := 30) (lv' := [some (.inr (.inl a0)), some (.inl a1), some (.inl a2)]) (st' := [.inl 2, .inr (.inl a0)]) rfl ?_
        refine z_goto hk (z_row hX8_maximum_0 16 rfl) (tgt := 34) rfl ?_
        exact gsX8_maximum_34 F n hk he a0 a1 a2 a0 2 σ
    · exact gsX8_maximum_16 F n hk he a0 a1 a2 a0 σ
theorem kX8_maximum {n : Nat} {own : String} {cc : ByteArray} {nL h index : Nat} {α : Type} {fin : α → zO} {σ : zW} {pc : Nat} {lv : zLV} {st : List zV} {a0 : Nat} {a1 : Int32} {a2 : Int32} {c : Int32 → zW → Option α} (F : zFx E) (hk : zk E K own cc nL h) (hd : decode cc pc = .ok (.invokevirtual index, 3)) (hl : Cond.methodLink own index qX8_maximum ∈ lw_tbl) (hh : 2 + 1 ≤ h) (hs : zcat st ≤ 8) (k : ∀ v s, zG E K fin (c v s) s (pc + 3) lv (.inl v :: st)) : zG E K fin (zck σ 9 a0 (zb2 (fX8_maximum n a0 a1 a2 σ) c)) σ pc lv (.inl a2 :: .inl a1 :: .inr (.inl a0) :: st) :=
  z_vW (n := 2) (y := qX8_maximum) (As := [.inl a1, .inl a2]) hk hd hl wd_1300 wd_1301 wd_10 wd_1302 ⟨by decide, by decide, by decide +kernel⟩ ⟨hh, by decide⟩ (ci := 8) rfl rfl rfl (fun o ho => mX8_maximum F n a0 a1 a2 σ o ho) hs k
abbrev qX8_orders : MethodName := { cls := "LotSalesModel", name := "orders", desc := "(I)I" }
def sX8_orders_38 (n : Nat) (y0 : Int32) (σ : zW) : Option (Int32 × zW) := some (y0, σ)
def fX8_orders (n : Nat) (a0 : Nat) (a1 : Int32) (σ : zW) : Option (Int32 × zW) := zpI σ 9 a0 0 0 fun σ1 => if a1 = (-1) then zck σ1 9 a0 (zb (fX8_allOrders n a0 σ1) fun x6 => sX8_orders_38 n x6 σ1) else zck σ1 9 a0 (zb (fX8_isLot n a0 a1 σ1) fun x2 => if x2 = 0 then zck σ1 9 a0 (zb2 (fX8_fail n a0 1 σ1) fun x3 σ4 => sX8_orders_38 n x3 σ4) else zck σ1 9 a0 (zb (fX8_ordersOf n a0 a1 σ1) fun x5 => sX8_orders_38 n x5 σ1))
theorem gsX8_orders_38 (F : zFx E) (n : Nat) (hk : zk E K "LotSalesModel" cX8_orders 2 3) (he : zend E K (some .int) "orders") (y0 : Int32) (σ : zW) : zG E K zfW (sX8_orders_38 n y0 σ) σ 38 [none, none] [.inl y0] := by
  unfold sX8_orders_38
  exact z_iret hk he (z_row hX8_orders_0 20 rfl) rfl
theorem mX8_orders (F : zFx E) (n : Nat) (a0 : Nat) (a1 : Int32) (σ : zW) (o : Int32 × zW) (hf : fX8_orders n a0 a1 σ = some o) : zM E qX8_orders cX8_orders 2 (some .int) 3 [.inr (.inl a0), .inl a1] σ (some (.int o.1)) o.2 := by
  refine zM_of (fin := zfW) F (by decide +kernel) rfl (Nat.le_of_ble_eq_true rfl) (lv0 := [some (.inr (.inl a0)), some (.inl a1)]) rfl hf rfl (fun K hk he => ?_)
  have hk : zk E K "LotSalesModel" cX8_orders 2 3 := hk
  unfold fX8_orders
  refine z_run hk hX8_orders_0 0 2 (pc' := 2) (lv' := [some (.inr (.inl a0)), some (.inl a1)]) (st' := [.inl 0, .inr (.inl a0)]) rfl ?_
  refine z_pI hk 0 (z_row hX8_orders_0 2 rfl) (ci := 8) rfl rfl wd_1122 rfl rfl rfl (fun σ1 => ?_)
  refine z_run hk hX8_orders_0 3 2 (pc' := 7) (lv' := [some (.inr (.inl a0)), some (.inl a1)]) (st' := [.inl (-1), .inl a1]) rfl ?_
  refine z_cne hk (z_row hX8_orders_0 5 rfl) (tgt := 17) rfl ?_ ?_
  · refine z_run hk hX8_orders_0 9 2 (pc' := 19) (lv' := [some (.inr (.inl a0)), some (.inl a1)]) (st' := [.inl a1, .inr (.inl a0)]) rfl ?_
    refine kX8_isLot F hk (z_row hX8_orders_0 11 rfl) wd_1209 (by decide) (Nat.le_of_ble_eq_true rfl) (fun x2 => ?_)
    refine z_eq hk (z_row hX8_orders_0 12 rfl) (tgt := 33) rfl ?_ ?_
    · refine z_run hk hX8_orders_0 17 2 (pc' := 35) (lv' := [some (.inr (.inl a0)), some (.inl a1)]) (st' := [.inl 1, .inr (.inl a0)]) rfl ?_
      refine kX8_fail F hk (z_row hX8_orders_0 19 rfl) wd_1221 (by decide) (Nat.le_of_ble_eq_true rfl) (fun x3 σ4 => ?_)
      refine z_mask [false, false] rfl ?_
      exact gsX8_orders_38 F n hk he x3 σ4
    · refine z_run hk hX8_orders_0 13 2 (pc' := 27) (lv' := [some (.inr (.inl a0)), some (.inl a1)]) (st' := [.inl a1, .inr (.inl a0)]) rfl ?_
      refine kX8_ordersOf F hk (z_row hX8_orders_0 15 rfl) wd_1279 (by decide) (Nat.le_of_ble_eq_true rfl) (fun x5 => ?_)
      refine z_goto hk (z_row hX8_orders_0 16 rfl) (tgt := 38) rfl ?_
      refine z_mask [false, false] rfl ?_
      exact gsX8_orders_38 F n hk he x5 σ1
  · refine z_run hk hX8_orders_0 6 1 (pc' := 11) (lv' := [some (.inr (.inl a0)), some (.inl a1)]) (st' := [.inr (.inl a0)]) rfl ?_
    refine kX8_allOrders F hk (z_row hX8_orders_0 7 rfl) wd_1275 (by decide) (Nat.le_of_ble_eq_true rfl) (fun x6 => ?_)
    refine z_goto hk (z_row hX8_orders_0 8 rfl) (tgt := 38) rfl ?_
    refine z_mask [false, false] rfl ?_
    exact gsX8_orders_38 F n hk he x6 σ1
theorem kX8_orders {n : Nat} {own : String} {cc : ByteArray} {nL h index : Nat} {α : Type} {fin : α → zO} {σ : zW} {pc : Nat} {lv : zLV} {st : List zV} {a0 : Nat} {a1 : Int32} {c : Int32 → zW → Option α} (F : zFx E) (hk : zk E K own cc nL h) (hd : decode cc pc = .ok (.invokevirtual index, 3)) (hl : Cond.methodLink own index qX8_orders ∈ lw_tbl) (hh : 3 + 1 ≤ h) (hs : zcat st ≤ 8) (k : ∀ v s, zG E K fin (c v s) s (pc + 3) lv (.inl v :: st)) : zG E K fin (zck σ 9 a0 (zb2 (fX8_orders n a0 a1 σ) c)) σ pc lv (.inl a1 :: .inr (.inl a0) :: st) :=
  z_vW (n := 1) (y := qX8_orders) (As := [.inl a1]) hk hd hl wd_1304 wd_1305 wd_10 wd_1306 ⟨by decide, by decide, by decide +kernel⟩ ⟨hh, by decide⟩ (ci := 8) rfl rfl rfl (fun o ho => mX8_orders F n a0 a1 σ o ho) hs k
abbrev qX8_open : MethodName := { cls := "LotSalesModel", name := "open", desc := "(I)I" }
def sX8_open_66 (n : Nat) : Nat → Nat → Int32 → Int32 → zW → Option (Int32 × zW)
  | 0, _, _, _, _ => none
  | k + 1, v0, v1, v2, σ => if v2 < 10 then zck σ 9 v0 (zb (fX8_putBid n v0 v1 v2 0 0 σ) fun σ4 => sX8_open_66 n k v0 v1 (v2 + 1) σ4) else zck σ 9 v0 (zb (fX8_note n v0 1 v1 (-1) 0 σ) fun σ1 => zck σ1 9 v0 (zb (fX8_stand n v0 v1 σ1) fun σ2 => zgI σ2 9 v0 10 fun x3 => some (x3, σ2)))
def sX8_open_27 (n : Nat) (v0 : Nat) (v1 : Int32) (y0 : Nat) (y1 : Int32) (σ : zW) : Option (Int32 × zW) := zpI σ 9 y0 0 y1 fun σ5 => zgI σ5 9 v0 0 fun x6 => if x6 = 0 then zck σ5 9 v0 (zb (fX8_keep n v0 σ5) fun σ7 => zck σ7 9 v0 (zb (fX8_set n v0 v1 3 1 σ7) fun σ8 => zck σ8 9 v0 (zb (fX8_at n v0 v1 4 σ8) fun x9 => zck σ8 9 v0 (zb (fX8_set n v0 v1 4 (x9 + 1) σ8) fun σ10 => sX8_open_66 n n v0 v1 0 σ10)))) else some (0, σ5)
def fX8_open (n : Nat) (a0 : Nat) (a1 : Int32) (σ : zW) : Option (Int32 × zW) := zck σ 9 a0 (zb (fX8_isLot n a0 a1 σ) fun x11 => if x11 = 0 then sX8_open_27 n a0 a1 a0 1 σ else zck σ 9 a0 (zb (fX8_at n a0 a1 3 σ) fun x12 => if x12 = 0 then sX8_open_27 n a0 a1 a0 0 σ else sX8_open_27 n a0 a1 a0 2 σ))
theorem gsX8_open_66 (F : zFx E) (n : Nat) (hk : zk E K "LotSalesModel" cX8_open 3 7) (he : zend E K (some .int) "open") : ∀ (k : Nat) (v0 : Nat) (v1 : Int32) (v2 : Int32) (σ : zW), zG E K zfW (sX8_open_66 n k v0 v1 v2 σ) σ 66 [some (.inr (.inl v0)), some (.inl v1), some (.inl v2)] [] := by
  intro k
  induction k with
  | zero =>
    intro v0 v1 v2 σ
    intro hX
    exact z_none hX
  | succ k ih =>
    intro v0 v1 v2 σ
    rw [sX8_open_66]
    refine z_run hk hX8_open_0 40 2 (pc' := 69) (lv' := [some (.inr (.inl v0)), some (.inl v1), some (.inl v2)]) (st' := [.inl 10, .inl v2]) rfl ?_
    refine z_cge hk (z_row hX8_open_0 42 rfl) (tgt := 86) rfl ?_ ?_
    · refine z_run hk hX8_open_0 51 5 (pc' := 91) (lv' := [some (.inr (.inl v0)), some (.inl v1), some (.inl v2)]) (st' := [.inl 0, .inl (-1), .inl v1, .inl 1, .inr (.inl v0)]) rfl ?_
      refine kX8_note F hk (z_row hX8_open_0 56 rfl) wd_1291 (by decide) (Nat.le_of_ble_eq_true rfl) (fun σ1 => ?_)
      refine z_run hk hX8_open_0 57 2 (pc' := 96) (lv' := [some (.inr (.inl v0)), some (.inl v1), some (.inl v2)]) (st' := [.inl v1, .inr (.inl v0)]) rfl ?_
      refine kX8_stand F hk (z_row hX8_open_0 59 rfl) wd_1311 (by decide) (Nat.le_of_ble_eq_true rfl) (fun σ2 => ?_)
      refine z_run hk hX8_open_1 0 1 (pc' := 100) (lv' := [some (.inr (.inl v0)), some (.inl v1), some (.inl v2)]) (st' := [.inr (.inl v0)]) rfl ?_
      refine z_gI hk 10 (z_row hX8_open_1 1 rfl) (ci := 8) rfl rfl wd_1132 (fun x3 => ?_)
      exact z_iret hk he (z_row hX8_open_1 2 rfl) rfl
    · refine z_run hk hX8_open_0 43 5 (pc' := 77) (lv' := [some (.inr (.inl v0)), some (.inl v1), some (.inl v2)]) (st' := [.inl 0, .inl 0, .inl v2, .inl v1, .inr (.inl v0)]) rfl ?_
      refine kX8_putBid F hk (z_row hX8_open_0 48 rfl) wd_1201 (by decide) (Nat.le_of_ble_eq_true rfl) (fun σ4 => ?_)
      refine z_run hk hX8_open_0 49 1 (pc' := 83) (lv' := [some (.inr (.inl v0)), some (.inl v1), some (.inl (v2 + 1))]) (st' := []) rfl ?_
      refine z_goto hk (z_row hX8_open_0 50 rfl) (tgt := 66) rfl ?_
      exact ih v0 v1 (v2 + 1) σ4
theorem gsX8_open_27 (F : zFx E) (n : Nat) (hk : zk E K "LotSalesModel" cX8_open 3 7) (he : zend E K (some .int) "open") (v0 : Nat) (v1 : Int32) (y0 : Nat) (y1 : Int32) (σ : zW) : zG E K zfW (sX8_open_27 n v0 v1 y0 y1 σ) σ 27 [some (.inr (.inl v0)), some (.inl v1), none] [.inl y1, .inr (.inl y0)] := by
  unfold sX8_open_27
  refine z_pI hk 0 (z_row hX8_open_0 15 rfl) (ci := 8) rfl rfl wd_1122 rfl rfl rfl (fun σ5 => ?_)
  refine z_run hk hX8_open_0 16 1 (pc' := 31) (lv' := [some (.inr (.inl v0)), some (.inl v1), none]) (st' := [.inr (.inl v0)]) rfl ?_
  refine z_gI hk 0 (z_row hX8_open_0 17 rfl) (ci := 8) rfl rfl wd_1122 (fun x6 => ?_)
  refine z_eq hk (z_row hX8_open_0 18 rfl) (tgt := 39) rfl ?_ ?_
  · refine z_run hk hX8_open_0 21 1 (pc' := 40) (lv' := [some (.inr (.inl v0)), some (.inl v1), none]) (st' := [.inr (.inl v0)]) rfl ?_
    refine kX8_keep F hk (z_row hX8_open_0 22 rfl) wd_1185 (by decide) (Nat.le_of_ble_eq_true rfl) (fun σ7 => ?_)
    refine z_run hk hX8_open_0 23 4 (pc' := 47) (lv' := [some (.inr (.inl v0)), some (.inl v1), none]) (st' := [.inl 1, .inl 3, .inl v1, .inr (.inl v0)]) rfl ?_
    refine kX8_set F hk (z_row hX8_open_0 27 rfl) wd_1193 (by decide) (Nat.le_of_ble_eq_true rfl) (fun σ8 => ?_)
    refine z_run hk hX8_open_0 28 6 (pc' := 56) (lv' := [some (.inr (.inl v0)), some (.inl v1), none]) (st' := [.inl 4, .inl v1, .inr (.inl v0), .inl 4, .inl v1, .inr (.inl v0)]) rfl ?_
    refine kX8_at F hk (z_row hX8_open_0 34 rfl) wd_1213 (by decide) (Nat.le_of_ble_eq_true rfl) (fun x9 => ?_)
    refine z_run hk hX8_open_0 35 2 (pc' := 61) (lv' := [some (.inr (.inl v0)), some (.inl v1), none]) (st' := [.inl (x9 + 1), .inl 4, .inl v1, .inr (.inl v0)]) rfl ?_
    refine kX8_set F hk (z_row hX8_open_0 37 rfl) wd_1193 (by decide) (Nat.le_of_ble_eq_true rfl) (fun σ10 => ?_)
    refine z_run hk hX8_open_0 38 2 (pc' := 66) (lv' := [some (.inr (.inl v0)), some (.inl v1), some (.inl 0)]) (st' := []) rfl ?_
    exact gsX8_open_66 F n hk he n v0 v1 0 σ10
  · refine z_run hk hX8_open_0 19 1 (pc' := 38) (lv' := [some (.inr (.inl v0)), some (.inl v1), none]) (st' := [.inl 0]) rfl ?_
    exact z_iret hk he (z_row hX8_open_0 20 rfl) rfl
theorem mX8_open (F : zFx E) (n : Nat) (a0 : Nat) (a1 : Int32) (σ : zW) (o : Int32 × zW) (hf : fX8_open n a0 a1 σ = some o) : zM E qX8_open cX8_open 3 (some .int) 7 [.inr (.inl a0), .inl a1] σ (some (.int o.1)) o.2 := by
  refine zM_of (fin := zfW) F (by decide +kernel) rfl (Nat.le_of_ble_eq_true rfl) (lv0 := [some (.inr (.inl a0)), some (.inl a1), none]) rfl hf rfl (fun K hk he => ?_)
  have hk : zk E K "LotSalesModel" cX8_open 3 7 := hk
  unfold fX8_open
  refine z_run hk hX8_open_0 0 3 (pc' := 3) (lv' := [some (.inr (.inl a0)), some (.inl a1), none]) (st' := [.inl a1, .inr (.inl a0), .inr (.inl a0)]) rfl ?_
  refine kX8_isLot F hk (z_row hX8_open_0 3 rfl) wd_1209 (by decide) (Nat.le_of_ble_eq_true rfl) (fun x11 => ?_)
  refine z_ne hk (z_row hX8_open_0 4 rfl) (tgt := 13) rfl ?_ ?_
  · refine z_run hk hX8_open_0 7 3 (pc' := 16) (lv' := [some (.inr (.inl a0)), some (.inl a1), none]) (st' := [.inl 3, .inl a1, .inr (.inl a0), .inr (.inl a0)]) rfl ?_
    refine kX8_at F hk (z_row hX8_open_0 10 rfl) wd_1213 (by decide) (Nat.le_of_ble_eq_true rfl) (fun x12 => ?_)
    refine z_eq hk (z_row hX8_open_0 11 rfl) (tgt := 26) rfl ?_ ?_
    · refine z_run hk hX8_open_0 14 1 (pc' := 27) (lv' := [some (.inr (.inl a0)), some (.inl a1), none]) (st' := [.inl 0, .inr (.inl a0)]) rfl ?_
      exact gsX8_open_27 F n hk he a0 a1 a0 0 σ
    · refine z_run hk hX8_open_0 12 1 (pc' := 23) (lv' := [some (.inr (.inl a0)), some (.inl a1), none]) (st' := [.inl 2, .inr (.inl a0)]) rfl ?_
      refine z_goto hk (z_row hX8_open_0 13 rfl) (tgt := 27) rfl ?_
      exact gsX8_open_27 F n hk he a0 a1 a0 2 σ
  · refine z_run hk hX8_open_0 5 1 (pc' := 10) (lv' := [some (.inr (.inl a0)), some (.inl a1), none]) (st' := [.inl 1, .inr (.inl a0)]) rfl ?_
    refine z_goto hk (z_row hX8_open_0 6 rfl) (tgt := 27) rfl ?_
    exact gsX8_open_27 F n hk he a0 a1 a0 1 σ
theorem kX8_open {n : Nat} {own : String} {cc : ByteArray} {nL h index : Nat} {α : Type} {fin : α → zO} {σ : zW} {pc : Nat} {lv : zLV} {st : List zV} {a0 : Nat} {a1 : Int32} {c : Int32 → zW → Option α} (F : zFx E) (hk : zk E K own cc nL h) (hd : decode cc pc = .ok (.invokevirtual index, 3)) (hl : Cond.methodLink own index qX8_open ∈ lw_tbl) (hh : 7 + 1 ≤ h) (hs : zcat st ≤ 8) (k : ∀ v s, zG E K fin (c v s) s (pc + 3) lv (.inl v :: st)) : zG E K fin (zck σ 9 a0 (zb2 (fX8_open n a0 a1 σ) c)) σ pc lv (.inl a1 :: .inr (.inl a0) :: st) :=
  z_vW (n := 1) (y := qX8_open) (As := [.inl a1]) hk hd hl wd_1308 wd_1309 wd_10 wd_1310 ⟨by decide, by decide, by decide +kernel⟩ ⟨hh, by decide⟩ (ci := 8) rfl rfl rfl (fun o ho => mX8_open F n a0 a1 σ o ho) hs k
abbrev qX8_bid : MethodName := { cls := "LotSalesModel", name := "bid", desc := "(III)I" }
def sX8_bid_35 (n : Nat) (v0 : Nat) (v1 : Int32) (v2 : Int32) (v3 : Int32) (y0 : Nat) (y1 : Int32) (σ : zW) : Option (Int32 × zW) := zpI σ 9 y0 0 y1 fun σ1 => zgI σ1 9 v0 0 fun x2 => if x2 = 0 then zck σ1 9 v0 (zb2 (fX8_bidRefusal n v0 v1 v2 v3 σ1) fun x3 σ4 => if x3 = 0 then zck σ4 9 v0 (zb (fX8_keep n v0 σ4) fun σ5 => zck σ5 9 v0 (zb2 (fX8_nextNumber n v0 σ5) fun x6 σ7 => zck σ7 9 v0 (zb (fX8_putBid n v0 v1 v2 v3 x6 σ7) fun σ8 => zck σ8 9 v0 (zb (fX8_note n v0 2 v1 v2 v3 σ8) fun σ9 => zck σ9 9 v0 (zb (fX8_stand n v0 v1 σ9) fun σ10 => zgI σ10 9 v0 10 fun x11 => some (x11, σ10)))))) else zpI σ4 9 v0 6 x3 fun σ12 => zck σ12 9 v0 (zb2 (fX8_fail n v0 3 σ12) fun x13 σ14 => some (x13, σ14))) else some (0, σ1)
def sX8_bid_16 (n : Nat) (v0 : Nat) (v1 : Int32) (v2 : Int32) (v3 : Int32) (y0 : Nat) (σ : zW) : Option (Int32 × zW) := sX8_bid_35 n v0 v1 v2 v3 y0 1 σ
def fX8_bid (n : Nat) (a0 : Nat) (a1 : Int32) (a2 : Int32) (a3 : Int32) (σ : zW) : Option (Int32 × zW) := zck σ 9 a0 (zb (fX8_isLot n a0 a1 σ) fun x15 => if x15 = 0 then sX8_bid_16 n a0 a1 a2 a3 a0 σ else zb (fX8_isBidder n a2 σ) fun x16 => if x16 = 0 then sX8_bid_16 n a0 a1 a2 a3 a0 σ else zb (fX8_isIn n a3 1 99999 σ) fun x17 => if x17 = 0 then sX8_bid_35 n a0 a1 a2 a3 a0 2 σ else sX8_bid_35 n a0 a1 a2 a3 a0 0 σ)
theorem gsX8_bid_35 (F : zFx E) (n : Nat) (hk : zk E K "LotSalesModel" cX8_bid 5 10) (he : zend E K (some .int) "bid") (v0 : Nat) (v1 : Int32) (v2 : Int32) (v3 : Int32) (y0 : Nat) (y1 : Int32) (σ : zW) : zG E K zfW (sX8_bid_35 n v0 v1 v2 v3 y0 y1 σ) σ 35 [some (.inr (.inl v0)), some (.inl v1), some (.inl v2), some (.inl v3), none] [.inl y1, .inr (.inl y0)] := by
  unfold sX8_bid_35
  refine z_pI hk 0 (z_row hX8_bid_0 18 rfl) (ci := 8) rfl rfl wd_1122 rfl rfl rfl (fun σ1 => ?_)
  refine z_run hk hX8_bid_0 19 1 (pc' := 39) (lv' := [some (.inr (.inl v0)), some (.inl v1), some (.inl v2), some (.inl v3), none]) (st' := [.inr (.inl v0)]) rfl ?_
  refine z_gI hk 0 (z_row hX8_bid_0 20 rfl) (ci := 8) rfl rfl wd_1122 (fun x2 => ?_)
  refine z_eq hk (z_row hX8_bid_0 21 rfl) (tgt := 47) rfl ?_ ?_
  · refine z_run hk hX8_bid_0 24 4 (pc' := 51) (lv' := [some (.inr (.inl v0)), some (.inl v1), some (.inl v2), some (.inl v3), none]) (st' := [.inl v3, .inl v2, .inl v1, .inr (.inl v0)]) rfl ?_
    refine kX8_bidRefusal F hk (z_row hX8_bid_0 28 rfl) wd_1341 (by decide) (Nat.le_of_ble_eq_true rfl) (fun x3 σ4 => ?_)
    refine z_run hk hX8_bid_0 29 2 (pc' := 58) (lv' := [some (.inr (.inl v0)), some (.inl v1), some (.inl v2), some (.inl v3), some (.inl x3)]) (st' := [.inl x3]) rfl ?_
    refine z_eq hk (z_row hX8_bid_0 31 rfl) (tgt := 73) rfl ?_ ?_
    · refine z_run hk hX8_bid_0 39 1 (pc' := 74) (lv' := [some (.inr (.inl v0)), some (.inl v1), some (.inl v2), some (.inl v3), some (.inl x3)]) (st' := [.inr (.inl v0)]) rfl ?_
      refine kX8_keep F hk (z_row hX8_bid_0 40 rfl) wd_1185 (by decide) (Nat.le_of_ble_eq_true rfl) (fun σ5 => ?_)
      refine z_run hk hX8_bid_0 41 5 (pc' := 82) (lv' := [some (.inr (.inl v0)), some (.inl v1), some (.inl v2), some (.inl v3), some (.inl x3)]) (st' := [.inr (.inl v0), .inl v3, .inl v2, .inl v1, .inr (.inl v0)]) rfl ?_
      refine kX8_nextNumber F hk (z_row hX8_bid_0 46 rfl) wd_1287 (by decide) (Nat.le_of_ble_eq_true rfl) (fun x6 σ7 => ?_)
      refine kX8_putBid F hk (z_row hX8_bid_0 47 rfl) wd_1201 (by decide) (Nat.le_of_ble_eq_true rfl) (fun σ8 => ?_)
      refine z_run hk hX8_bid_0 48 5 (pc' := 93) (lv' := [some (.inr (.inl v0)), some (.inl v1), some (.inl v2), some (.inl v3), some (.inl x3)]) (st' := [.inl v3, .inl v2, .inl v1, .inl 2, .inr (.inl v0)]) rfl ?_
      refine kX8_note F hk (z_row hX8_bid_0 53 rfl) wd_1291 (by decide) (Nat.le_of_ble_eq_true rfl) (fun σ9 => ?_)
      refine z_run hk hX8_bid_0 54 2 (pc' := 98) (lv' := [some (.inr (.inl v0)), some (.inl v1), some (.inl v2), some (.inl v3), some (.inl x3)]) (st' := [.inl v1, .inr (.inl v0)]) rfl ?_
      refine kX8_stand F hk (z_row hX8_bid_0 56 rfl) wd_1311 (by decide) (Nat.le_of_ble_eq_true rfl) (fun σ10 => ?_)
      refine z_run hk hX8_bid_0 57 1 (pc' := 102) (lv' := [some (.inr (.inl v0)), some (.inl v1), some (.inl v2), some (.inl v3), some (.inl x3)]) (st' := [.inr (.inl v0)]) rfl ?_
      refine z_gI hk 10 (z_row hX8_bid_0 58 rfl) (ci := 8) rfl rfl wd_1132 (fun x11 => ?_)
      exact z_iret hk he (z_row hX8_bid_0 59 rfl) rfl
    · refine z_run hk hX8_bid_0 32 2 (pc' := 64) (lv' := [some (.inr (.inl v0)), some (.inl v1), some (.inl v2), some (.inl v3), some (.inl x3)]) (st' := [.inl x3, .inr (.inl v0)]) rfl ?_
      refine z_pI hk 6 (z_row hX8_bid_0 34 rfl) (ci := 8) rfl rfl wd_1128 rfl rfl rfl (fun σ12 => ?_)
      refine z_run hk hX8_bid_0 35 2 (pc' := 69) (lv' := [some (.inr (.inl v0)), some (.inl v1), some (.inl v2), some (.inl v3), some (.inl x3)]) (st' := [.inl 3, .inr (.inl v0)]) rfl ?_
      refine kX8_fail F hk (z_row hX8_bid_0 37 rfl) wd_1221 (by decide) (Nat.le_of_ble_eq_true rfl) (fun x13 σ14 => ?_)
      exact z_iret hk he (z_row hX8_bid_0 38 rfl) rfl
  · refine z_run hk hX8_bid_0 22 1 (pc' := 46) (lv' := [some (.inr (.inl v0)), some (.inl v1), some (.inl v2), some (.inl v3), none]) (st' := [.inl 0]) rfl ?_
    exact z_iret hk he (z_row hX8_bid_0 23 rfl) rfl
theorem gsX8_bid_16 (F : zFx E) (n : Nat) (hk : zk E K "LotSalesModel" cX8_bid 5 10) (he : zend E K (some .int) "bid") (v0 : Nat) (v1 : Int32) (v2 : Int32) (v3 : Int32) (y0 : Nat) (σ : zW) : zG E K zfW (sX8_bid_16 n v0 v1 v2 v3 y0 σ) σ 16 [some (.inr (.inl v0)), some (.inl v1), some (.inl v2), some (.inl v3), none] [.inr (.inl y0)] := by
  unfold sX8_bid_16
  refine z_run hk hX8_bid_0 8 1 (pc' := 17) (lv' := [some (.inr (.inl v0)), some (.inl v1), some (.inl v2), some (.inl v3), none]) (st' := [.inl 1, .inr (.inl y0)]) rfl ?_
  refine z_goto hk (z_row hX8_bid_0 9 rfl) (tgt := 35) rfl ?_
  exact gsX8_bid_35 F n hk he v0 v1 v2 v3 y0 1 σ
theorem mX8_bid (F : zFx E) (n : Nat) (a0 : Nat) (a1 : Int32) (a2 : Int32) (a3 : Int32) (σ : zW) (o : Int32 × zW) (hf : fX8_bid n a0 a1 a2 a3 σ = some o) : zM E qX8_bid cX8_bid 5 (some .int) 10 [.inr (.inl a0), .inl a1, .inl a2, .inl a3] σ (some (.int o.1)) o.2 := by
  refine zM_of (fin := zfW) F (by decide +kernel) rfl (Nat.le_of_ble_eq_true rfl) (lv0 := [some (.inr (.inl a0)), some (.inl a1), some (.inl a2), some (.inl a3), none]) rfl hf rfl (fun K hk he => ?_)
  have hk : zk E K "LotSalesModel" cX8_bid 5 10 := hk
  unfold fX8_bid
  refine z_run hk hX8_bid_0 0 3 (pc' := 3) (lv' := [some (.inr (.inl a0)), some (.inl a1), some (.inl a2), some (.inl a3), none]) (st' := [.inl a1, .inr (.inl a0), .inr (.inl a0)]) rfl ?_
  refine kX8_isLot F hk (z_row hX8_bid_0 3 rfl) wd_1209 (by decide) (Nat.le_of_ble_eq_true rfl) (fun x15 => ?_)
  refine z_eq hk (z_row hX8_bid_0 4 rfl) (tgt := 16) rfl ?_ ?_
  · exact gsX8_bid_16 F n hk he a0 a1 a2 a3 a0 σ
  · refine z_run hk hX8_bid_0 5 1 (pc' := 10) (lv' := [some (.inr (.inl a0)), some (.inl a1), some (.inl a2), some (.inl a3), none]) (st' := [.inl a2, .inr (.inl a0)]) rfl ?_
    refine kX8_isBidder F hk (z_row hX8_bid_0 6 rfl) wd_1263 (by decide) (Nat.le_of_ble_eq_true rfl) (fun x16 => ?_)
    refine z_ne hk (z_row hX8_bid_0 7 rfl) (tgt := 20) rfl ?_ ?_
    · refine z_run hk hX8_bid_0 10 2 (pc' := 22) (lv' := [some (.inr (.inl a0)), some (.inl a1), some (.inl a2), some (.inl a3), none]) (st' := [.inl 1, .inl a3, .inr (.inl a0)]) rfl ?_
      refine z_ldc hk (z_row hX8_bid_0 12 rfl) wd_1241 ?_
      refine kX8_isIn F hk (z_row hX8_bid_0 13 rfl) wd_1181 (by decide) (Nat.le_of_ble_eq_true rfl) (fun x17 => ?_)
      refine z_ne hk (z_row hX8_bid_0 14 rfl) (tgt := 34) rfl ?_ ?_
      · refine z_run hk hX8_bid_0 17 1 (pc' := 35) (lv' := [some (.inr (.inl a0)), some (.inl a1), some (.inl a2), some (.inl a3), none]) (st' := [.inl 0, .inr (.inl a0)]) rfl ?_
        exact gsX8_bid_35 F n hk he a0 a1 a2 a3 a0 0 σ
      · refine z_run hk hX8_bid_0 15 1 (pc' := 31) (lv' := [some (.inr (.inl a0)), some (.inl a1), some (.inl a2), some (.inl a3), none]) (st' := [.inl 2, .inr (.inl a0)]) rfl ?_
        refine z_goto hk (z_row hX8_bid_0 16 rfl) (tgt := 35) rfl ?_
        exact gsX8_bid_35 F n hk he a0 a1 a2 a3 a0 2 σ
    · exact gsX8_bid_16 F n hk he a0 a1 a2 a3 a0 σ
theorem kX8_bid {n : Nat} {own : String} {cc : ByteArray} {nL h index : Nat} {α : Type} {fin : α → zO} {σ : zW} {pc : Nat} {lv : zLV} {st : List zV} {a0 : Nat} {a1 : Int32} {a2 : Int32} {a3 : Int32} {c : Int32 → zW → Option α} (F : zFx E) (hk : zk E K own cc nL h) (hd : decode cc pc = .ok (.invokevirtual index, 3)) (hl : Cond.methodLink own index qX8_bid ∈ lw_tbl) (hh : 10 + 1 ≤ h) (hs : zcat st ≤ 8) (k : ∀ v s, zG E K fin (c v s) s (pc + 3) lv (.inl v :: st)) : zG E K fin (zck σ 9 a0 (zb2 (fX8_bid n a0 a1 a2 a3 σ) c)) σ pc lv (.inl a3 :: .inl a2 :: .inl a1 :: .inr (.inl a0) :: st) :=
  z_vW (n := 3) (y := qX8_bid) (As := [.inl a1, .inl a2, .inl a3]) hk hd hl wd_1338 wd_1339 wd_10 wd_1340 ⟨by decide, by decide, by decide +kernel⟩ ⟨hh, by decide⟩ (ci := 8) rfl rfl rfl (fun o ho => mX8_bid F n a0 a1 a2 a3 σ o ho) hs k
abbrev qX8_refusal : MethodName := { cls := "LotSalesModel", name := "refusal", desc := "()I" }
def sX8_refusal_24 (n : Nat) (y0 : Int32) (σ : zW) : Option (Int32 × zW) := some (y0, σ)
def fX8_refusal (n : Nat) (a0 : Nat) (σ : zW) : Option (Int32 × zW) := zpI σ 9 a0 0 0 fun σ1 => zgI σ1 9 a0 6 fun x2 => if x2 = 0 then zck σ1 9 a0 (zb2 (fX8_fail n a0 1 σ1) fun x4 σ5 => sX8_refusal_24 n x4 σ5) else zgI σ1 9 a0 6 fun x3 => sX8_refusal_24 n x3 σ1
theorem gsX8_refusal_24 (F : zFx E) (n : Nat) (hk : zk E K "LotSalesModel" cX8_refusal 1 1) (he : zend E K (some .int) "refusal") (y0 : Int32) (σ : zW) : zG E K zfW (sX8_refusal_24 n y0 σ) σ 24 [none] [.inl y0] := by
  unfold sX8_refusal_24
  exact z_iret hk he (z_row hX8_refusal_0 12 rfl) rfl
theorem mX8_refusal (F : zFx E) (n : Nat) (a0 : Nat) (σ : zW) (o : Int32 × zW) (hf : fX8_refusal n a0 σ = some o) : zM E qX8_refusal cX8_refusal 1 (some .int) 1 [.inr (.inl a0)] σ (some (.int o.1)) o.2 := by
  refine zM_of (fin := zfW) F (by decide +kernel) rfl (Nat.le_of_ble_eq_true rfl) (lv0 := [some (.inr (.inl a0))]) rfl hf rfl (fun K hk he => ?_)
  have hk : zk E K "LotSalesModel" cX8_refusal 1 1 := hk
  unfold fX8_refusal
  refine z_run hk hX8_refusal_0 0 2 (pc' := 2) (lv' := [some (.inr (.inl a0))]) (st' := [.inl 0, .inr (.inl a0)]) rfl ?_
  refine z_pI hk 0 (z_row hX8_refusal_0 2 rfl) (ci := 8) rfl rfl wd_1122 rfl rfl rfl (fun σ1 => ?_)
  refine z_run hk hX8_refusal_0 3 1 (pc' := 6) (lv' := [some (.inr (.inl a0))]) (st' := [.inr (.inl a0)]) rfl ?_
  refine z_gI hk 6 (z_row hX8_refusal_0 4 rfl) (ci := 8) rfl rfl wd_1128 (fun x2 => ?_)
  refine z_ne hk (z_row hX8_refusal_0 5 rfl) (tgt := 20) rfl ?_ ?_
  · refine z_run hk hX8_refusal_0 10 1 (pc' := 21) (lv' := [some (.inr (.inl a0))]) (st' := [.inr (.inl a0)]) rfl ?_
    refine z_gI hk 6 (z_row hX8_refusal_0 11 rfl) (ci := 8) rfl rfl wd_1128 (fun x3 => ?_)
    refine z_mask [false] rfl ?_
    exact gsX8_refusal_24 F n hk he x3 σ1
  · refine z_run hk hX8_refusal_0 6 2 (pc' := 14) (lv' := [some (.inr (.inl a0))]) (st' := [.inl 1, .inr (.inl a0)]) rfl ?_
    refine kX8_fail F hk (z_row hX8_refusal_0 8 rfl) wd_1221 (by decide) (Nat.le_of_ble_eq_true rfl) (fun x4 σ5 => ?_)
    refine z_goto hk (z_row hX8_refusal_0 9 rfl) (tgt := 24) rfl ?_
    refine z_mask [false] rfl ?_
    exact gsX8_refusal_24 F n hk he x4 σ5
theorem kX8_refusal {n : Nat} {own : String} {cc : ByteArray} {nL h index : Nat} {α : Type} {fin : α → zO} {σ : zW} {pc : Nat} {lv : zLV} {st : List zV} {a0 : Nat} {c : Int32 → zW → Option α} (F : zFx E) (hk : zk E K own cc nL h) (hd : decode cc pc = .ok (.invokevirtual index, 3)) (hl : Cond.methodLink own index qX8_refusal ∈ lw_tbl) (hh : 1 + 1 ≤ h) (hs : zcat st ≤ 8) (k : ∀ v s, zG E K fin (c v s) s (pc + 3) lv (.inl v :: st)) : zG E K fin (zck σ 9 a0 (zb2 (fX8_refusal n a0 σ) c)) σ pc lv (.inr (.inl a0) :: st) :=
  z_vW (n := 0) (y := qX8_refusal) (As := []) hk hd hl wd_1365 wd_1366 wd_10 wd_1367 ⟨by decide, by decide, by decide +kernel⟩ ⟨hh, by decide⟩ (ci := 8) rfl rfl rfl (fun o ho => mX8_refusal F n a0 σ o ho) hs k
abbrev qX8_wouldRefuse : MethodName := { cls := "LotSalesModel", name := "wouldRefuse", desc := "(ZIII)I" }
def sX8_wouldRefuse_73 (n : Nat) (y0 : Int32) (σ : zW) : Option (Int32 × zW) := some (y0, σ)
def sX8_wouldRefuse_36 (n : Nat) (v0 : Nat) (v1 : Int32) (v2 : Int32) (v3 : Int32) (v4 : Int32) (y0 : Nat) (y1 : Int32) (σ : zW) : Option (Int32 × zW) := zpI σ 9 y0 0 y1 fun σ1 => zgI σ1 9 v0 0 fun x2 => if x2 = 0 then if v1 = 0 then zck σ1 9 v0 (zb2 (fX8_bidRefusal n v0 v2 v3 v4 σ1) fun x3 σ4 => sX8_wouldRefuse_73 n x3 σ4) else zck σ1 9 v0 (zb (fX8_orderRefusal n v0 v2 v3 v4 σ1) fun x5 => sX8_wouldRefuse_73 n x5 σ1) else sX8_wouldRefuse_73 n 0 σ1
def sX8_wouldRefuse_16 (n : Nat) (v0 : Nat) (v1 : Int32) (v2 : Int32) (v3 : Int32) (v4 : Int32) (y0 : Nat) (σ : zW) : Option (Int32 × zW) := sX8_wouldRefuse_36 n v0 v1 v2 v3 v4 y0 1 σ
def fX8_wouldRefuse (n : Nat) (a0 : Nat) (a1 : Int32) (a2 : Int32) (a3 : Int32) (a4 : Int32) (σ : zW) : Option (Int32 × zW) := zck σ 9 a0 (zb (fX8_isLot n a0 a2 σ) fun x6 => if x6 = 0 then sX8_wouldRefuse_16 n a0 a1 a2 a3 a4 a0 σ else zb (fX8_isBidder n a3 σ) fun x7 => if x7 = 0 then sX8_wouldRefuse_16 n a0 a1 a2 a3 a4 a0 σ else zb (fX8_isIn n a4 1 90000 σ) fun x8 => if x8 = 0 then sX8_wouldRefuse_36 n a0 a1 a2 a3 a4 a0 2 σ else sX8_wouldRefuse_36 n a0 a1 a2 a3 a4 a0 0 σ)
theorem gsX8_wouldRefuse_73 (F : zFx E) (n : Nat) (hk : zk E K "LotSalesModel" cX8_wouldRefuse 5 10) (he : zend E K (some .int) "wouldRefuse") (y0 : Int32) (σ : zW) : zG E K zfW (sX8_wouldRefuse_73 n y0 σ) σ 73 [none, none, none, none, none] [.inl y0] := by
  unfold sX8_wouldRefuse_73
  exact z_iret hk he (z_row hX8_wouldRefuse_0 37 rfl) rfl
theorem gsX8_wouldRefuse_36 (F : zFx E) (n : Nat) (hk : zk E K "LotSalesModel" cX8_wouldRefuse 5 10) (he : zend E K (some .int) "wouldRefuse") (v0 : Nat) (v1 : Int32) (v2 : Int32) (v3 : Int32) (v4 : Int32) (y0 : Nat) (y1 : Int32) (σ : zW) : zG E K zfW (sX8_wouldRefuse_36 n v0 v1 v2 v3 v4 y0 y1 σ) σ 36 [some (.inr (.inl v0)), some (.inl v1), some (.inl v2), some (.inl v3), some (.inl v4)] [.inl y1, .inr (.inl y0)] := by
  unfold sX8_wouldRefuse_36
  refine z_pI hk 0 (z_row hX8_wouldRefuse_0 18 rfl) (ci := 8) rfl rfl wd_1122 rfl rfl rfl (fun σ1 => ?_)
  refine z_run hk hX8_wouldRefuse_0 19 1 (pc' := 40) (lv' := [some (.inr (.inl v0)), some (.inl v1), some (.inl v2), some (.inl v3), some (.inl v4)]) (st' := [.inr (.inl v0)]) rfl ?_
  refine z_gI hk 0 (z_row hX8_wouldRefuse_0 20 rfl) (ci := 8) rfl rfl wd_1122 (fun x2 => ?_)
  refine z_eq hk (z_row hX8_wouldRefuse_0 21 rfl) (tgt := 50) rfl ?_ ?_
  · refine z_run hk hX8_wouldRefuse_0 24 1 (pc' := 51) (lv' := [some (.inr (.inl v0)), some (.inl v1), some (.inl v2), some (.inl v3), some (.inl v4)]) (st' := [.inl v1]) rfl ?_
    refine z_eq hk (z_row hX8_wouldRefuse_0 25 rfl) (tgt := 65) rfl ?_ ?_
    · refine z_run hk hX8_wouldRefuse_0 32 4 (pc' := 70) (lv' := [some (.inr (.inl v0)), some (.inl v1), some (.inl v2), some (.inl v3), some (.inl v4)]) (st' := [.inl v4, .inl v3, .inl v2, .inr (.inl v0)]) rfl ?_
      refine kX8_bidRefusal F hk (z_row hX8_wouldRefuse_0 36 rfl) wd_1341 (by decide) (Nat.le_of_ble_eq_true rfl) (fun x3 σ4 => ?_)
      refine z_mask [false, false, false, false, false] rfl ?_
      exact gsX8_wouldRefuse_73 F n hk he x3 σ4
    · refine z_run hk hX8_wouldRefuse_0 26 4 (pc' := 59) (lv' := [some (.inr (.inl v0)), some (.inl v1), some (.inl v2), some (.inl v3), some (.inl v4)]) (st' := [.inl v4, .inl v3, .inl v2, .inr (.inl v0)]) rfl ?_
      refine kX8_orderRefusal F hk (z_row hX8_wouldRefuse_0 30 rfl) wd_1271 (by decide) (Nat.le_of_ble_eq_true rfl) (fun x5 => ?_)
      refine z_goto hk (z_row hX8_wouldRefuse_0 31 rfl) (tgt := 73) rfl ?_
      refine z_mask [false, false, false, false, false] rfl ?_
      exact gsX8_wouldRefuse_73 F n hk he x5 σ1
  · refine z_run hk hX8_wouldRefuse_0 22 1 (pc' := 47) (lv' := [some (.inr (.inl v0)), some (.inl v1), some (.inl v2), some (.inl v3), some (.inl v4)]) (st' := [.inl 0]) rfl ?_
    refine z_goto hk (z_row hX8_wouldRefuse_0 23 rfl) (tgt := 73) rfl ?_
    refine z_mask [false, false, false, false, false] rfl ?_
    exact gsX8_wouldRefuse_73 F n hk he 0 σ1
theorem gsX8_wouldRefuse_16 (F : zFx E) (n : Nat) (hk : zk E K "LotSalesModel" cX8_wouldRefuse 5 10) (he : zend E K (some .int) "wouldRefuse") (v0 : Nat) (v1 : Int32) (v2 : Int32) (v3 : Int32) (v4 : Int32) (y0 : Nat) (σ : zW) : zG E K zfW (sX8_wouldRefuse_16 n v0 v1 v2 v3 v4 y0 σ) σ 16 [some (.inr (.inl v0)), some (.inl v1), some (.inl v2), some (.inl v3), some (.inl v4)] [.inr (.inl y0)] := by
  unfold sX8_wouldRefuse_16
  refine z_run hk hX8_wouldRefuse_0 8 1 (pc' := 17) (lv' := [some (.inr (.inl v0)), some (.inl v1), some (.inl v2), some (.inl v3), some (.inl v4)]) (st' := [.inl 1, .inr (.inl y0)]) rfl ?_
  refine z_goto hk (z_row hX8_wouldRefuse_0 9 rfl) (tgt := 36) rfl ?_
  exact gsX8_wouldRefuse_36 F n hk he v0 v1 v2 v3 v4 y0 1 σ
theorem mX8_wouldRefuse (F : zFx E) (n : Nat) (a0 : Nat) (a1 : Int32) (a2 : Int32) (a3 : Int32) (a4 : Int32) (σ : zW) (o : Int32 × zW) (hf : fX8_wouldRefuse n a0 a1 a2 a3 a4 σ = some o) : zM E qX8_wouldRefuse cX8_wouldRefuse 5 (some .int) 10 [.inr (.inl a0), .inl a1, .inl a2, .inl a3, .inl a4] σ (some (.int o.1)) o.2 := by
  refine zM_of (fin := zfW) F (by decide +kernel) rfl (Nat.le_of_ble_eq_true rfl) (lv0 := [some (.inr (.inl a0)), some (.inl a1), some (.inl a2), some (.inl a3), some (.inl a4)]) rfl hf rfl (fun K hk he => ?_)
  have hk : zk E K "LotSalesModel" cX8_wouldRefuse 5 10 := hk
  unfold fX8_wouldRefuse
  refine z_run hk hX8_wouldRefuse_0 0 3 (pc' := 3) (lv' := [some (.inr (.inl a0)), some (.inl a1), some (.inl a2), some (.inl a3), some (.inl a4)]) (st' := [.inl a2, .inr (.inl a0), .inr (.inl a0)]) rfl ?_
  refine kX8_isLot F hk (z_row hX8_wouldRefuse_0 3 rfl) wd_1209 (by decide) (Nat.le_of_ble_eq_true rfl) (fun x6 => ?_)
  refine z_eq hk (z_row hX8_wouldRefuse_0 4 rfl) (tgt := 16) rfl ?_ ?_
  · exact gsX8_wouldRefuse_16 F n hk he a0 a1 a2 a3 a4 a0 σ
  · refine z_run hk hX8_wouldRefuse_0 5 1 (pc' := 10) (lv' := [some (.inr (.inl a0)), some (.inl a1), some (.inl a2), some (.inl a3), some (.inl a4)]) (st' := [.inl a3, .inr (.inl a0)]) rfl ?_
    refine kX8_isBidder F hk (z_row hX8_wouldRefuse_0 6 rfl) wd_1263 (by decide) (Nat.le_of_ble_eq_true rfl) (fun x7 => ?_)
    refine z_ne hk (z_row hX8_wouldRefuse_0 7 rfl) (tgt := 20) rfl ?_ ?_
    · refine z_run hk hX8_wouldRefuse_0 10 2 (pc' := 23) (lv' := [some (.inr (.inl a0)), some (.inl a1), some (.inl a2), some (.inl a3), some (.inl a4)]) (st' := [.inl 1, .inl a4, .inr (.inl a0)]) rfl ?_
      refine z_ldc hk (z_row hX8_wouldRefuse_0 12 rfl) wd_1184 ?_
      refine kX8_isIn F hk (z_row hX8_wouldRefuse_0 13 rfl) wd_1181 (by decide) (Nat.le_of_ble_eq_true rfl) (fun x8 => ?_)
      refine z_ne hk (z_row hX8_wouldRefuse_0 14 rfl) (tgt := 35) rfl ?_ ?_
      · refine z_run hk hX8_wouldRefuse_0 17 1 (pc' := 36) (lv' := [some (.inr (.inl a0)), some (.inl a1), some (.inl a2), some (.inl a3), some (.inl a4)]) (st' := [.inl 0, .inr (.inl a0)]) rfl ?_
        exact gsX8_wouldRefuse_36 F n hk he a0 a1 a2 a3 a4 a0 0 σ
      · refine z_run hk hX8_wouldRefuse_0 15 1 (pc' := 32) (lv' := [some (.inr (.inl a0)), some (.inl a1), some (.inl a2), some (.inl a3), some (.inl a4)]) (st' := [.inl 2, .inr (.inl a0)]) rfl ?_
        refine z_goto hk (z_row hX8_wouldRefuse_0 16 rfl) (tgt := 36) rfl ?_
        exact gsX8_wouldRefuse_36 F n hk he a0 a1 a2 a3 a4 a0 2 σ
    · exact gsX8_wouldRefuse_16 F n hk he a0 a1 a2 a3 a4 a0 σ
theorem kX8_wouldRefuse {n : Nat} {own : String} {cc : ByteArray} {nL h index : Nat} {α : Type} {fin : α → zO} {σ : zW} {pc : Nat} {lv : zLV} {st : List zV} {a0 : Nat} {a1 : Int32} {a2 : Int32} {a3 : Int32} {a4 : Int32} {c : Int32 → zW → Option α} (F : zFx E) (hk : zk E K own cc nL h) (hd : decode cc pc = .ok (.invokevirtual index, 3)) (hl : Cond.methodLink own index qX8_wouldRefuse ∈ lw_tbl) (hh : 10 + 1 ≤ h) (hs : zcat st ≤ 8) (k : ∀ v s, zG E K fin (c v s) s (pc + 3) lv (.inl v :: st)) : zG E K fin (zck σ 9 a0 (zb2 (fX8_wouldRefuse n a0 a1 a2 a3 a4 σ) c)) σ pc lv (.inl a4 :: .inl a3 :: .inl a2 :: .inl a1 :: .inr (.inl a0) :: st) :=
  z_vW (n := 4) (y := qX8_wouldRefuse) (As := [.inl a1, .inl a2, .inl a3, .inl a4]) hk hd hl wd_1369 wd_1370 wd_10 wd_1371 ⟨by decide, by decide, by decide +kernel⟩ ⟨hh, by decide⟩ (ci := 8) rfl rfl rfl (fun o ho => mX8_wouldRefuse F n a0 a1 a2 a3 a4 σ o ho) hs k
end
