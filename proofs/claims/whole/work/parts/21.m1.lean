section
variable {E : zE} {K : zC}

abbrev qX3_nextNumber : MethodName := { cls := "LotSales$Sale", name := "nextNumber", desc := "()I" }
def fX3_nextNumber (n : Nat) (a0 : Nat) (σ : zW) : Option (Int32 × zW) := zgI σ 4 a0 6 fun x1 => zpI σ 4 a0 6 (x1 + 1) fun σ2 => zgI σ2 4 a0 6 fun x3 => some (x3, σ2)
theorem mX3_nextNumber (F : zFx E) (n : Nat) (a0 : Nat) (σ : zW) (o : Int32 × zW) (hf : fX3_nextNumber n a0 σ = some o) : zM E qX3_nextNumber cX3_nextNumber 1 (some .int) 0 [.inr (.inl a0)] σ (some (.int o.1)) o.2 := by
  refine zM_of (fin := zfW) F (by decide +kernel) rfl (Nat.le_of_ble_eq_true rfl) (lv0 := [some (.inr (.inl a0))]) rfl hf rfl (fun K hk he => ?_)
  have hk : zk E K "LotSales$Sale" cX3_nextNumber 1 0 := hk
  unfold fX3_nextNumber
  refine z_run hk hX3_nextNumber_0 0 2 (pc' := 2) (lv' := [some (.inr (.inl a0))]) (st' := [.inr (.inl a0), .inr (.inl a0)]) rfl ?_
  refine z_gI hk 6 (z_row hX3_nextNumber_0 2 rfl) (ci := 3) rfl rfl wd_172 (fun x1 => ?_)
  refine z_run hk hX3_nextNumber_0 3 2 (pc' := 7) (lv' := [some (.inr (.inl a0))]) (st' := [.inl (x1 + 1), .inr (.inl a0)]) rfl ?_
  refine z_pI hk 6 (z_row hX3_nextNumber_0 5 rfl) (ci := 3) rfl rfl wd_172 rfl rfl rfl (fun σ2 => ?_)
  refine z_run hk hX3_nextNumber_0 6 1 (pc' := 11) (lv' := [some (.inr (.inl a0))]) (st' := [.inr (.inl a0)]) rfl ?_
  refine z_gI hk 6 (z_row hX3_nextNumber_0 7 rfl) (ci := 3) rfl rfl wd_172 (fun x3 => ?_)
  exact z_iret hk he (z_row hX3_nextNumber_0 8 rfl) rfl
theorem kX3_nextNumber {n : Nat} {own : String} {cc : ByteArray} {nL h index : Nat} {α : Type} {fin : α → zO} {σ : zW} {pc : Nat} {lv : zLV} {st : List zV} {a0 : Nat} {c : Int32 → zW → Option α} (F : zFx E) (hk : zk E K own cc nL h) (hd : decode cc pc = .ok (.invokevirtual index, 3)) (hl : Cond.methodLink own index qX3_nextNumber ∈ lw_tbl) (hh : 0 + 1 ≤ h) (hs : zcat st ≤ 8) (k : ∀ v s, zG E K fin (c v s) s (pc + 3) lv (.inl v :: st)) : zG E K fin (zck σ 4 a0 (zb2 (fX3_nextNumber n a0 σ) c)) σ pc lv (.inr (.inl a0) :: st) :=
  z_vW (n := 0) (y := qX3_nextNumber) (As := []) hk hd hl wd_632 wd_633 wd_2 wd_634 ⟨by decide, by decide, by decide +kernel⟩ ⟨hh, by decide⟩ (ci := 3) rfl rfl rfl (fun o ho => mX3_nextNumber F n a0 σ o ho) hs k
abbrev qX3_makeLot : MethodName := { cls := "LotSales$Sale", name := "makeLot", desc := "(III)I" }
def fX3_makeLot (n : Nat) (a0 : Nat) (a1 : Int32) (a2 : Int32) (a3 : Int32) (σ : zW) : Option (Int32 × zW) := zgI σ 4 a0 5 fun x1 => zgR σ 4 a0 3 fun x2 => zaR σ 25 x2 x1 fun x3 => zck σ 3 x3 (zb (fX2_begin n x3 a1 a2 a3 σ) fun σ4 => zgI σ4 4 a0 5 fun x5 => zpI σ4 4 a0 5 (x5 + 1) fun σ6 => some (x1, σ6))
theorem mX3_makeLot (F : zFx E) (n : Nat) (a0 : Nat) (a1 : Int32) (a2 : Int32) (a3 : Int32) (σ : zW) (o : Int32 × zW) (hf : fX3_makeLot n a0 a1 a2 a3 σ = some o) : zM E qX3_makeLot cX3_makeLot 5 (some .int) 3 [.inr (.inl a0), .inl a1, .inl a2, .inl a3] σ (some (.int o.1)) o.2 := by
  refine zM_of (fin := zfW) F (by decide +kernel) rfl (Nat.le_of_ble_eq_true rfl) (lv0 := [some (.inr (.inl a0)), some (.inl a1), some (.inl a2), some (.inl a3), none]) rfl hf rfl (fun K hk he => ?_)
  have hk : zk E K "LotSales$Sale" cX3_makeLot 5 3 := hk
  unfold fX3_makeLot
  refine z_run hk hX3_makeLot_0 0 1 (pc' := 1) (lv' := [some (.inr (.inl a0)), some (.inl a1), some (.inl a2), some (.inl a3), none]) (st' := [.inr (.inl a0)]) rfl ?_
  refine z_gI hk 5 (z_row hX3_makeLot_0 1 rfl) (ci := 3) rfl rfl wd_170 (fun x1 => ?_)
  refine z_run hk hX3_makeLot_0 2 2 (pc' := 7) (lv' := [some (.inr (.inl a0)), some (.inl a1), some (.inl a2), some (.inl a3), some (.inl x1)]) (st' := [.inr (.inl a0)]) rfl ?_
  refine z_gR hk 3 (z_row hX3_makeLot_0 4 rfl) (ci := 3) rfl rfl wd_166 (fun x2 => ?_)
  refine z_run hk hX3_makeLot_0 5 1 (pc' := 12) (lv' := [some (.inr (.inl a0)), some (.inl a1), some (.inl a2), some (.inl a3), some (.inl x1)]) (st' := [.inl x1, .inr (.inl x2)]) rfl ?_
  refine z_aR hk (κ := 25) (by decide) (z_row hX3_makeLot_0 6 rfl) (fun x3 => ?_)
  refine z_run hk hX3_makeLot_0 7 3 (pc' := 16) (lv' := [some (.inr (.inl a0)), some (.inl a1), some (.inl a2), some (.inl a3), some (.inl x1)]) (st' := [.inl a3, .inl a2, .inl a1, .inr (.inl x3)]) rfl ?_
  refine kX2_begin F hk (z_row hX3_makeLot_0 10 rfl) wd_459 (by decide) (Nat.le_of_ble_eq_true rfl) (fun σ4 => ?_)
  refine z_run hk hX3_makeLot_0 11 2 (pc' := 21) (lv' := [some (.inr (.inl a0)), some (.inl a1), some (.inl a2), some (.inl a3), some (.inl x1)]) (st' := [.inr (.inl a0), .inr (.inl a0)]) rfl ?_
  refine z_gI hk 5 (z_row hX3_makeLot_0 13 rfl) (ci := 3) rfl rfl wd_170 (fun x5 => ?_)
  refine z_run hk hX3_makeLot_0 14 2 (pc' := 26) (lv' := [some (.inr (.inl a0)), some (.inl a1), some (.inl a2), some (.inl a3), some (.inl x1)]) (st' := [.inl (x5 + 1), .inr (.inl a0)]) rfl ?_
  refine z_pI hk 5 (z_row hX3_makeLot_0 16 rfl) (ci := 3) rfl rfl wd_170 rfl rfl rfl (fun σ6 => ?_)
  refine z_run hk hX3_makeLot_0 17 1 (pc' := 31) (lv' := [some (.inr (.inl a0)), some (.inl a1), some (.inl a2), some (.inl a3), some (.inl x1)]) (st' := [.inl x1]) rfl ?_
  exact z_iret hk he (z_row hX3_makeLot_0 18 rfl) rfl
theorem kX3_makeLot {n : Nat} {own : String} {cc : ByteArray} {nL h index : Nat} {α : Type} {fin : α → zO} {σ : zW} {pc : Nat} {lv : zLV} {st : List zV} {a0 : Nat} {a1 : Int32} {a2 : Int32} {a3 : Int32} {c : Int32 → zW → Option α} (F : zFx E) (hk : zk E K own cc nL h) (hd : decode cc pc = .ok (.invokevirtual index, 3)) (hl : Cond.methodLink own index qX3_makeLot ∈ lw_tbl) (hh : 3 + 1 ≤ h) (hs : zcat st ≤ 8) (k : ∀ v s, zG E K fin (c v s) s (pc + 3) lv (.inl v :: st)) : zG E K fin (zck σ 4 a0 (zb2 (fX3_makeLot n a0 a1 a2 a3 σ) c)) σ pc lv (.inl a3 :: .inl a2 :: .inl a1 :: .inr (.inl a0) :: st) :=
  z_vW (n := 3) (y := qX3_makeLot) (As := [.inl a1, .inl a2, .inl a3]) hk hd hl wd_456 wd_457 wd_2 wd_458 ⟨by decide, by decide, by decide +kernel⟩ ⟨hh, by decide⟩ (ci := 3) rfl rfl rfl (fun o ho => mX3_makeLot F n a0 a1 a2 a3 σ o ho) hs k
abbrev qX3_makePart : MethodName := { cls := "LotSales$Sale", name := "makePart", desc := "(LLotSales$Lot;I)V" }
def sX3_makePart_65 (n : Nat) (r22 : Nat → Nat → Int32 → Int32 → Int32 → zW → Option (zW)) (v0 : Nat) (v1 : Nat) (v2 : Int32) (v3 : Int32) (v4 : Int32) (σ : zW) : Option (zW) := r22 v0 v1 v2 v3 (v4 + 1) σ
def sX3_makePart_22 (n : Nat) : Nat → Nat → Nat → Int32 → Int32 → Int32 → zW → Option (zW)
  | 0, _, _, _, _, _, _ => none
  | k + 1, v0, v1, v2, v3, v4, σ => if v4 < 10 then zgR σ 3 v1 0 fun x1 => zaI σ x1 v4 fun x2 => zck σ 3 v1 (zb (fX2_share n v1 x2 v2 σ) fun x3 => if 0 < x3 then zgR σ 4 v0 3 fun x4 => zaR σ 25 x4 v3 fun x5 => zck σ 4 v0 (zb2 (fX3_nextNumber n v0 σ) fun x6 σ7 => zck σ7 3 x5 (zb (fX2_putOrder n x5 v4 x3 x6 σ7) fun σ8 => sX3_makePart_65 n (sX3_makePart_22 n k) v0 v1 v2 v3 v4 σ8)) else sX3_makePart_65 n (sX3_makePart_22 n k) v0 v1 v2 v3 v4 σ) else some σ
def fX3_makePart (n : Nat) (a0 : Nat) (a1 : Nat) (a2 : Int32) (σ : zW) : Option (zW) := zgI σ 3 a1 5 fun x9 => zgI σ 3 a1 7 fun x10 => zck σ 3 a1 (zb (fX2_share n a1 x10 a2 σ) fun x11 => zck σ 4 a0 (zb2 (fX3_makeLot n a0 x9 a2 x11 σ) fun x12 σ13 => sX3_makePart_22 n n a0 a1 a2 x12 0 σ13))
theorem gsX3_makePart_65 (F : zFx E) (n : Nat) (hk : zk E K "LotSales$Sale" cX3_makePart 6 4) (he : zend E K none "makePart") (r22 : Nat → Nat → Int32 → Int32 → Int32 → zW → Option (zW)) (hr22 : ∀ (v0 : Nat) (v1 : Nat) (v2 : Int32) (v3 : Int32) (v4 : Int32) (σ : zW), zG E K zfV (r22 v0 v1 v2 v3 v4 σ) σ 22 [some (.inr (.inl v0)), some (.inr (.inl v1)), some (.inl v2), some (.inl v3), some (.inl v4), none] []) (v0 : Nat) (v1 : Nat) (v2 : Int32) (v3 : Int32) (v4 : Int32) (σ : zW) : zG E K zfV (sX3_makePart_65 n r22 v0 v1 v2 v3 v4 σ) σ 65 [some (.inr (.inl v0)), some (.inr (.inl v1)), some (.inl v2), some (.inl v3), some (.inl v4), none] [] := by
  unfold sX3_makePart_65
  refine z_run hk hX3_makePart_0 35 1 (pc' := 68) (lv' := [some (.inr (.inl v0)), some (.inr (.inl v1)), some (.inl v2), some (.inl v3), some (.inl (v4 + 1)), none]) (st' := []) rfl ?_
  refine z_goto hk (z_row hX3_makePart_0 36 rfl) (tgt := 22) rfl ?_
  exact hr22 v0 v1 v2 v3 (v4 + 1) σ
theorem gsX3_makePart_22 (F : zFx E) (n : Nat) (hk : zk E K "LotSales$Sale" cX3_makePart 6 4) (he : zend E K none "makePart") : ∀ (k : Nat) (v0 : Nat) (v1 : Nat) (v2 : Int32) (v3 : Int32) (v4 : Int32) (σ : zW), zG E K zfV (sX3_makePart_22 n k v0 v1 v2 v3 v4 σ) σ 22 [some (.inr (.inl v0)), some (.inr (.inl v1)), some (.inl v2), some (.inl v3), some (.inl v4), none] [] := by
  intro k
  induction k with
  | zero =>
    intro v0 v1 v2 v3 v4 σ
    intro hX
    exact z_none hX
  | succ k ih =>
    intro v0 v1 v2 v3 v4 σ
    rw [sX3_makePart_22]
    refine z_run hk hX3_makePart_0 13 2 (pc' := 26) (lv' := [some (.inr (.inl v0)), some (.inr (.inl v1)), some (.inl v2), some (.inl v3), some (.inl v4), none]) (st' := [.inl 10, .inl v4]) rfl ?_
    refine z_cge hk (z_row hX3_makePart_0 15 rfl) (tgt := 71) rfl ?_ ?_
    · exact z_vret hk he (z_row hX3_makePart_0 37 rfl) rfl
    · refine z_run hk hX3_makePart_0 16 2 (pc' := 31) (lv' := [some (.inr (.inl v0)), some (.inr (.inl v1)), some (.inl v2), some (.inl v3), some (.inl v4), none]) (st' := [.inr (.inl v1), .inr (.inl v1)]) rfl ?_
      refine z_gR hk 0 (z_row hX3_makePart_0 18 rfl) (ci := 2) rfl rfl wd_104 (fun x1 => ?_)
      refine z_run hk hX3_makePart_0 19 1 (pc' := 36) (lv' := [some (.inr (.inl v0)), some (.inr (.inl v1)), some (.inl v2), some (.inl v3), some (.inl v4), none]) (st' := [.inl v4, .inr (.inl x1), .inr (.inl v1)]) rfl ?_
      refine z_aI hk (z_row hX3_makePart_0 20 rfl) (fun x2 => ?_)
      refine z_run hk hX3_makePart_0 21 1 (pc' := 38) (lv' := [some (.inr (.inl v0)), some (.inr (.inl v1)), some (.inl v2), some (.inl v3), some (.inl v4), none]) (st' := [.inl v2, .inl x2, .inr (.inl v1)]) rfl ?_
      refine kX2_share F hk (z_row hX3_makePart_0 22 rfl) wd_892 (by decide) (Nat.le_of_ble_eq_true rfl) (fun x3 => ?_)
      refine z_run hk hX3_makePart_0 23 2 (pc' := 45) (lv' := [some (.inr (.inl v0)), some (.inr (.inl v1)), some (.inl v2), some (.inl v3), some (.inl v4), some (.inl x3)]) (st' := [.inl x3]) rfl ?_
      refine z_le hk (z_row hX3_makePart_0 25 rfl) (tgt := 65) rfl ?_ ?_
      · refine z_mask [true, true, true, true, true, false] rfl ?_
        exact gsX3_makePart_65 F n hk he (sX3_makePart_22 n k) ih v0 v1 v2 v3 v4 σ
      · refine z_run hk hX3_makePart_0 26 1 (pc' := 49) (lv' := [some (.inr (.inl v0)), some (.inr (.inl v1)), some (.inl v2), some (.inl v3), some (.inl v4), some (.inl x3)]) (st' := [.inr (.inl v0)]) rfl ?_
        refine z_gR hk 3 (z_row hX3_makePart_0 27 rfl) (ci := 3) rfl rfl wd_166 (fun x4 => ?_)
        refine z_run hk hX3_makePart_0 28 1 (pc' := 53) (lv' := [some (.inr (.inl v0)), some (.inr (.inl v1)), some (.inl v2), some (.inl v3), some (.inl v4), some (.inl x3)]) (st' := [.inl v3, .inr (.inl x4)]) rfl ?_
        refine z_aR hk (κ := 25) (by decide) (z_row hX3_makePart_0 29 rfl) (fun x5 => ?_)
        refine z_run hk hX3_makePart_0 30 3 (pc' := 59) (lv' := [some (.inr (.inl v0)), some (.inr (.inl v1)), some (.inl v2), some (.inl v3), some (.inl v4), some (.inl x3)]) (st' := [.inr (.inl v0), .inl x3, .inl v4, .inr (.inl x5)]) rfl ?_
        refine kX3_nextNumber F hk (z_row hX3_makePart_0 33 rfl) wd_894 (by decide) (Nat.le_of_ble_eq_true rfl) (fun x6 σ7 => ?_)
        refine kX2_putOrder F hk (z_row hX3_makePart_0 34 rfl) wd_895 (by decide) (Nat.le_of_ble_eq_true rfl) (fun σ8 => ?_)
        refine z_mask [true, true, true, true, true, false] rfl ?_
        exact gsX3_makePart_65 F n hk he (sX3_makePart_22 n k) ih v0 v1 v2 v3 v4 σ8
theorem mX3_makePart (F : zFx E) (n : Nat) (a0 : Nat) (a1 : Nat) (a2 : Int32) (σ : zW) (o : zW) (hf : fX3_makePart n a0 a1 a2 σ = some o) : zM E qX3_makePart cX3_makePart 6 none 4 [.inr (.inl a0), .inr (.inl a1), .inl a2] σ none o := by
  refine zM_of (fin := zfV) F (by decide +kernel) rfl (Nat.le_of_ble_eq_true rfl) (lv0 := [some (.inr (.inl a0)), some (.inr (.inl a1)), some (.inl a2), none, none, none]) rfl hf rfl (fun K hk he => ?_)
  have hk : zk E K "LotSales$Sale" cX3_makePart 6 4 := hk
  unfold fX3_makePart
  refine z_run hk hX3_makePart_0 0 2 (pc' := 2) (lv' := [some (.inr (.inl a0)), some (.inr (.inl a1)), some (.inl a2), none, none, none]) (st' := [.inr (.inl a1), .inr (.inl a0)]) rfl ?_
  refine z_gI hk 5 (z_row hX3_makePart_0 2 rfl) (ci := 2) rfl rfl wd_117 (fun x9 => ?_)
  refine z_run hk hX3_makePart_0 3 3 (pc' := 8) (lv' := [some (.inr (.inl a0)), some (.inr (.inl a1)), some (.inl a2), none, none, none]) (st' := [.inr (.inl a1), .inr (.inl a1), .inl a2, .inl x9, .inr (.inl a0)]) rfl ?_
  refine z_gI hk 7 (z_row hX3_makePart_0 6 rfl) (ci := 2) rfl rfl wd_124 (fun x10 => ?_)
  refine z_run hk hX3_makePart_0 7 1 (pc' := 12) (lv' := [some (.inr (.inl a0)), some (.inr (.inl a1)), some (.inl a2), none, none, none]) (st' := [.inl a2, .inl x10, .inr (.inl a1), .inl a2, .inl x9, .inr (.inl a0)]) rfl ?_
  refine kX2_share F hk (z_row hX3_makePart_0 8 rfl) wd_892 (by decide) (Nat.le_of_ble_eq_true rfl) (fun x11 => ?_)
  refine kX3_makeLot F hk (z_row hX3_makePart_0 9 rfl) wd_893 (by decide) (Nat.le_of_ble_eq_true rfl) (fun x12 σ13 => ?_)
  refine z_run hk hX3_makePart_0 10 3 (pc' := 22) (lv' := [some (.inr (.inl a0)), some (.inr (.inl a1)), some (.inl a2), some (.inl x12), some (.inl 0), none]) (st' := []) rfl ?_
  exact gsX3_makePart_22 F n hk he n a0 a1 a2 x12 0 σ13
theorem kX3_makePart {n : Nat} {own : String} {cc : ByteArray} {nL h index : Nat} {α : Type} {fin : α → zO} {σ : zW} {pc : Nat} {lv : zLV} {st : List zV} {a0 : Nat} {a1 : Nat} {a2 : Int32} {c : zW → Option α} (F : zFx E) (hk : zk E K own cc nL h) (hd : decode cc pc = .ok (.invokevirtual index, 3)) (hl : Cond.methodLink own index qX3_makePart ∈ lw_tbl) (hh : 4 + 1 ≤ h) (hs : zcat st ≤ 8) (k : ∀ s, zG E K fin (c s) s (pc + 3) lv st) : zG E K fin (zck σ 4 a0 (zb (fX3_makePart n a0 a1 a2 σ) c)) σ pc lv (.inl a2 :: .inr (.inl a1) :: .inr (.inl a0) :: st) :=
  z_vV (n := 2) (y := qX3_makePart) (As := [.inr (.inl a1), .inl a2]) hk hd hl wd_889 wd_890 wd_2 wd_891 ⟨by decide, by decide, by decide +kernel⟩ ⟨hh, by decide⟩ (ci := 3) rfl rfl rfl (fun o ho => mX3_makePart F n a0 a1 a2 σ o ho) hs k
abbrev qX3_makeGroup : MethodName := { cls := "LotSales$Sale", name := "makeGroup", desc := "(LLotSales$Lot;LLotSales$Lot;)I" }
def sX3_makeGroup_96 (n : Nat) (r30 : Nat → Nat → Nat → Int32 → Int32 → zW → Option (Int32 × zW)) (v0 : Nat) (v1 : Nat) (v2 : Nat) (v3 : Int32) (v4 : Int32) (σ : zW) : Option (Int32 × zW) := r30 v0 v1 v2 v3 (v4 + 1) σ
def sX3_makeGroup_30 (n : Nat) : Nat → Nat → Nat → Nat → Int32 → Int32 → zW → Option (Int32 × zW)
  | 0, _, _, _, _, _, _ => none
  | k + 1, v0, v1, v2, v3, v4, σ => if v4 < 10 then zgR σ 3 v1 0 fun x1 => zaI σ x1 v4 fun x2 => if 0 < x2 then zgR σ 3 v2 0 fun x3 => zaI σ x3 v4 fun x4 => if 0 < x4 then zgR σ 3 v1 0 fun x5 => zaI σ x5 v4 fun x6 => zgR σ 3 v2 0 fun x7 => zaI σ x7 v4 fun x8 => zgR σ 4 v0 3 fun x9 => zaR σ 25 x9 v3 fun x10 => zck σ 4 v0 (zb2 (fX3_nextNumber n v0 σ) fun x11 σ12 => zck σ12 3 x10 (zb (fX2_putOrder n x10 v4 (if 90000 < (x6 + x8) then 90000 else (x6 + x8)) x11 σ12) fun σ13 => sX3_makeGroup_96 n (sX3_makeGroup_30 n k) v0 v1 v2 v3 v4 σ13)) else sX3_makeGroup_96 n (sX3_makeGroup_30 n k) v0 v1 v2 v3 v4 σ else sX3_makeGroup_96 n (sX3_makeGroup_30 n k) v0 v1 v2 v3 v4 σ else some (v3, σ)
def fX3_makeGroup (n : Nat) (a0 : Nat) (a1 : Nat) (a2 : Nat) (σ : zW) : Option (Int32 × zW) := zgI σ 3 a1 5 fun x14 => zgI σ 3 a1 6 fun x15 => zgI σ 3 a2 6 fun x16 => zgI σ 3 a1 7 fun x17 => zgI σ 3 a2 7 fun x18 => zck σ 4 a0 (zb2 (fX3_makeLot n a0 x14 (x15 + x16) (x17 + x18) σ) fun x19 σ20 => sX3_makeGroup_30 n n a0 a1 a2 x19 0 σ20)
theorem gsX3_makeGroup_96 (F : zFx E) (n : Nat) (hk : zk E K "LotSales$Sale" cX3_makeGroup 6 4) (he : zend E K (some .int) "makeGroup") (r30 : Nat → Nat → Nat → Int32 → Int32 → zW → Option (Int32 × zW)) (hr30 : ∀ (v0 : Nat) (v1 : Nat) (v2 : Nat) (v3 : Int32) (v4 : Int32) (σ : zW), zG E K zfW (r30 v0 v1 v2 v3 v4 σ) σ 30 [some (.inr (.inl v0)), some (.inr (.inl v1)), some (.inr (.inl v2)), some (.inl v3), some (.inl v4), none] []) (v0 : Nat) (v1 : Nat) (v2 : Nat) (v3 : Int32) (v4 : Int32) (σ : zW) : zG E K zfW (sX3_makeGroup_96 n r30 v0 v1 v2 v3 v4 σ) σ 96 [some (.inr (.inl v0)), some (.inr (.inl v1)), some (.inr (.inl v2)), some (.inl v3), some (.inl v4), none] [] := by
  unfold sX3_makeGroup_96
  refine z_run hk hX3_makeGroup_0 51 1 (pc' := 99) (lv' := [some (.inr (.inl v0)), some (.inr (.inl v1)), some (.inr (.inl v2)), some (.inl v3), some (.inl (v4 + 1)), none]) (st' := []) rfl ?_
  refine z_goto hk (z_row hX3_makeGroup_0 52 rfl) (tgt := 30) rfl ?_
  exact hr30 v0 v1 v2 v3 (v4 + 1) σ
theorem gsX3_makeGroup_30 (F : zFx E) (n : Nat) (hk : zk E K "LotSales$Sale" cX3_makeGroup 6 4) (he : zend E K (some .int) "makeGroup") : ∀ (k : Nat) (v0 : Nat) (v1 : Nat) (v2 : Nat) (v3 : Int32) (v4 : Int32) (σ : zW), zG E K zfW (sX3_makeGroup_30 n k v0 v1 v2 v3 v4 σ) σ 30 [some (.inr (.inl v0)), some (.inr (.inl v1)), some (.inr (.inl v2)), some (.inl v3), some (.inl v4), none] [] := by
  intro k
  induction k with
  | zero =>
    intro v0 v1 v2 v3 v4 σ
    intro hX
    exact z_none hX
  | succ k ih =>
    intro v0 v1 v2 v3 v4 σ
    rw [sX3_makeGroup_30]
    refine z_run hk hX3_makeGroup_0 17 2 (pc' := 34) (lv' := [some (.inr (.inl v0)), some (.inr (.inl v1)), some (.inr (.inl v2)), some (.inl v3), some (.inl v4), none]) (st' := [.inl 10, .inl v4]) rfl ?_
    refine z_cge hk (z_row hX3_makeGroup_0 19 rfl) (tgt := 102) rfl ?_ ?_
    · refine z_run hk hX3_makeGroup_0 53 1 (pc' := 103) (lv' := [some (.inr (.inl v0)), some (.inr (.inl v1)), some (.inr (.inl v2)), some (.inl v3), some (.inl v4), none]) (st' := [.inl v3]) rfl ?_
      exact z_iret hk he (z_row hX3_makeGroup_0 54 rfl) rfl
    · refine z_run hk hX3_makeGroup_0 20 1 (pc' := 38) (lv' := [some (.inr (.inl v0)), some (.inr (.inl v1)), some (.inr (.inl v2)), some (.inl v3), some (.inl v4), none]) (st' := [.inr (.inl v1)]) rfl ?_
      refine z_gR hk 0 (z_row hX3_makeGroup_0 21 rfl) (ci := 2) rfl rfl wd_104 (fun x1 => ?_)
      refine z_run hk hX3_makeGroup_0 22 1 (pc' := 43) (lv' := [some (.inr (.inl v0)), some (.inr (.inl v1)), some (.inr (.inl v2)), some (.inl v3), some (.inl v4), none]) (st' := [.inl v4, .inr (.inl x1)]) rfl ?_
      refine z_aI hk (z_row hX3_makeGroup_0 23 rfl) (fun x2 => ?_)
      refine z_le hk (z_row hX3_makeGroup_0 24 rfl) (tgt := 96) rfl ?_ ?_
      · exact gsX3_makeGroup_96 F n hk he (sX3_makeGroup_30 n k) ih v0 v1 v2 v3 v4 σ
      · refine z_run hk hX3_makeGroup_0 25 1 (pc' := 48) (lv' := [some (.inr (.inl v0)), some (.inr (.inl v1)), some (.inr (.inl v2)), some (.inl v3), some (.inl v4), none]) (st' := [.inr (.inl v2)]) rfl ?_
        refine z_gR hk 0 (z_row hX3_makeGroup_0 26 rfl) (ci := 2) rfl rfl wd_104 (fun x3 => ?_)
        refine z_run hk hX3_makeGroup_0 27 1 (pc' := 53) (lv' := [some (.inr (.inl v0)), some (.inr (.inl v1)), some (.inr (.inl v2)), some (.inl v3), some (.inl v4), none]) (st' := [.inl v4, .inr (.inl x3)]) rfl ?_
        refine z_aI hk (z_row hX3_makeGroup_0 28 rfl) (fun x4 => ?_)
        refine z_le hk (z_row hX3_makeGroup_0 29 rfl) (tgt := 96) rfl ?_ ?_
        · exact gsX3_makeGroup_96 F n hk he (sX3_makeGroup_30 n k) ih v0 v1 v2 v3 v4 σ
        · refine z_run hk hX3_makeGroup_0 30 1 (pc' := 58) (lv' := [some (.inr (.inl v0)), some (.inr (.inl v1)), some (.inr (.inl v2)), some (.inl v3), some (.inl v4), none]) (st' := [.inr (.inl v1)]) rfl ?_
          refine z_gR hk 0 (z_row hX3_makeGroup_0 31 rfl) (ci := 2) rfl rfl wd_104 (fun x5 => ?_)
          refine z_run hk hX3_makeGroup_0 32 1 (pc' := 63) (lv' := [some (.inr (.inl v0)), some (.inr (.inl v1)), some (.inr (.inl v2)), some (.inl v3), some (.inl v4), none]) (st' := [.inl v4, .inr (.inl x5)]) rfl ?_
          refine z_aI hk (z_row hX3_makeGroup_0 33 rfl) (fun x6 => ?_)
          refine z_run hk hX3_makeGroup_0 34 1 (pc' := 65) (lv' := [some (.inr (.inl v0)), some (.inr (.inl v1)), some (.inr (.inl v2)), some (.inl v3), some (.inl v4), none]) (st' := [.inr (.inl v2), .inl x6]) rfl ?_
          refine z_gR hk 0 (z_row hX3_makeGroup_0 35 rfl) (ci := 2) rfl rfl wd_104 (fun x7 => ?_)
          refine z_run hk hX3_makeGroup_0 36 1 (pc' := 70) (lv' := [some (.inr (.inl v0)), some (.inr (.inl v1)), some (.inr (.inl v2)), some (.inl v3), some (.inl v4), none]) (st' := [.inl v4, .inr (.inl x7), .inl x6]) rfl ?_
          refine z_aI hk (z_row hX3_makeGroup_0 37 rfl) (fun x8 => ?_)
          refine z_run hk hX3_makeGroup_0 38 3 (pc' := 75) (lv' := [some (.inr (.inl v0)), some (.inr (.inl v1)), some (.inr (.inl v2)), some (.inl v3), some (.inl v4), some (.inl (x6 + x8))]) (st' := [.inr (.inl v0)]) rfl ?_
          refine z_gR hk 3 (z_row hX3_makeGroup_0 41 rfl) (ci := 3) rfl rfl wd_166 (fun x9 => ?_)
          refine z_run hk hX3_makeGroup_0 42 1 (pc' := 79) (lv' := [some (.inr (.inl v0)), some (.inr (.inl v1)), some (.inr (.inl v2)), some (.inl v3), some (.inl v4), some (.inl (x6 + x8))]) (st' := [.inl v3, .inr (.inl x9)]) rfl ?_
          refine z_aR hk (κ := 25) (by decide) (z_row hX3_makeGroup_0 43 rfl) (fun x10 => ?_)
          refine z_run hk hX3_makeGroup_0 44 2 (pc' := 84) (lv' := [some (.inr (.inl v0)), some (.inr (.inl v1)), some (.inr (.inl v2)), some (.inl v3), some (.inl v4), some (.inl (x6 + x8))]) (st' := [.inl (x6 + x8), .inl v4, .inr (.inl x10)]) rfl ?_
          refine z_ldc hk (z_row hX3_makeGroup_0 46 rfl) wd_908 ?_
          refine z_mmin hk (z_row hX3_makeGroup_0 47 rfl) wd_909 wd_453 wd_16 wd_454 (by decide) (Nat.le_of_ble_eq_true rfl) ?_
          refine z_run hk hX3_makeGroup_0 48 1 (pc' := 90) (lv' := [some (.inr (.inl v0)), some (.inr (.inl v1)), some (.inr (.inl v2)), some (.inl v3), some (.inl v4), some (.inl (x6 + x8))]) (st' := [.inr (.inl v0), .inl (if 90000 < (x6 + x8) then 90000 else (x6 + x8)), .inl v4, .inr (.inl x10)]) rfl ?_
          refine kX3_nextNumber F hk (z_row hX3_makeGroup_0 49 rfl) wd_894 (by decide) (Nat.le_of_ble_eq_true rfl) (fun x11 σ12 => ?_)
          refine kX2_putOrder F hk (z_row hX3_makeGroup_0 50 rfl) wd_895 (by decide) (Nat.le_of_ble_eq_true rfl) (fun σ13 => ?_)
          refine z_mask [true, true, true, true, true, false] rfl ?_
          exact gsX3_makeGroup_96 F n hk he (sX3_makeGroup_30 n k) ih v0 v1 v2 v3 v4 σ13
theorem mX3_makeGroup (F : zFx E) (n : Nat) (a0 : Nat) (a1 : Nat) (a2 : Nat) (σ : zW) (o : Int32 × zW) (hf : fX3_makeGroup n a0 a1 a2 σ = some o) : zM E qX3_makeGroup cX3_makeGroup 6 (some .int) 4 [.inr (.inl a0), .inr (.inl a1), .inr (.inl a2)] σ (some (.int o.1)) o.2 := by
  refine zM_of (fin := zfW) F (by decide +kernel) rfl (Nat.le_of_ble_eq_true rfl) (lv0 := [some (.inr (.inl a0)), some (.inr (.inl a1)), some (.inr (.inl a2)), none, none, none]) rfl hf rfl (fun K hk he => ?_)
  have hk : zk E K "LotSales$Sale" cX3_makeGroup 6 4 := hk
  unfold fX3_makeGroup
  refine z_run hk hX3_makeGroup_0 0 2 (pc' := 2) (lv' := [some (.inr (.inl a0)), some (.inr (.inl a1)), some (.inr (.inl a2)), none, none, none]) (st' := [.inr (.inl a1), .inr (.inl a0)]) rfl ?_
  refine z_gI hk 5 (z_row hX3_makeGroup_0 2 rfl) (ci := 2) rfl rfl wd_117 (fun x14 => ?_)
  refine z_run hk hX3_makeGroup_0 3 1 (pc' := 6) (lv' := [some (.inr (.inl a0)), some (.inr (.inl a1)), some (.inr (.inl a2)), none, none, none]) (st' := [.inr (.inl a1), .inl x14, .inr (.inl a0)]) rfl ?_
  refine z_gI hk 6 (z_row hX3_makeGroup_0 4 rfl) (ci := 2) rfl rfl wd_120 (fun x15 => ?_)
  refine z_run hk hX3_makeGroup_0 5 1 (pc' := 10) (lv' := [some (.inr (.inl a0)), some (.inr (.inl a1)), some (.inr (.inl a2)), none, none, none]) (st' := [.inr (.inl a2), .inl x15, .inl x14, .inr (.inl a0)]) rfl ?_
  refine z_gI hk 6 (z_row hX3_makeGroup_0 6 rfl) (ci := 2) rfl rfl wd_120 (fun x16 => ?_)
  refine z_run hk hX3_makeGroup_0 7 2 (pc' := 15) (lv' := [some (.inr (.inl a0)), some (.inr (.inl a1)), some (.inr (.inl a2)), none, none, none]) (st' := [.inr (.inl a1), .inl (x15 + x16), .inl x14, .inr (.inl a0)]) rfl ?_
  refine z_gI hk 7 (z_row hX3_makeGroup_0 9 rfl) (ci := 2) rfl rfl wd_124 (fun x17 => ?_)
  refine z_run hk hX3_makeGroup_0 10 1 (pc' := 19) (lv' := [some (.inr (.inl a0)), some (.inr (.inl a1)), some (.inr (.inl a2)), none, none, none]) (st' := [.inr (.inl a2), .inl x17, .inl (x15 + x16), .inl x14, .inr (.inl a0)]) rfl ?_
  refine z_gI hk 7 (z_row hX3_makeGroup_0 11 rfl) (ci := 2) rfl rfl wd_124 (fun x18 => ?_)
  refine z_run hk hX3_makeGroup_0 12 1 (pc' := 23) (lv' := [some (.inr (.inl a0)), some (.inr (.inl a1)), some (.inr (.inl a2)), none, none, none]) (st' := [.inl (x17 + x18), .inl (x15 + x16), .inl x14, .inr (.inl a0)]) rfl ?_
  refine kX3_makeLot F hk (z_row hX3_makeGroup_0 13 rfl) wd_893 (by decide) (Nat.le_of_ble_eq_true rfl) (fun x19 σ20 => ?_)
  refine z_run hk hX3_makeGroup_0 14 3 (pc' := 30) (lv' := [some (.inr (.inl a0)), some (.inr (.inl a1)), some (.inr (.inl a2)), some (.inl x19), some (.inl 0), none]) (st' := []) rfl ?_
  exact gsX3_makeGroup_30 F n hk he n a0 a1 a2 x19 0 σ20
theorem kX3_makeGroup {n : Nat} {own : String} {cc : ByteArray} {nL h index : Nat} {α : Type} {fin : α → zO} {σ : zW} {pc : Nat} {lv : zLV} {st : List zV} {a0 : Nat} {a1 : Nat} {a2 : Nat} {c : Int32 → zW → Option α} (F : zFx E) (hk : zk E K own cc nL h) (hd : decode cc pc = .ok (.invokevirtual index, 3)) (hl : Cond.methodLink own index qX3_makeGroup ∈ lw_tbl) (hh : 4 + 1 ≤ h) (hs : zcat st ≤ 8) (k : ∀ v s, zG E K fin (c v s) s (pc + 3) lv (.inl v :: st)) : zG E K fin (zck σ 4 a0 (zb2 (fX3_makeGroup n a0 a1 a2 σ) c)) σ pc lv (.inr (.inl a2) :: .inr (.inl a1) :: .inr (.inl a0) :: st) :=
  z_vW (n := 2) (y := qX3_makeGroup) (As := [.inr (.inl a1), .inr (.inl a2)]) hk hd hl wd_905 wd_906 wd_2 wd_907 ⟨by decide, by decide, by decide +kernel⟩ ⟨hh, by decide⟩ (ci := 3) rfl rfl rfl (fun o ho => mX3_makeGroup F n a0 a1 a2 σ o ho) hs k
abbrev qX3_orderCount : MethodName := { cls := "LotSales$Sale", name := "orderCount", desc := "()I" }
def sX3_orderCount_4 (n : Nat) (σ : zW) : Nat → Nat → Int32 → Int32 → Option (Int32)
  | 0, _, _, _ => none
  | k + 1, v0, v1, v2 => zgI σ 4 v0 5 fun x1 => if v2 < x1 then zgR σ 4 v0 3 fun x2 => zaR σ 25 x2 v2 fun x3 => zck σ 3 x3 (zb (fX2_orderCount n x3 σ) fun x4 => sX3_orderCount_4 n σ k v0 (v1 + x4) (v2 + 1)) else some v1
def fX3_orderCount (n : Nat) (a0 : Nat) (σ : zW) : Option (Int32) := sX3_orderCount_4 n σ n a0 0 0
theorem gsX3_orderCount_4 (F : zFx E) (n : Nat) (σ : zW) (hk : zk E K "LotSales$Sale" cX3_orderCount 3 1) (he : zend E K (some .int) "orderCount") : ∀ (k : Nat) (v0 : Nat) (v1 : Int32) (v2 : Int32), zG E K (zfR σ) (sX3_orderCount_4 n σ k v0 v1 v2) σ 4 [some (.inr (.inl v0)), some (.inl v1), some (.inl v2)] [] := by
  intro k
  induction k with
  | zero =>
    intro v0 v1 v2
    intro hX
    exact z_none hX
  | succ k ih =>
    intro v0 v1 v2
    rw [sX3_orderCount_4]
    refine z_run hk hX3_orderCount_0 4 2 (pc' := 6) (lv' := [some (.inr (.inl v0)), some (.inl v1), some (.inl v2)]) (st' := [.inr (.inl v0), .inl v2]) rfl ?_
    refine z_gI hk 5 (z_row hX3_orderCount_0 6 rfl) (ci := 3) rfl rfl wd_170 (fun x1 => ?_)
    refine z_cge hk (z_row hX3_orderCount_0 7 rfl) (tgt := 30) rfl ?_ ?_
    · refine z_run hk hX3_orderCount_0 18 1 (pc' := 31) (lv' := [some (.inr (.inl v0)), some (.inl v1), some (.inl v2)]) (st' := [.inl v1]) rfl ?_
      exact z_iret hk he (z_row hX3_orderCount_0 19 rfl) rfl
    · refine z_run hk hX3_orderCount_0 8 2 (pc' := 14) (lv' := [some (.inr (.inl v0)), some (.inl v1), some (.inl v2)]) (st' := [.inr (.inl v0), .inl v1]) rfl ?_
      refine z_gR hk 3 (z_row hX3_orderCount_0 10 rfl) (ci := 3) rfl rfl wd_166 (fun x2 => ?_)
      refine z_run hk hX3_orderCount_0 11 1 (pc' := 18) (lv' := [some (.inr (.inl v0)), some (.inl v1), some (.inl v2)]) (st' := [.inl v2, .inr (.inl x2), .inl v1]) rfl ?_
      refine z_aR hk (κ := 25) (by decide) (z_row hX3_orderCount_0 12 rfl) (fun x3 => ?_)
      refine kX2_orderCount F hk (z_row hX3_orderCount_0 13 rfl) wd_627 (by decide) (Nat.le_of_ble_eq_true rfl) (fun x4 => ?_)
      refine z_run hk hX3_orderCount_0 14 3 (pc' := 27) (lv' := [some (.inr (.inl v0)), some (.inl (v1 + x4)), some (.inl (v2 + 1))]) (st' := []) rfl ?_
      refine z_goto hk (z_row hX3_orderCount_0 17 rfl) (tgt := 4) rfl ?_
      exact ih v0 (v1 + x4) (v2 + 1)
theorem mX3_orderCount (F : zFx E) (n : Nat) (a0 : Nat) (σ : zW) (o : Int32) (hf : fX3_orderCount n a0 σ = some o) : zM E qX3_orderCount cX3_orderCount 3 (some .int) 1 [.inr (.inl a0)] σ (some (.int o)) σ := by
  refine zM_of (fin := (zfR σ)) F (by decide +kernel) rfl (Nat.le_of_ble_eq_true rfl) (lv0 := [some (.inr (.inl a0)), none, none]) rfl hf rfl (fun K hk he => ?_)
  have hk : zk E K "LotSales$Sale" cX3_orderCount 3 1 := hk
  unfold fX3_orderCount
  refine z_run hk hX3_orderCount_0 0 4 (pc' := 4) (lv' := [some (.inr (.inl a0)), some (.inl 0), some (.inl 0)]) (st' := []) rfl ?_
  exact gsX3_orderCount_4 F n σ hk he n a0 0 0
theorem kX3_orderCount {n : Nat} {own : String} {cc : ByteArray} {nL h index : Nat} {α : Type} {fin : α → zO} {σ : zW} {pc : Nat} {lv : zLV} {st : List zV} {a0 : Nat} {c : Int32 → Option α} (F : zFx E) (hk : zk E K own cc nL h) (hd : decode cc pc = .ok (.invokevirtual index, 3)) (hl : Cond.methodLink own index qX3_orderCount ∈ lw_tbl) (hh : 1 + 1 ≤ h) (hs : zcat st ≤ 8) (k : ∀ v, zG E K fin (c v) σ (pc + 3) lv (.inl v :: st)) : zG E K fin (zck σ 4 a0 (zb (fX3_orderCount n a0 σ) c)) σ pc lv (.inr (.inl a0) :: st) :=
  z_vR (n := 0) (y := qX3_orderCount) (As := []) hk hd hl wd_624 wd_625 wd_2 wd_626 ⟨by decide, by decide, by decide +kernel⟩ ⟨hh, by decide⟩ (ci := 3) rfl rfl rfl (fun o ho => mX3_orderCount F n a0 σ o ho) hs k
abbrev qX3_lotsIn : MethodName := { cls := "LotSales$Sale", name := "lotsIn", desc := "(I)I" }
def sX3_lotsIn_28 (n : Nat) (σ : zW) (r4 : Nat → Int32 → Int32 → Int32 → Option (Int32)) (v0 : Nat) (v1 : Int32) (v2 : Int32) (v3 : Int32) : Option (Int32) := r4 v0 v1 v2 (v3 + 1)
def sX3_lotsIn_4 (n : Nat) (σ : zW) : Nat → Nat → Int32 → Int32 → Int32 → Option (Int32)
  | 0, _, _, _, _ => none
  | k + 1, v0, v1, v2, v3 => zgI σ 4 v0 5 fun x1 => if v3 < x1 then zgR σ 4 v0 3 fun x2 => zaR σ 25 x2 v3 fun x3 => zgI σ 3 x3 4 fun x4 => if x4 = v1 then sX3_lotsIn_28 n σ (sX3_lotsIn_4 n σ k) v0 v1 (v2 + 1) v3 else sX3_lotsIn_28 n σ (sX3_lotsIn_4 n σ k) v0 v1 v2 v3 else some v2
def fX3_lotsIn (n : Nat) (a0 : Nat) (a1 : Int32) (σ : zW) : Option (Int32) := sX3_lotsIn_4 n σ n a0 a1 0 0
theorem gsX3_lotsIn_28 (F : zFx E) (n : Nat) (σ : zW) (hk : zk E K "LotSales$Sale" cX3_lotsIn 4 0) (he : zend E K (some .int) "lotsIn") (r4 : Nat → Int32 → Int32 → Int32 → Option (Int32)) (hr4 : ∀ (v0 : Nat) (v1 : Int32) (v2 : Int32) (v3 : Int32), zG E K (zfR σ) (r4 v0 v1 v2 v3) σ 4 [some (.inr (.inl v0)), some (.inl v1), some (.inl v2), some (.inl v3)] []) (v0 : Nat) (v1 : Int32) (v2 : Int32) (v3 : Int32) : zG E K (zfR σ) (sX3_lotsIn_28 n σ r4 v0 v1 v2 v3) σ 28 [some (.inr (.inl v0)), some (.inl v1), some (.inl v2), some (.inl v3)] [] := by
  unfold sX3_lotsIn_28
  refine z_run hk hX3_lotsIn_0 16 1 (pc' := 31) (lv' := [some (.inr (.inl v0)), some (.inl v1), some (.inl v2), some (.inl (v3 + 1))]) (st' := []) rfl ?_
  refine z_goto hk (z_row hX3_lotsIn_0 17 rfl) (tgt := 4) rfl ?_
  exact hr4 v0 v1 v2 (v3 + 1)
theorem gsX3_lotsIn_4 (F : zFx E) (n : Nat) (σ : zW) (hk : zk E K "LotSales$Sale" cX3_lotsIn 4 0) (he : zend E K (some .int) "lotsIn") : ∀ (k : Nat) (v0 : Nat) (v1 : Int32) (v2 : Int32) (v3 : Int32), zG E K (zfR σ) (sX3_lotsIn_4 n σ k v0 v1 v2 v3) σ 4 [some (.inr (.inl v0)), some (.inl v1), some (.inl v2), some (.inl v3)] [] := by
  intro k
  induction k with
  | zero =>
    intro v0 v1 v2 v3
    intro hX
    exact z_none hX
  | succ k ih =>
    intro v0 v1 v2 v3
    rw [sX3_lotsIn_4]
    refine z_run hk hX3_lotsIn_0 4 2 (pc' := 6) (lv' := [some (.inr (.inl v0)), some (.inl v1), some (.inl v2), some (.inl v3)]) (st' := [.inr (.inl v0), .inl v3]) rfl ?_
    refine z_gI hk 5 (z_row hX3_lotsIn_0 6 rfl) (ci := 3) rfl rfl wd_170 (fun x1 => ?_)
    refine z_cge hk (z_row hX3_lotsIn_0 7 rfl) (tgt := 34) rfl ?_ ?_
    · refine z_run hk hX3_lotsIn_0 18 1 (pc' := 35) (lv' := [some (.inr (.inl v0)), some (.inl v1), some (.inl v2), some (.inl v3)]) (st' := [.inl v2]) rfl ?_
      exact z_iret hk he (z_row hX3_lotsIn_0 19 rfl) rfl
    · refine z_run hk hX3_lotsIn_0 8 1 (pc' := 13) (lv' := [some (.inr (.inl v0)), some (.inl v1), some (.inl v2), some (.inl v3)]) (st' := [.inr (.inl v0)]) rfl ?_
      refine z_gR hk 3 (z_row hX3_lotsIn_0 9 rfl) (ci := 3) rfl rfl wd_166 (fun x2 => ?_)
      refine z_run hk hX3_lotsIn_0 10 1 (pc' := 17) (lv' := [some (.inr (.inl v0)), some (.inl v1), some (.inl v2), some (.inl v3)]) (st' := [.inl v3, .inr (.inl x2)]) rfl ?_
      refine z_aR hk (κ := 25) (by decide) (z_row hX3_lotsIn_0 11 rfl) (fun x3 => ?_)
      refine z_gI hk 4 (z_row hX3_lotsIn_0 12 rfl) (ci := 2) rfl rfl wd_114 (fun x4 => ?_)
      refine z_run hk hX3_lotsIn_0 13 1 (pc' := 22) (lv' := [some (.inr (.inl v0)), some (.inl v1), some (.inl v2), some (.inl v3)]) (st' := [.inl v1, .inl x4]) rfl ?_
      refine z_cne hk (z_row hX3_lotsIn_0 14 rfl) (tgt := 28) rfl ?_ ?_
      · exact gsX3_lotsIn_28 F n σ hk he (sX3_lotsIn_4 n σ k) ih v0 v1 v2 v3
      · refine z_run hk hX3_lotsIn_0 15 1 (pc' := 28) (lv' := [some (.inr (.inl v0)), some (.inl v1), some (.inl (v2 + 1)), some (.inl v3)]) (st' := []) rfl ?_
        exact gsX3_lotsIn_28 F n σ hk he (sX3_lotsIn_4 n σ k) ih v0 v1 (v2 + 1) v3
theorem mX3_lotsIn (F : zFx E) (n : Nat) (a0 : Nat) (a1 : Int32) (σ : zW) (o : Int32) (hf : fX3_lotsIn n a0 a1 σ = some o) : zM E qX3_lotsIn cX3_lotsIn 4 (some .int) 0 [.inr (.inl a0), .inl a1] σ (some (.int o)) σ := by
  refine zM_of (fin := (zfR σ)) F (by decide +kernel) rfl (Nat.le_of_ble_eq_true rfl) (lv0 := [some (.inr (.inl a0)), some (.inl a1), none, none]) rfl hf rfl (fun K hk he => ?_)
  have hk : zk E K "LotSales$Sale" cX3_lotsIn 4 0 := hk
  unfold fX3_lotsIn
  refine z_run hk hX3_lotsIn_0 0 4 (pc' := 4) (lv' := [some (.inr (.inl a0)), some (.inl a1), some (.inl 0), some (.inl 0)]) (st' := []) rfl ?_
  exact gsX3_lotsIn_4 F n σ hk he n a0 a1 0 0
theorem kX3_lotsIn {n : Nat} {own : String} {cc : ByteArray} {nL h index : Nat} {α : Type} {fin : α → zO} {σ : zW} {pc : Nat} {lv : zLV} {st : List zV} {a0 : Nat} {a1 : Int32} {c : Int32 → Option α} (F : zFx E) (hk : zk E K own cc nL h) (hd : decode cc pc = .ok (.invokevirtual index, 3)) (hl : Cond.methodLink own index qX3_lotsIn ∈ lw_tbl) (hh : 0 + 1 ≤ h) (hs : zcat st ≤ 8) (k : ∀ v, zG E K fin (c v) σ (pc + 3) lv (.inl v :: st)) : zG E K fin (zck σ 4 a0 (zb (fX3_lotsIn n a0 a1 σ) c)) σ pc lv (.inl a1 :: .inr (.inl a0) :: st) :=
  z_vR (n := 1) (y := qX3_lotsIn) (As := [.inl a1]) hk hd hl wd_536 wd_537 wd_2 wd_538 ⟨by decide, by decide, by decide +kernel⟩ ⟨hh, by decide⟩ (ci := 3) rfl rfl rfl (fun o ho => mX3_lotsIn F n a0 a1 σ o ho) hs k
abbrev qX3_isSoldTo : MethodName := { cls := "LotSales$Sale", name := "isSoldTo", desc := "(II)Z" }
def sX3_isSoldTo_31 (n : Nat) (σ : zW) (y0 : Int32) : Option (Int32) := if y0 = 0 ∨ y0 = 1 then some y0 else none
def sX3_isSoldTo_30 (n : Nat) (σ : zW) : Option (Int32) := sX3_isSoldTo_31 n σ 0
def fX3_isSoldTo (n : Nat) (a0 : Nat) (a1 : Int32) (a2 : Int32) (σ : zW) : Option (Int32) := zgR σ 4 a0 3 fun x1 => zaR σ 25 x1 a1 fun x2 => zgI σ 3 x2 4 fun x3 => if x3 = 2 then zgR σ 4 a0 3 fun x4 => zaR σ 25 x4 a1 fun x5 => zgI σ 3 x5 10 fun x6 => if x6 = a2 then sX3_isSoldTo_31 n σ 1 else sX3_isSoldTo_30 n σ else sX3_isSoldTo_30 n σ
theorem gsX3_isSoldTo_31 (F : zFx E) (n : Nat) (σ : zW) (hk : zk E K "LotSales$Sale" cX3_isSoldTo 3 0) (he : zend E K (some .boolean) "isSoldTo") (y0 : Int32) : zG E K (zfR σ) (sX3_isSoldTo_31 n σ y0) σ 31 [none, none, none] [.inl y0] := by
  unfold sX3_isSoldTo_31
  exact z_zret (fin := (zfR σ)) (o := y0) hk he (z_row hX3_isSoldTo_0 17 rfl) rfl
theorem gsX3_isSoldTo_30 (F : zFx E) (n : Nat) (σ : zW) (hk : zk E K "LotSales$Sale" cX3_isSoldTo 3 0) (he : zend E K (some .boolean) "isSoldTo") : zG E K (zfR σ) (sX3_isSoldTo_30 n σ) σ 30 [none, none, none] [] := by
  unfold sX3_isSoldTo_30
  refine z_run hk hX3_isSoldTo_0 16 1 (pc' := 31) (lv' := [none, none, none]) (st' := [.inl 0]) rfl ?_
  exact gsX3_isSoldTo_31 F n σ hk he 0
theorem mX3_isSoldTo (F : zFx E) (n : Nat) (a0 : Nat) (a1 : Int32) (a2 : Int32) (σ : zW) (o : Int32) (hf : fX3_isSoldTo n a0 a1 a2 σ = some o) : zM E qX3_isSoldTo cX3_isSoldTo 3 (some .boolean) 0 [.inr (.inl a0), .inl a1, .inl a2] σ (some (.int o)) σ := by
  refine zM_of (fin := (zfR σ)) F (by decide +kernel) rfl (Nat.le_of_ble_eq_true rfl) (lv0 := [some (.inr (.inl a0)), some (.inl a1), some (.inl a2)]) rfl hf rfl (fun K hk he => ?_)
  have hk : zk E K "LotSales$Sale" cX3_isSoldTo 3 0 := hk
  unfold fX3_isSoldTo
  refine z_run hk hX3_isSoldTo_0 0 1 (pc' := 1) (lv' := [some (.inr (.inl a0)), some (.inl a1), some (.inl a2)]) (st' := [.inr (.inl a0)]) rfl ?_
  refine z_gR hk 3 (z_row hX3_isSoldTo_0 1 rfl) (ci := 3) rfl rfl wd_166 (fun x1 => ?_)
  refine z_run hk hX3_isSoldTo_0 2 1 (pc' := 5) (lv' := [some (.inr (.inl a0)), some (.inl a1), some (.inl a2)]) (st' := [.inl a1, .inr (.inl x1)]) rfl ?_
  refine z_aR hk (κ := 25) (by decide) (z_row hX3_isSoldTo_0 3 rfl) (fun x2 => ?_)
  refine z_gI hk 4 (z_row hX3_isSoldTo_0 4 rfl) (ci := 2) rfl rfl wd_114 (fun x3 => ?_)
  refine z_run hk hX3_isSoldTo_0 5 1 (pc' := 10) (lv' := [some (.inr (.inl a0)), some (.inl a1), some (.inl a2)]) (st' := [.inl 2, .inl x3]) rfl ?_
  refine z_cne hk (z_row hX3_isSoldTo_0 6 rfl) (tgt := 30) rfl ?_ ?_
  · refine z_mask [false, false, false] rfl ?_
    exact gsX3_isSoldTo_30 F n σ hk he
  · refine z_run hk hX3_isSoldTo_0 7 1 (pc' := 14) (lv' := [some (.inr (.inl a0)), some (.inl a1), some (.inl a2)]) (st' := [.inr (.inl a0)]) rfl ?_
    refine z_gR hk 3 (z_row hX3_isSoldTo_0 8 rfl) (ci := 3) rfl rfl wd_166 (fun x4 => ?_)
    refine z_run hk hX3_isSoldTo_0 9 1 (pc' := 18) (lv' := [some (.inr (.inl a0)), some (.inl a1), some (.inl a2)]) (st' := [.inl a1, .inr (.inl x4)]) rfl ?_
    refine z_aR hk (κ := 25) (by decide) (z_row hX3_isSoldTo_0 10 rfl) (fun x5 => ?_)
    refine z_gI hk 10 (z_row hX3_isSoldTo_0 11 rfl) (ci := 2) rfl rfl wd_130 (fun x6 => ?_)
    refine z_run hk hX3_isSoldTo_0 12 1 (pc' := 23) (lv' := [some (.inr (.inl a0)), some (.inl a1), some (.inl a2)]) (st' := [.inl a2, .inl x6]) rfl ?_
    refine z_cne hk (z_row hX3_isSoldTo_0 13 rfl) (tgt := 30) rfl ?_ ?_
    · refine z_mask [false, false, false] rfl ?_
      exact gsX3_isSoldTo_30 F n σ hk he
    · refine z_run hk hX3_isSoldTo_0 14 1 (pc' := 27) (lv' := [some (.inr (.inl a0)), some (.inl a1), some (.inl a2)]) (st' := [.inl 1]) rfl ?_
      refine z_goto hk (z_row hX3_isSoldTo_0 15 rfl) (tgt := 31) rfl ?_
      refine z_mask [false, false, false] rfl ?_
      exact gsX3_isSoldTo_31 F n σ hk he 1
theorem kX3_isSoldTo {n : Nat} {own : String} {cc : ByteArray} {nL h index : Nat} {α : Type} {fin : α → zO} {σ : zW} {pc : Nat} {lv : zLV} {st : List zV} {a0 : Nat} {a1 : Int32} {a2 : Int32} {c : Int32 → Option α} (F : zFx E) (hk : zk E K own cc nL h) (hd : decode cc pc = .ok (.invokevirtual index, 3)) (hl : Cond.methodLink own index qX3_isSoldTo ∈ lw_tbl) (hh : 0 + 1 ≤ h) (hs : zcat st ≤ 8) (k : ∀ v, zG E K fin (c v) σ (pc + 3) lv (.inl v :: st)) : zG E K fin (zck σ 4 a0 (zb (fX3_isSoldTo n a0 a1 a2 σ) c)) σ pc lv (.inl a2 :: .inl a1 :: .inr (.inl a0) :: st) :=
  z_vR (n := 2) (y := qX3_isSoldTo) (As := [.inl a1, .inl a2]) hk hd hl wd_303 wd_304 wd_2 wd_305 ⟨by decide, by decide, by decide +kernel⟩ ⟨hh, by decide⟩ (ci := 3) rfl rfl rfl (fun o ho => mX3_isSoldTo F n a0 a1 a2 σ o ho) hs k
abbrev qX3_lotsTo : MethodName := { cls := "LotSales$Sale", name := "lotsTo", desc := "(I)I" }
def sX3_lotsTo_24 (n : Nat) (σ : zW) (r4 : Nat → Int32 → Int32 → Int32 → Option (Int32)) (v0 : Nat) (v1 : Int32) (v2 : Int32) (v3 : Int32) : Option (Int32) := r4 v0 v1 v2 (v3 + 1)
def sX3_lotsTo_4 (n : Nat) (σ : zW) : Nat → Nat → Int32 → Int32 → Int32 → Option (Int32)
  | 0, _, _, _, _ => none
  | k + 1, v0, v1, v2, v3 => zgI σ 4 v0 5 fun x1 => if v3 < x1 then zck σ 4 v0 (zb (fX3_isSoldTo n v0 v3 v1 σ) fun x2 => if x2 = 0 then sX3_lotsTo_24 n σ (sX3_lotsTo_4 n σ k) v0 v1 v2 v3 else sX3_lotsTo_24 n σ (sX3_lotsTo_4 n σ k) v0 v1 (v2 + 1) v3) else some v2
def fX3_lotsTo (n : Nat) (a0 : Nat) (a1 : Int32) (σ : zW) : Option (Int32) := sX3_lotsTo_4 n σ n a0 a1 0 0
theorem gsX3_lotsTo_24 (F : zFx E) (n : Nat) (σ : zW) (hk : zk E K "LotSales$Sale" cX3_lotsTo 4 1) (he : zend E K (some .int) "lotsTo") (r4 : Nat → Int32 → Int32 → Int32 → Option (Int32)) (hr4 : ∀ (v0 : Nat) (v1 : Int32) (v2 : Int32) (v3 : Int32), zG E K (zfR σ) (r4 v0 v1 v2 v3) σ 4 [some (.inr (.inl v0)), some (.inl v1), some (.inl v2), some (.inl v3)] []) (v0 : Nat) (v1 : Int32) (v2 : Int32) (v3 : Int32) : zG E K (zfR σ) (sX3_lotsTo_24 n σ r4 v0 v1 v2 v3) σ 24 [some (.inr (.inl v0)), some (.inl v1), some (.inl v2), some (.inl v3)] [] := by
  unfold sX3_lotsTo_24
  refine z_run hk hX3_lotsTo_0 14 1 (pc' := 27) (lv' := [some (.inr (.inl v0)), some (.inl v1), some (.inl v2), some (.inl (v3 + 1))]) (st' := []) rfl ?_
  refine z_goto hk (z_row hX3_lotsTo_0 15 rfl) (tgt := 4) rfl ?_
  exact hr4 v0 v1 v2 (v3 + 1)
theorem gsX3_lotsTo_4 (F : zFx E) (n : Nat) (σ : zW) (hk : zk E K "LotSales$Sale" cX3_lotsTo 4 1) (he : zend E K (some .int) "lotsTo") : ∀ (k : Nat) (v0 : Nat) (v1 : Int32) (v2 : Int32) (v3 : Int32), zG E K (zfR σ) (sX3_lotsTo_4 n σ k v0 v1 v2 v3) σ 4 [some (.inr (.inl v0)), some (.inl v1), some (.inl v2), some (.inl v3)] [] := by
  intro k
  induction k with
  | zero =>
    intro v0 v1 v2 v3
    intro hX
    exact z_none hX
  | succ k ih =>
    intro v0 v1 v2 v3
    rw [sX3_lotsTo_4]
    refine z_run hk hX3_lotsTo_0 4 2 (pc' := 6) (lv' := [some (.inr (.inl v0)), some (.inl v1), some (.inl v2), some (.inl v3)]) (st' := [.inr (.inl v0), .inl v3]) rfl ?_
    refine z_gI hk 5 (z_row hX3_lotsTo_0 6 rfl) (ci := 3) rfl rfl wd_170 (fun x1 => ?_)
    refine z_cge hk (z_row hX3_lotsTo_0 7 rfl) (tgt := 30) rfl ?_ ?_
    · refine z_run hk hX3_lotsTo_0 16 1 (pc' := 31) (lv' := [some (.inr (.inl v0)), some (.inl v1), some (.inl v2), some (.inl v3)]) (st' := [.inl v2]) rfl ?_
      exact z_iret hk he (z_row hX3_lotsTo_0 17 rfl) rfl
    · refine z_run hk hX3_lotsTo_0 8 3 (pc' := 15) (lv' := [some (.inr (.inl v0)), some (.inl v1), some (.inl v2), some (.inl v3)]) (st' := [.inl v1, .inl v3, .inr (.inl v0)]) rfl ?_
      refine kX3_isSoldTo F hk (z_row hX3_lotsTo_0 11 rfl) wd_302 (by decide) (Nat.le_of_ble_eq_true rfl) (fun x2 => ?_)
      refine z_eq hk (z_row hX3_lotsTo_0 12 rfl) (tgt := 24) rfl ?_ ?_
      · exact gsX3_lotsTo_24 F n σ hk he (sX3_lotsTo_4 n σ k) ih v0 v1 v2 v3
      · refine z_run hk hX3_lotsTo_0 13 1 (pc' := 24) (lv' := [some (.inr (.inl v0)), some (.inl v1), some (.inl (v2 + 1)), some (.inl v3)]) (st' := []) rfl ?_
        exact gsX3_lotsTo_24 F n σ hk he (sX3_lotsTo_4 n σ k) ih v0 v1 (v2 + 1) v3
theorem mX3_lotsTo (F : zFx E) (n : Nat) (a0 : Nat) (a1 : Int32) (σ : zW) (o : Int32) (hf : fX3_lotsTo n a0 a1 σ = some o) : zM E qX3_lotsTo cX3_lotsTo 4 (some .int) 1 [.inr (.inl a0), .inl a1] σ (some (.int o)) σ := by
  refine zM_of (fin := (zfR σ)) F (by decide +kernel) rfl (Nat.le_of_ble_eq_true rfl) (lv0 := [some (.inr (.inl a0)), some (.inl a1), none, none]) rfl hf rfl (fun K hk he => ?_)
  have hk : zk E K "LotSales$Sale" cX3_lotsTo 4 1 := hk
  unfold fX3_lotsTo
  refine z_run hk hX3_lotsTo_0 0 4 (pc' := 4) (lv' := [some (.inr (.inl a0)), some (.inl a1), some (.inl 0), some (.inl 0)]) (st' := []) rfl ?_
  exact gsX3_lotsTo_4 F n σ hk he n a0 a1 0 0
theorem kX3_lotsTo {n : Nat} {own : String} {cc : ByteArray} {nL h index : Nat} {α : Type} {fin : α → zO} {σ : zW} {pc : Nat} {lv : zLV} {st : List zV} {a0 : Nat} {a1 : Int32} {c : Int32 → Option α} (F : zFx E) (hk : zk E K own cc nL h) (hd : decode cc pc = .ok (.invokevirtual index, 3)) (hl : Cond.methodLink own index qX3_lotsTo ∈ lw_tbl) (hh : 1 + 1 ≤ h) (hs : zcat st ≤ 8) (k : ∀ v, zG E K fin (c v) σ (pc + 3) lv (.inl v :: st)) : zG E K fin (zck σ 4 a0 (zb (fX3_lotsTo n a0 a1 σ) c)) σ pc lv (.inl a1 :: .inr (.inl a0) :: st) :=
  z_vR (n := 1) (y := qX3_lotsTo) (As := [.inl a1]) hk hd hl wd_950 wd_951 wd_2 wd_952 ⟨by decide, by decide, by decide +kernel⟩ ⟨hh, by decide⟩ (ci := 3) rfl rfl rfl (fun o ho => mX3_lotsTo F n a0 a1 σ o ho) hs k
abbrev qX3_pricesTo : MethodName := { cls := "LotSales$Sale", name := "pricesTo", desc := "(I)I" }
def sX3_pricesTo_33 (n : Nat) (σ : zW) (r4 : Nat → Int32 → Int32 → Int32 → Option (Int32)) (v0 : Nat) (v1 : Int32) (v2 : Int32) (v3 : Int32) : Option (Int32) := r4 v0 v1 v2 (v3 + 1)
def sX3_pricesTo_4 (n : Nat) (σ : zW) : Nat → Nat → Int32 → Int32 → Int32 → Option (Int32)
  | 0, _, _, _, _ => none
  | k + 1, v0, v1, v2, v3 => zgI σ 4 v0 5 fun x1 => if v3 < x1 then zck σ 4 v0 (zb (fX3_isSoldTo n v0 v3 v1 σ) fun x2 => if x2 = 0 then sX3_pricesTo_33 n σ (sX3_pricesTo_4 n σ k) v0 v1 v2 v3 else zgR σ 4 v0 3 fun x3 => zaR σ 25 x3 v3 fun x4 => zgI σ 3 x4 11 fun x5 => sX3_pricesTo_33 n σ (sX3_pricesTo_4 n σ k) v0 v1 (v2 + x5) v3) else some v2
def fX3_pricesTo (n : Nat) (a0 : Nat) (a1 : Int32) (σ : zW) : Option (Int32) := sX3_pricesTo_4 n σ n a0 a1 0 0
theorem gsX3_pricesTo_33 (F : zFx E) (n : Nat) (σ : zW) (hk : zk E K "LotSales$Sale" cX3_pricesTo 4 1) (he : zend E K (some .int) "pricesTo") (r4 : Nat → Int32 → Int32 → Int32 → Option (Int32)) (hr4 : ∀ (v0 : Nat) (v1 : Int32) (v2 : Int32) (v3 : Int32), zG E K (zfR σ) (r4 v0 v1 v2 v3) σ 4 [some (.inr (.inl v0)), some (.inl v1), some (.inl v2), some (.inl v3)] []) (v0 : Nat) (v1 : Int32) (v2 : Int32) (v3 : Int32) : zG E K (zfR σ) (sX3_pricesTo_33 n σ r4 v0 v1 v2 v3) σ 33 [some (.inr (.inl v0)), some (.inl v1), some (.inl v2), some (.inl v3)] [] := by
  unfold sX3_pricesTo_33
  refine z_run hk hX3_pricesTo_0 21 1 (pc' := 36) (lv' := [some (.inr (.inl v0)), some (.inl v1), some (.inl v2), some (.inl (v3 + 1))]) (st' := []) rfl ?_
  refine z_goto hk (z_row hX3_pricesTo_0 22 rfl) (tgt := 4) rfl ?_
  exact hr4 v0 v1 v2 (v3 + 1)
theorem gsX3_pricesTo_4 (F : zFx E) (n : Nat) (σ : zW) (hk : zk E K "LotSales$Sale" cX3_pricesTo 4 1) (he : zend E K (some .int) "pricesTo") : ∀ (k : Nat) (v0 : Nat) (v1 : Int32) (v2 : Int32) (v3 : Int32), zG E K (zfR σ) (sX3_pricesTo_4 n σ k v0 v1 v2 v3) σ 4 [some (.inr (.inl v0)), some (.inl v1), some (.inl v2), some (.inl v3)] [] := by
  intro k
  induction k with
  | zero =>
    intro v0 v1 v2 v3
    intro hX
    exact z_none hX
  | succ k ih =>
    intro v0 v1 v2 v3
    rw [sX3_pricesTo_4]
    refine z_run hk hX3_pricesTo_0 4 2 (pc' := 6) (lv' := [some (.inr (.inl v0)), some (.inl v1), some (.inl v2), some (.inl v3)]) (st' := [.inr (.inl v0), .inl v3]) rfl ?_
    refine z_gI hk 5 (z_row hX3_pricesTo_0 6 rfl) (ci := 3) rfl rfl wd_170 (fun x1 => ?_)
    refine z_cge hk (z_row hX3_pricesTo_0 7 rfl) (tgt := 39) rfl ?_ ?_
    · refine z_run hk hX3_pricesTo_0 23 1 (pc' := 40) (lv' := [some (.inr (.inl v0)), some (.inl v1), some (.inl v2), some (.inl v3)]) (st' := [.inl v2]) rfl ?_
      exact z_iret hk he (z_row hX3_pricesTo_0 24 rfl) rfl
    · refine z_run hk hX3_pricesTo_0 8 3 (pc' := 15) (lv' := [some (.inr (.inl v0)), some (.inl v1), some (.inl v2), some (.inl v3)]) (st' := [.inl v1, .inl v3, .inr (.inl v0)]) rfl ?_
      refine kX3_isSoldTo F hk (z_row hX3_pricesTo_0 11 rfl) wd_302 (by decide) (Nat.le_of_ble_eq_true rfl) (fun x2 => ?_)
      refine z_eq hk (z_row hX3_pricesTo_0 12 rfl) (tgt := 33) rfl ?_ ?_
      · exact gsX3_pricesTo_33 F n σ hk he (sX3_pricesTo_4 n σ k) ih v0 v1 v2 v3
      · refine z_run hk hX3_pricesTo_0 13 2 (pc' := 23) (lv' := [some (.inr (.inl v0)), some (.inl v1), some (.inl v2), some (.inl v3)]) (st' := [.inr (.inl v0), .inl v2]) rfl ?_
        refine z_gR hk 3 (z_row hX3_pricesTo_0 15 rfl) (ci := 3) rfl rfl wd_166 (fun x3 => ?_)
        refine z_run hk hX3_pricesTo_0 16 1 (pc' := 27) (lv' := [some (.inr (.inl v0)), some (.inl v1), some (.inl v2), some (.inl v3)]) (st' := [.inl v3, .inr (.inl x3), .inl v2]) rfl ?_
        refine z_aR hk (κ := 25) (by decide) (z_row hX3_pricesTo_0 17 rfl) (fun x4 => ?_)
        refine z_gI hk 11 (z_row hX3_pricesTo_0 18 rfl) (ci := 2) rfl rfl wd_133 (fun x5 => ?_)
        refine z_run hk hX3_pricesTo_0 19 2 (pc' := 33) (lv' := [some (.inr (.inl v0)), some (.inl v1), some (.inl (v2 + x5)), some (.inl v3)]) (st' := []) rfl ?_
        exact gsX3_pricesTo_33 F n σ hk he (sX3_pricesTo_4 n σ k) ih v0 v1 (v2 + x5) v3
theorem mX3_pricesTo (F : zFx E) (n : Nat) (a0 : Nat) (a1 : Int32) (σ : zW) (o : Int32) (hf : fX3_pricesTo n a0 a1 σ = some o) : zM E qX3_pricesTo cX3_pricesTo 4 (some .int) 1 [.inr (.inl a0), .inl a1] σ (some (.int o)) σ := by
  refine zM_of (fin := (zfR σ)) F (by decide +kernel) rfl (Nat.le_of_ble_eq_true rfl) (lv0 := [some (.inr (.inl a0)), some (.inl a1), none, none]) rfl hf rfl (fun K hk he => ?_)
  have hk : zk E K "LotSales$Sale" cX3_pricesTo 4 1 := hk
  unfold fX3_pricesTo
  refine z_run hk hX3_pricesTo_0 0 4 (pc' := 4) (lv' := [some (.inr (.inl a0)), some (.inl a1), some (.inl 0), some (.inl 0)]) (st' := []) rfl ?_
  exact gsX3_pricesTo_4 F n σ hk he n a0 a1 0 0
theorem kX3_pricesTo {n : Nat} {own : String} {cc : ByteArray} {nL h index : Nat} {α : Type} {fin : α → zO} {σ : zW} {pc : Nat} {lv : zLV} {st : List zV} {a0 : Nat} {a1 : Int32} {c : Int32 → Option α} (F : zFx E) (hk : zk E K own cc nL h) (hd : decode cc pc = .ok (.invokevirtual index, 3)) (hl : Cond.methodLink own index qX3_pricesTo ∈ lw_tbl) (hh : 1 + 1 ≤ h) (hs : zcat st ≤ 8) (k : ∀ v, zG E K fin (c v) σ (pc + 3) lv (.inl v :: st)) : zG E K fin (zck σ 4 a0 (zb (fX3_pricesTo n a0 a1 σ) c)) σ pc lv (.inl a1 :: .inr (.inl a0) :: st) :=
  z_vR (n := 1) (y := qX3_pricesTo) (As := [.inl a1]) hk hd hl wd_299 wd_300 wd_2 wd_301 ⟨by decide, by decide, by decide +kernel⟩ ⟨hh, by decide⟩ (ci := 3) rfl rfl rfl (fun o ho => mX3_pricesTo F n a0 a1 σ o ho) hs k
abbrev qX7_premiumOf : MethodName := { cls := "LotSales", name := "premiumOf", desc := "(I)I" }
def fX7_premiumOf (n : Nat) (a0 : Int32) (σ : zW) : Option (Int32) := zdv 100 (zdv 100 (zdv 100 (some (((((if 1000 < a0 then 1000 else a0) * 25) / 100) + ((((if 5000 < a0 then 5000 else a0) - (if 1000 < a0 then 1000 else a0)) * 20) / 100)) + ((((a0 - ((if 5000 < a0 then 5000 else a0) - (if 1000 < a0 then 1000 else a0))) - (if 1000 < a0 then 1000 else a0)) * 12) / 100)))))
theorem mX7_premiumOf (F : zFx E) (n : Nat) (a0 : Int32) (σ : zW) (o : Int32) (hf : fX7_premiumOf n a0 σ = some o) : zM E qX7_premiumOf cX7_premiumOf 4 (some .int) 1 [.inl a0] σ (some (.int o)) σ := by
  refine zM_of (fin := (zfR σ)) F (by decide +kernel) rfl (Nat.le_of_ble_eq_true rfl) (lv0 := [some (.inl a0), none, none, none]) rfl hf rfl (fun K hk he => ?_)
  have hk : zk E K "LotSales" cX7_premiumOf 4 1 := hk
  unfold fX7_premiumOf
  refine z_run hk hX7_premiumOf_0 0 2 (pc' := 4) (lv' := [some (.inl a0), none, none, none]) (st' := [.inl 1000, .inl a0]) rfl ?_
  refine z_mmin hk (z_row hX7_premiumOf_0 2 rfl) wd_936 wd_453 wd_16 wd_454 (by decide) (Nat.le_of_ble_eq_true rfl) ?_
  refine z_run hk hX7_premiumOf_0 3 3 (pc' := 12) (lv' := [some (.inl a0), some (.inl (if 1000 < a0 then 1000 else a0)), none, none]) (st' := [.inl 5000, .inl a0]) rfl ?_
  refine z_mmin hk (z_row hX7_premiumOf_0 6 rfl) wd_936 wd_453 wd_16 wd_454 (by decide) (Nat.le_of_ble_eq_true rfl) ?_
  refine z_run hk hX7_premiumOf_0 7 13 (pc' := 30) (lv' := [some (.inl a0), some (.inl (if 1000 < a0 then 1000 else a0)), some (.inl ((if 5000 < a0 then 5000 else a0) - (if 1000 < a0 then 1000 else a0))), some (.inl ((a0 - ((if 5000 < a0 then 5000 else a0) - (if 1000 < a0 then 1000 else a0))) - (if 1000 < a0 then 1000 else a0)))]) (st' := [.inl 100, .inl ((if 1000 < a0 then 1000 else a0) * 25)]) rfl ?_
  refine z_idiv hk (z_row hX7_premiumOf_0 20 rfl) ?_
  refine z_run hk hX7_premiumOf_0 21 4 (pc' := 37) (lv' := [some (.inl a0), some (.inl (if 1000 < a0 then 1000 else a0)), some (.inl ((if 5000 < a0 then 5000 else a0) - (if 1000 < a0 then 1000 else a0))), some (.inl ((a0 - ((if 5000 < a0 then 5000 else a0) - (if 1000 < a0 then 1000 else a0))) - (if 1000 < a0 then 1000 else a0)))]) (st' := [.inl 100, .inl (((if 5000 < a0 then 5000 else a0) - (if 1000 < a0 then 1000 else a0)) * 20), .inl (((if 1000 < a0 then 1000 else a0) * 25) / 100)]) rfl ?_
  refine z_idiv hk (z_row hX7_premiumOf_0 25 rfl) ?_
  refine z_run hk hX7_premiumOf_0 26 5 (pc' := 45) (lv' := [some (.inl a0), some (.inl (if 1000 < a0 then 1000 else a0)), some (.inl ((if 5000 < a0 then 5000 else a0) - (if 1000 < a0 then 1000 else a0))), some (.inl ((a0 - ((if 5000 < a0 then 5000 else a0) - (if 1000 < a0 then 1000 else a0))) - (if 1000 < a0 then 1000 else a0)))]) (st' := [.inl 100, .inl (((a0 - ((if 5000 < a0 then 5000 else a0) - (if 1000 < a0 then 1000 else a0))) - (if 1000 < a0 then 1000 else a0)) * 12), .inl ((((if 1000 < a0 then 1000 else a0) * 25) / 100) + ((((if 5000 < a0 then 5000 else a0) - (if 1000 < a0 then 1000 else a0)) * 20) / 100))]) rfl ?_
  refine z_idiv hk (z_row hX7_premiumOf_0 31 rfl) ?_
  refine z_run hk hX7_premiumOf_0 32 1 (pc' := 47) (lv' := [some (.inl a0), some (.inl (if 1000 < a0 then 1000 else a0)), some (.inl ((if 5000 < a0 then 5000 else a0) - (if 1000 < a0 then 1000 else a0))), some (.inl ((a0 - ((if 5000 < a0 then 5000 else a0) - (if 1000 < a0 then 1000 else a0))) - (if 1000 < a0 then 1000 else a0)))]) (st' := [.inl (((((if 1000 < a0 then 1000 else a0) * 25) / 100) + ((((if 5000 < a0 then 5000 else a0) - (if 1000 < a0 then 1000 else a0)) * 20) / 100)) + ((((a0 - ((if 5000 < a0 then 5000 else a0) - (if 1000 < a0 then 1000 else a0))) - (if 1000 < a0 then 1000 else a0)) * 12) / 100))]) rfl ?_
  exact z_iret hk he (z_row hX7_premiumOf_0 33 rfl) rfl
theorem kX7_premiumOf {n : Nat} {own : String} {cc : ByteArray} {nL h index : Nat} {α : Type} {fin : α → zO} {σ : zW} {pc : Nat} {lv : zLV} {st : List zV} {a0 : Int32} {c : Int32 → Option α} (F : zFx E) (hk : zk E K own cc nL h) (hd : decode cc pc = .ok (.invokestatic index, 3)) (hl : Cond.methodLink own index qX7_premiumOf ∈ lw_tbl) (hh : 1 + 1 ≤ h) (hs : zcat st ≤ 8) (k : ∀ v, zG E K fin (c v) σ (pc + 3) lv (.inl v :: st)) : zG E K fin (zb (fX7_premiumOf n a0 σ) c) σ pc lv (.inl a0 :: st) :=
  z_qR (n := 1) (y := qX7_premiumOf) (As := [.inl a0]) hk hd hl wd_934 wd_1 wd_935 ⟨by decide, by decide, by decide +kernel⟩ ⟨hh, by decide⟩ rfl (fun o ho => mX7_premiumOf F n a0 σ o ho) hs k
theorem kX7_premiumOf_n {n : Nat} {own : String} {cc : ByteArray} {nL h index : Nat} {α : Type} {fin : α → zO} {σ : zW} {pc : Nat} {lv : zLV} {st : List zV} {a0 : Int32} {c : Int32 → Option α} (F : zFx E) (hk : zk E K own cc nL h) (hd : decode cc pc = .ok (.invokestatic index, 3)) (hl : Cond.methodLinkNest own index qX7_premiumOf "LotSales" ∈ lw_tbl) (hh : 1 + 1 ≤ h) (hs : zcat st ≤ 8) (k : ∀ v, zG E K fin (c v) σ (pc + 3) lv (.inl v :: st)) : zG E K fin (zb (fX7_premiumOf n a0 σ) c) σ pc lv (.inl a0 :: st) :=
  z_qnR (n := 1) (y := qX7_premiumOf) (As := [.inl a0]) hk hd hl wd_934 wd_1 wd_935 ⟨by decide, by decide, by decide +kernel⟩ ⟨hh, by decide⟩ rfl (fun o ho => mX7_premiumOf F n a0 σ o ho) hs k
abbrev qX3_premiumsOf : MethodName := { cls := "LotSales$Sale", name := "premiumsOf", desc := "(I)I" }
def sX3_premiumsOf_36 (n : Nat) (σ : zW) (r4 : Nat → Int32 → Int32 → Int32 → Option (Int32)) (v0 : Nat) (v1 : Int32) (v2 : Int32) (v3 : Int32) : Option (Int32) := r4 v0 v1 v2 (v3 + 1)
def sX3_premiumsOf_4 (n : Nat) (σ : zW) : Nat → Nat → Int32 → Int32 → Int32 → Option (Int32)
  | 0, _, _, _, _ => none
  | k + 1, v0, v1, v2, v3 => zgI σ 4 v0 5 fun x1 => if v3 < x1 then zck σ 4 v0 (zb (fX3_isSoldTo n v0 v3 v1 σ) fun x2 => if x2 = 0 then sX3_premiumsOf_36 n σ (sX3_premiumsOf_4 n σ k) v0 v1 v2 v3 else zgR σ 4 v0 3 fun x3 => zaR σ 25 x3 v3 fun x4 => zgI σ 3 x4 11 fun x5 => zb (fX7_premiumOf n x5 σ) fun x6 => sX3_premiumsOf_36 n σ (sX3_premiumsOf_4 n σ k) v0 v1 (v2 + x6) v3) else some v2
def fX3_premiumsOf (n : Nat) (a0 : Nat) (a1 : Int32) (σ : zW) : Option (Int32) := sX3_premiumsOf_4 n σ n a0 a1 0 0
theorem gsX3_premiumsOf_36 (F : zFx E) (n : Nat) (σ : zW) (hk : zk E K "LotSales$Sale" cX3_premiumsOf 4 2) (he : zend E K (some .int) "premiumsOf") (r4 : Nat → Int32 → Int32 → Int32 → Option (Int32)) (hr4 : ∀ (v0 : Nat) (v1 : Int32) (v2 : Int32) (v3 : Int32), zG E K (zfR σ) (r4 v0 v1 v2 v3) σ 4 [some (.inr (.inl v0)), some (.inl v1), some (.inl v2), some (.inl v3)] []) (v0 : Nat) (v1 : Int32) (v2 : Int32) (v3 : Int32) : zG E K (zfR σ) (sX3_premiumsOf_36 n σ r4 v0 v1 v2 v3) σ 36 [some (.inr (.inl v0)), some (.inl v1), some (.inl v2), some (.inl v3)] [] := by
  unfold sX3_premiumsOf_36
  refine z_run hk hX3_premiumsOf_0 22 1 (pc' := 39) (lv' := [some (.inr (.inl v0)), some (.inl v1), some (.inl v2), some (.inl (v3 + 1))]) (st' := []) rfl ?_
  refine z_goto hk (z_row hX3_premiumsOf_0 23 rfl) (tgt := 4) rfl ?_
  exact hr4 v0 v1 v2 (v3 + 1)
theorem gsX3_premiumsOf_4 (F : zFx E) (n : Nat) (σ : zW) (hk : zk E K "LotSales$Sale" cX3_premiumsOf 4 2) (he : zend E K (some .int) "premiumsOf") : ∀ (k : Nat) (v0 : Nat) (v1 : Int32) (v2 : Int32) (v3 : Int32), zG E K (zfR σ) (sX3_premiumsOf_4 n σ k v0 v1 v2 v3) σ 4 [some (.inr (.inl v0)), some (.inl v1), some (.inl v2), some (.inl v3)] [] := by
  intro k
  induction k with
  | zero =>
    intro v0 v1 v2 v3
    intro hX
    exact z_none hX
  | succ k ih =>
    intro v0 v1 v2 v3
    rw [sX3_premiumsOf_4]
    refine z_run hk hX3_premiumsOf_0 4 2 (pc' := 6) (lv' := [some (.inr (.inl v0)), some (.inl v1), some (.inl v2), some (.inl v3)]) (st' := [.inr (.inl v0), .inl v3]) rfl ?_
    refine z_gI hk 5 (z_row hX3_premiumsOf_0 6 rfl) (ci := 3) rfl rfl wd_170 (fun x1 => ?_)
    refine z_cge hk (z_row hX3_premiumsOf_0 7 rfl) (tgt := 42) rfl ?_ ?_
    · refine z_run hk hX3_premiumsOf_0 24 1 (pc' := 43) (lv' := [some (.inr (.inl v0)), some (.inl v1), some (.inl v2), some (.inl v3)]) (st' := [.inl v2]) rfl ?_
      exact z_iret hk he (z_row hX3_premiumsOf_0 25 rfl) rfl
    · refine z_run hk hX3_premiumsOf_0 8 3 (pc' := 15) (lv' := [some (.inr (.inl v0)), some (.inl v1), some (.inl v2), some (.inl v3)]) (st' := [.inl v1, .inl v3, .inr (.inl v0)]) rfl ?_
      refine kX3_isSoldTo F hk (z_row hX3_premiumsOf_0 11 rfl) wd_302 (by decide) (Nat.le_of_ble_eq_true rfl) (fun x2 => ?_)
      refine z_eq hk (z_row hX3_premiumsOf_0 12 rfl) (tgt := 36) rfl ?_ ?_
      · exact gsX3_premiumsOf_36 F n σ hk he (sX3_premiumsOf_4 n σ k) ih v0 v1 v2 v3
      · refine z_run hk hX3_premiumsOf_0 13 2 (pc' := 23) (lv' := [some (.inr (.inl v0)), some (.inl v1), some (.inl v2), some (.inl v3)]) (st' := [.inr (.inl v0), .inl v2]) rfl ?_
        refine z_gR hk 3 (z_row hX3_premiumsOf_0 15 rfl) (ci := 3) rfl rfl wd_166 (fun x3 => ?_)
        refine z_run hk hX3_premiumsOf_0 16 1 (pc' := 27) (lv' := [some (.inr (.inl v0)), some (.inl v1), some (.inl v2), some (.inl v3)]) (st' := [.inl v3, .inr (.inl x3), .inl v2]) rfl ?_
        refine z_aR hk (κ := 25) (by decide) (z_row hX3_premiumsOf_0 17 rfl) (fun x4 => ?_)
        refine z_gI hk 11 (z_row hX3_premiumsOf_0 18 rfl) (ci := 2) rfl rfl wd_133 (fun x5 => ?_)
        refine kX7_premiumOf_n F hk (z_row hX3_premiumsOf_0 19 rfl) wd_948 (by decide) (Nat.le_of_ble_eq_true rfl) (fun x6 => ?_)
        refine z_run hk hX3_premiumsOf_0 20 2 (pc' := 36) (lv' := [some (.inr (.inl v0)), some (.inl v1), some (.inl (v2 + x6)), some (.inl v3)]) (st' := []) rfl ?_
        exact gsX3_premiumsOf_36 F n σ hk he (sX3_premiumsOf_4 n σ k) ih v0 v1 (v2 + x6) v3
theorem mX3_premiumsOf (F : zFx E) (n : Nat) (a0 : Nat) (a1 : Int32) (σ : zW) (o : Int32) (hf : fX3_premiumsOf n a0 a1 σ = some o) : zM E qX3_premiumsOf cX3_premiumsOf 4 (some .int) 2 [.inr (.inl a0), .inl a1] σ (some (.int o)) σ := by
  refine zM_of (fin := (zfR σ)) F (by decide +kernel) rfl (Nat.le_of_ble_eq_true rfl) (lv0 := [some (.inr (.inl a0)), some (.inl a1), none, none]) rfl hf rfl (fun K hk he => ?_)
  have hk : zk E K "LotSales$Sale" cX3_premiumsOf 4 2 := hk
  unfold fX3_premiumsOf
  refine z_run hk hX3_premiumsOf_0 0 4 (pc' := 4) (lv' := [some (.inr (.inl a0)), some (.inl a1), some (.inl 0), some (.inl 0)]) (st' := []) rfl ?_
  exact gsX3_premiumsOf_4 F n σ hk he n a0 a1 0 0
theorem kX3_premiumsOf {n : Nat} {own : String} {cc : ByteArray} {nL h index : Nat} {α : Type} {fin : α → zO} {σ : zW} {pc : Nat} {lv : zLV} {st : List zV} {a0 : Nat} {a1 : Int32} {c : Int32 → Option α} (F : zFx E) (hk : zk E K own cc nL h) (hd : decode cc pc = .ok (.invokevirtual index, 3)) (hl : Cond.methodLink own index qX3_premiumsOf ∈ lw_tbl) (hh : 2 + 1 ≤ h) (hs : zcat st ≤ 8) (k : ∀ v, zG E K fin (c v) σ (pc + 3) lv (.inl v :: st)) : zG E K fin (zck σ 4 a0 (zb (fX3_premiumsOf n a0 a1 σ) c)) σ pc lv (.inl a1 :: .inr (.inl a0) :: st) :=
  z_vR (n := 1) (y := qX3_premiumsOf) (As := [.inl a1]) hk hd hl wd_945 wd_946 wd_2 wd_947 ⟨by decide, by decide, by decide +kernel⟩ ⟨hh, by decide⟩ (ci := 3) rfl rfl rfl (fun o ho => mX3_premiumsOf F n a0 a1 σ o ho) hs k
abbrev qX3_lotsOf : MethodName := { cls := "LotSales$Sale", name := "lotsOf", desc := "(II)I" }
def sX3_lotsOf_45 (n : Nat) (σ : zW) (r5 : Nat → Int32 → Int32 → Int32 → Int32 → Option (Int32)) (v0 : Nat) (v1 : Int32) (v2 : Int32) (v3 : Int32) (v4 : Int32) : Option (Int32) := r5 v0 v1 v2 v3 (v4 + 1)
def sX3_lotsOf_5 (n : Nat) (σ : zW) : Nat → Nat → Int32 → Int32 → Int32 → Int32 → Option (Int32)
  | 0, _, _, _, _, _ => none
  | k + 1, v0, v1, v2, v3, v4 => zgI σ 4 v0 5 fun x1 => if v4 < x1 then zgR σ 4 v0 3 fun x2 => zaR σ 25 x2 v4 fun x3 => zgI σ 3 x3 5 fun x4 => if x4 = v1 then zgR σ 4 v0 3 fun x5 => zaR σ 25 x5 v4 fun x6 => zgI σ 3 x6 4 fun x7 => if x7 = v2 then sX3_lotsOf_45 n σ (sX3_lotsOf_5 n σ k) v0 v1 v2 (v3 + 1) v4 else sX3_lotsOf_45 n σ (sX3_lotsOf_5 n σ k) v0 v1 v2 v3 v4 else sX3_lotsOf_45 n σ (sX3_lotsOf_5 n σ k) v0 v1 v2 v3 v4 else some v3
def fX3_lotsOf (n : Nat) (a0 : Nat) (a1 : Int32) (a2 : Int32) (σ : zW) : Option (Int32) := sX3_lotsOf_5 n σ n a0 a1 a2 0 0
theorem gsX3_lotsOf_45 (F : zFx E) (n : Nat) (σ : zW) (hk : zk E K "LotSales$Sale" cX3_lotsOf 5 0) (he : zend E K (some .int) "lotsOf") (r5 : Nat → Int32 → Int32 → Int32 → Int32 → Option (Int32)) (hr5 : ∀ (v0 : Nat) (v1 : Int32) (v2 : Int32) (v3 : Int32) (v4 : Int32), zG E K (zfR σ) (r5 v0 v1 v2 v3 v4) σ 5 [some (.inr (.inl v0)), some (.inl v1), some (.inl v2), some (.inl v3), some (.inl v4)] []) (v0 : Nat) (v1 : Int32) (v2 : Int32) (v3 : Int32) (v4 : Int32) : zG E K (zfR σ) (sX3_lotsOf_45 n σ r5 v0 v1 v2 v3 v4) σ 45 [some (.inr (.inl v0)), some (.inl v1), some (.inl v2), some (.inl v3), some (.inl v4)] [] := by
  unfold sX3_lotsOf_45
  refine z_run hk hX3_lotsOf_0 23 1 (pc' := 48) (lv' := [some (.inr (.inl v0)), some (.inl v1), some (.inl v2), some (.inl v3), some (.inl (v4 + 1))]) (st' := []) rfl ?_
  refine z_goto hk (z_row hX3_lotsOf_0 24 rfl) (tgt := 5) rfl ?_
  exact hr5 v0 v1 v2 v3 (v4 + 1)
theorem gsX3_lotsOf_5 (F : zFx E) (n : Nat) (σ : zW) (hk : zk E K "LotSales$Sale" cX3_lotsOf 5 0) (he : zend E K (some .int) "lotsOf") : ∀ (k : Nat) (v0 : Nat) (v1 : Int32) (v2 : Int32) (v3 : Int32) (v4 : Int32), zG E K (zfR σ) (sX3_lotsOf_5 n σ k v0 v1 v2 v3 v4) σ 5 [some (.inr (.inl v0)), some (.inl v1), some (.inl v2), some (.inl v3), some (.inl v4)] [] := by
  intro k
  induction k with
  | zero =>
    intro v0 v1 v2 v3 v4
    intro hX
    exact z_none hX
  | succ k ih =>
    intro v0 v1 v2 v3 v4
    rw [sX3_lotsOf_5]
    refine z_run hk hX3_lotsOf_0 4 2 (pc' := 8) (lv' := [some (.inr (.inl v0)), some (.inl v1), some (.inl v2), some (.inl v3), some (.inl v4)]) (st' := [.inr (.inl v0), .inl v4]) rfl ?_
    refine z_gI hk 5 (z_row hX3_lotsOf_0 6 rfl) (ci := 3) rfl rfl wd_170 (fun x1 => ?_)
    refine z_cge hk (z_row hX3_lotsOf_0 7 rfl) (tgt := 51) rfl ?_ ?_
    · refine z_run hk hX3_lotsOf_0 25 1 (pc' := 52) (lv' := [some (.inr (.inl v0)), some (.inl v1), some (.inl v2), some (.inl v3), some (.inl v4)]) (st' := [.inl v3]) rfl ?_
      exact z_iret hk he (z_row hX3_lotsOf_0 26 rfl) rfl
    · refine z_run hk hX3_lotsOf_0 8 1 (pc' := 15) (lv' := [some (.inr (.inl v0)), some (.inl v1), some (.inl v2), some (.inl v3), some (.inl v4)]) (st' := [.inr (.inl v0)]) rfl ?_
      refine z_gR hk 3 (z_row hX3_lotsOf_0 9 rfl) (ci := 3) rfl rfl wd_166 (fun x2 => ?_)
      refine z_run hk hX3_lotsOf_0 10 1 (pc' := 20) (lv' := [some (.inr (.inl v0)), some (.inl v1), some (.inl v2), some (.inl v3), some (.inl v4)]) (st' := [.inl v4, .inr (.inl x2)]) rfl ?_
      refine z_aR hk (κ := 25) (by decide) (z_row hX3_lotsOf_0 11 rfl) (fun x3 => ?_)
      refine z_gI hk 5 (z_row hX3_lotsOf_0 12 rfl) (ci := 2) rfl rfl wd_117 (fun x4 => ?_)
      refine z_run hk hX3_lotsOf_0 13 1 (pc' := 25) (lv' := [some (.inr (.inl v0)), some (.inl v1), some (.inl v2), some (.inl v3), some (.inl v4)]) (st' := [.inl v1, .inl x4]) rfl ?_
      refine z_cne hk (z_row hX3_lotsOf_0 14 rfl) (tgt := 45) rfl ?_ ?_
      · exact gsX3_lotsOf_45 F n σ hk he (sX3_lotsOf_5 n σ k) ih v0 v1 v2 v3 v4
      · refine z_run hk hX3_lotsOf_0 15 1 (pc' := 29) (lv' := [some (.inr (.inl v0)), some (.inl v1), some (.inl v2), some (.inl v3), some (.inl v4)]) (st' := [.inr (.inl v0)]) rfl ?_
        refine z_gR hk 3 (z_row hX3_lotsOf_0 16 rfl) (ci := 3) rfl rfl wd_166 (fun x5 => ?_)
        refine z_run hk hX3_lotsOf_0 17 1 (pc' := 34) (lv' := [some (.inr (.inl v0)), some (.inl v1), some (.inl v2), some (.inl v3), some (.inl v4)]) (st' := [.inl v4, .inr (.inl x5)]) rfl ?_
        refine z_aR hk (κ := 25) (by decide) (z_row hX3_lotsOf_0 18 rfl) (fun x6 => ?_)
        refine z_gI hk 4 (z_row hX3_lotsOf_0 19 rfl) (ci := 2) rfl rfl wd_114 (fun x7 => ?_)
        refine z_run hk hX3_lotsOf_0 20 1 (pc' := 39) (lv' := [some (.inr (.inl v0)), some (.inl v1), some (.inl v2), some (.inl v3), some (.inl v4)]) (st' := [.inl v2, .inl x7]) rfl ?_
        refine z_cne hk (z_row hX3_lotsOf_0 21 rfl) (tgt := 45) rfl ?_ ?_
        · exact gsX3_lotsOf_45 F n σ hk he (sX3_lotsOf_5 n σ k) ih v0 v1 v2 v3 v4
        · refine z_run hk hX3_lotsOf_0 22 1 (pc' := 45) (lv' := [some (.inr (.inl v0)), some (.inl v1), some (.inl v2), some (.inl (v3 + 1)), some (.inl v4)]) (st' := []) rfl ?_
          exact gsX3_lotsOf_45 F n σ hk he (sX3_lotsOf_5 n σ k) ih v0 v1 v2 (v3 + 1) v4
theorem mX3_lotsOf (F : zFx E) (n : Nat) (a0 : Nat) (a1 : Int32) (a2 : Int32) (σ : zW) (o : Int32) (hf : fX3_lotsOf n a0 a1 a2 σ = some o) : zM E qX3_lotsOf cX3_lotsOf 5 (some .int) 0 [.inr (.inl a0), .inl a1, .inl a2] σ (some (.int o)) σ := by
  refine zM_of (fin := (zfR σ)) F (by decide +kernel) rfl (Nat.le_of_ble_eq_true rfl) (lv0 := [some (.inr (.inl a0)), some (.inl a1), some (.inl a2), none, none]) rfl hf rfl (fun K hk he => ?_)
  have hk : zk E K "LotSales$Sale" cX3_lotsOf 5 0 := hk
  unfold fX3_lotsOf
  refine z_run hk hX3_lotsOf_0 0 4 (pc' := 5) (lv' := [some (.inr (.inl a0)), some (.inl a1), some (.inl a2), some (.inl 0), some (.inl 0)]) (st' := []) rfl ?_
  exact gsX3_lotsOf_5 F n σ hk he n a0 a1 a2 0 0
theorem kX3_lotsOf {n : Nat} {own : String} {cc : ByteArray} {nL h index : Nat} {α : Type} {fin : α → zO} {σ : zW} {pc : Nat} {lv : zLV} {st : List zV} {a0 : Nat} {a1 : Int32} {a2 : Int32} {c : Int32 → Option α} (F : zFx E) (hk : zk E K own cc nL h) (hd : decode cc pc = .ok (.invokevirtual index, 3)) (hl : Cond.methodLink own index qX3_lotsOf ∈ lw_tbl) (hh : 0 + 1 ≤ h) (hs : zcat st ≤ 8) (k : ∀ v, zG E K fin (c v) σ (pc + 3) lv (.inl v :: st)) : zG E K fin (zck σ 4 a0 (zb (fX3_lotsOf n a0 a1 a2 σ) c)) σ pc lv (.inl a2 :: .inl a1 :: .inr (.inl a0) :: st) :=
  z_vR (n := 2) (y := qX3_lotsOf) (As := [.inl a1, .inl a2]) hk hd hl wd_984 wd_985 wd_2 wd_986 ⟨by decide, by decide, by decide +kernel⟩ ⟨hh, by decide⟩ (ci := 3) rfl rfl rfl (fun o ho => mX3_lotsOf F n a0 a1 a2 σ o ho) hs k
abbrev qX3_pricesFor : MethodName := { cls := "LotSales$Sale", name := "pricesFor", desc := "(I)I" }
def sX3_pricesFor_50 (n : Nat) (σ : zW) (r4 : Nat → Int32 → Int32 → Int32 → Option (Int32)) (v0 : Nat) (v1 : Int32) (v2 : Int32) (v3 : Int32) : Option (Int32) := r4 v0 v1 v2 (v3 + 1)
def sX3_pricesFor_4 (n : Nat) (σ : zW) : Nat → Nat → Int32 → Int32 → Int32 → Option (Int32)
  | 0, _, _, _, _ => none
  | k + 1, v0, v1, v2, v3 => zgI σ 4 v0 5 fun x1 => if v3 < x1 then zgR σ 4 v0 3 fun x2 => zaR σ 25 x2 v3 fun x3 => zgI σ 3 x3 5 fun x4 => if x4 = v1 then zgR σ 4 v0 3 fun x5 => zaR σ 25 x5 v3 fun x6 => zgI σ 3 x6 4 fun x7 => if x7 = 2 then zgR σ 4 v0 3 fun x8 => zaR σ 25 x8 v3 fun x9 => zgI σ 3 x9 11 fun x10 => sX3_pricesFor_50 n σ (sX3_pricesFor_4 n σ k) v0 v1 (v2 + x10) v3 else sX3_pricesFor_50 n σ (sX3_pricesFor_4 n σ k) v0 v1 v2 v3 else sX3_pricesFor_50 n σ (sX3_pricesFor_4 n σ k) v0 v1 v2 v3 else some v2
def fX3_pricesFor (n : Nat) (a0 : Nat) (a1 : Int32) (σ : zW) : Option (Int32) := sX3_pricesFor_4 n σ n a0 a1 0 0
theorem gsX3_pricesFor_50 (F : zFx E) (n : Nat) (σ : zW) (hk : zk E K "LotSales$Sale" cX3_pricesFor 4 0) (he : zend E K (some .int) "pricesFor") (r4 : Nat → Int32 → Int32 → Int32 → Option (Int32)) (hr4 : ∀ (v0 : Nat) (v1 : Int32) (v2 : Int32) (v3 : Int32), zG E K (zfR σ) (r4 v0 v1 v2 v3) σ 4 [some (.inr (.inl v0)), some (.inl v1), some (.inl v2), some (.inl v3)] []) (v0 : Nat) (v1 : Int32) (v2 : Int32) (v3 : Int32) : zG E K (zfR σ) (sX3_pricesFor_50 n σ r4 v0 v1 v2 v3) σ 50 [some (.inr (.inl v0)), some (.inl v1), some (.inl v2), some (.inl v3)] [] := by
  unfold sX3_pricesFor_50
  refine z_run hk hX3_pricesFor_0 30 1 (pc' := 53) (lv' := [some (.inr (.inl v0)), some (.inl v1), some (.inl v2), some (.inl (v3 + 1))]) (st' := []) rfl ?_
  refine z_goto hk (z_row hX3_pricesFor_0 31 rfl) (tgt := 4) rfl ?_
  exact hr4 v0 v1 v2 (v3 + 1)
theorem gsX3_pricesFor_4 (F : zFx E) (n : Nat) (σ : zW) (hk : zk E K "LotSales$Sale" cX3_pricesFor 4 0) (he : zend E K (some .int) "pricesFor") : ∀ (k : Nat) (v0 : Nat) (v1 : Int32) (v2 : Int32) (v3 : Int32), zG E K (zfR σ) (sX3_pricesFor_4 n σ k v0 v1 v2 v3) σ 4 [some (.inr (.inl v0)), some (.inl v1), some (.inl v2), some (.inl v3)] [] := by
  intro k
  induction k with
  | zero =>
    intro v0 v1 v2 v3
    intro hX
    exact z_none hX
  | succ k ih =>
    intro v0 v1 v2 v3
    rw [sX3_pricesFor_4]
    refine z_run hk hX3_pricesFor_0 4 2 (pc' := 6) (lv' := [some (.inr (.inl v0)), some (.inl v1), some (.inl v2), some (.inl v3)]) (st' := [.inr (.inl v0), .inl v3]) rfl ?_
    refine z_gI hk 5 (z_row hX3_pricesFor_0 6 rfl) (ci := 3) rfl rfl wd_170 (fun x1 => ?_)
    refine z_cge hk (z_row hX3_pricesFor_0 7 rfl) (tgt := 56) rfl ?_ ?_
    · refine z_run hk hX3_pricesFor_0 32 1 (pc' := 57) (lv' := [some (.inr (.inl v0)), some (.inl v1), some (.inl v2), some (.inl v3)]) (st' := [.inl v2]) rfl ?_
      exact z_iret hk he (z_row hX3_pricesFor_0 33 rfl) rfl
    · refine z_run hk hX3_pricesFor_0 8 1 (pc' := 13) (lv' := [some (.inr (.inl v0)), some (.inl v1), some (.inl v2), some (.inl v3)]) (st' := [.inr (.inl v0)]) rfl ?_
      refine z_gR hk 3 (z_row hX3_pricesFor_0 9 rfl) (ci := 3) rfl rfl wd_166 (fun x2 => ?_)
      refine z_run hk hX3_pricesFor_0 10 1 (pc' := 17) (lv' := [some (.inr (.inl v0)), some (.inl v1), some (.inl v2), some (.inl v3)]) (st' := [.inl v3, .inr (.inl x2)]) rfl ?_
      refine z_aR hk (κ := 25) (by decide) (z_row hX3_pricesFor_0 11 rfl) (fun x3 => ?_)
      refine z_gI hk 5 (z_row hX3_pricesFor_0 12 rfl) (ci := 2) rfl rfl wd_117 (fun x4 => ?_)
      refine z_run hk hX3_pricesFor_0 13 1 (pc' := 22) (lv' := [some (.inr (.inl v0)), some (.inl v1), some (.inl v2), some (.inl v3)]) (st' := [.inl v1, .inl x4]) rfl ?_
      refine z_cne hk (z_row hX3_pricesFor_0 14 rfl) (tgt := 50) rfl ?_ ?_
      · exact gsX3_pricesFor_50 F n σ hk he (sX3_pricesFor_4 n σ k) ih v0 v1 v2 v3
      · refine z_run hk hX3_pricesFor_0 15 1 (pc' := 26) (lv' := [some (.inr (.inl v0)), some (.inl v1), some (.inl v2), some (.inl v3)]) (st' := [.inr (.inl v0)]) rfl ?_
        refine z_gR hk 3 (z_row hX3_pricesFor_0 16 rfl) (ci := 3) rfl rfl wd_166 (fun x5 => ?_)
        refine z_run hk hX3_pricesFor_0 17 1 (pc' := 30) (lv' := [some (.inr (.inl v0)), some (.inl v1), some (.inl v2), some (.inl v3)]) (st' := [.inl v3, .inr (.inl x5)]) rfl ?_
        refine z_aR hk (κ := 25) (by decide) (z_row hX3_pricesFor_0 18 rfl) (fun x6 => ?_)
        refine z_gI hk 4 (z_row hX3_pricesFor_0 19 rfl) (ci := 2) rfl rfl wd_114 (fun x7 => ?_)
        refine z_run hk hX3_pricesFor_0 20 1 (pc' := 35) (lv' := [some (.inr (.inl v0)), some (.inl v1), some (.inl v2), some (.inl v3)]) (st' := [.inl 2, .inl x7]) rfl ?_
        refine z_cne hk (z_row hX3_pricesFor_0 21 rfl) (tgt := 50) rfl ?_ ?_
        · exact gsX3_pricesFor_50 F n σ hk he (sX3_pricesFor_4 n σ k) ih v0 v1 v2 v3
        · refine z_run hk hX3_pricesFor_0 22 2 (pc' := 40) (lv' := [some (.inr (.inl v0)), some (.inl v1), some (.inl v2), some (.inl v3)]) (st' := [.inr (.inl v0), .inl v2]) rfl ?_
          refine z_gR hk 3 (z_row hX3_pricesFor_0 24 rfl) (ci := 3) rfl rfl wd_166 (fun x8 => ?_)
          refine z_run hk hX3_pricesFor_0 25 1 (pc' := 44) (lv' := [some (.inr (.inl v0)), some (.inl v1), some (.inl v2), some (.inl v3)]) (st' := [.inl v3, .inr (.inl x8), .inl v2]) rfl ?_
          refine z_aR hk (κ := 25) (by decide) (z_row hX3_pricesFor_0 26 rfl) (fun x9 => ?_)
          refine z_gI hk 11 (z_row hX3_pricesFor_0 27 rfl) (ci := 2) rfl rfl wd_133 (fun x10 => ?_)
          refine z_run hk hX3_pricesFor_0 28 2 (pc' := 50) (lv' := [some (.inr (.inl v0)), some (.inl v1), some (.inl (v2 + x10)), some (.inl v3)]) (st' := []) rfl ?_
          exact gsX3_pricesFor_50 F n σ hk he (sX3_pricesFor_4 n σ k) ih v0 v1 (v2 + x10) v3
theorem mX3_pricesFor (F : zFx E) (n : Nat) (a0 : Nat) (a1 : Int32) (σ : zW) (o : Int32) (hf : fX3_pricesFor n a0 a1 σ = some o) : zM E qX3_pricesFor cX3_pricesFor 4 (some .int) 0 [.inr (.inl a0), .inl a1] σ (some (.int o)) σ := by
  refine zM_of (fin := (zfR σ)) F (by decide +kernel) rfl (Nat.le_of_ble_eq_true rfl) (lv0 := [some (.inr (.inl a0)), some (.inl a1), none, none]) rfl hf rfl (fun K hk he => ?_)
  have hk : zk E K "LotSales$Sale" cX3_pricesFor 4 0 := hk
  unfold fX3_pricesFor
  refine z_run hk hX3_pricesFor_0 0 4 (pc' := 4) (lv' := [some (.inr (.inl a0)), some (.inl a1), some (.inl 0), some (.inl 0)]) (st' := []) rfl ?_
  exact gsX3_pricesFor_4 F n σ hk he n a0 a1 0 0
theorem kX3_pricesFor {n : Nat} {own : String} {cc : ByteArray} {nL h index : Nat} {α : Type} {fin : α → zO} {σ : zW} {pc : Nat} {lv : zLV} {st : List zV} {a0 : Nat} {a1 : Int32} {c : Int32 → Option α} (F : zFx E) (hk : zk E K own cc nL h) (hd : decode cc pc = .ok (.invokevirtual index, 3)) (hl : Cond.methodLink own index qX3_pricesFor ∈ lw_tbl) (hh : 0 + 1 ≤ h) (hs : zcat st ≤ 8) (k : ∀ v, zG E K fin (c v) σ (pc + 3) lv (.inl v :: st)) : zG E K fin (zck σ 4 a0 (zb (fX3_pricesFor n a0 a1 σ) c)) σ pc lv (.inl a1 :: .inr (.inl a0) :: st) :=
  z_vR (n := 1) (y := qX3_pricesFor) (As := [.inl a1]) hk hd hl wd_966 wd_967 wd_2 wd_968 ⟨by decide, by decide, by decide +kernel⟩ ⟨hh, by decide⟩ (ci := 3) rfl rfl rfl (fun o ho => mX3_pricesFor F n a0 a1 σ o ho) hs k
abbrev qX7_commissionOf : MethodName := { cls := "LotSales", name := "commissionOf", desc := "(I)I" }
def fX7_commissionOf (n : Nat) (a0 : Int32) (σ : zW) : Option (Int32) := zdv 10 (some (if (if 5 < (a0 / 10) then (a0 / 10) else 5) < a0 then (if 5 < (a0 / 10) then (a0 / 10) else 5) else a0))
theorem mX7_commissionOf (F : zFx E) (n : Nat) (a0 : Int32) (σ : zW) (o : Int32) (hf : fX7_commissionOf n a0 σ = some o) : zM E qX7_commissionOf cX7_commissionOf 1 (some .int) 1 [.inl a0] σ (some (.int o)) σ := by
  refine zM_of (fin := (zfR σ)) F (by decide +kernel) rfl (Nat.le_of_ble_eq_true rfl) (lv0 := [some (.inl a0)]) rfl hf rfl (fun K hk he => ?_)
  have hk : zk E K "LotSales" cX7_commissionOf 1 1 := hk
  unfold fX7_commissionOf
  refine z_run hk hX7_commissionOf_0 0 4 (pc' := 5) (lv' := [some (.inl a0)]) (st' := [.inl 10, .inl a0, .inl 5, .inl a0]) rfl ?_
  refine z_idiv hk (z_row hX7_commissionOf_0 4 rfl) ?_
  refine z_mmax hk (z_row hX7_commissionOf_0 5 rfl) wd_976 wd_578 wd_16 wd_579 (by decide) (Nat.le_of_ble_eq_true rfl) ?_
  refine z_mmin hk (z_row hX7_commissionOf_0 6 rfl) wd_936 wd_453 wd_16 wd_454 (by decide) (Nat.le_of_ble_eq_true rfl) ?_
  exact z_iret hk he (z_row hX7_commissionOf_0 7 rfl) rfl
theorem kX7_commissionOf_n {n : Nat} {own : String} {cc : ByteArray} {nL h index : Nat} {α : Type} {fin : α → zO} {σ : zW} {pc : Nat} {lv : zLV} {st : List zV} {a0 : Int32} {c : Int32 → Option α} (F : zFx E) (hk : zk E K own cc nL h) (hd : decode cc pc = .ok (.invokestatic index, 3)) (hl : Cond.methodLinkNest own index qX7_commissionOf "LotSales" ∈ lw_tbl) (hh : 1 + 1 ≤ h) (hs : zcat st ≤ 8) (k : ∀ v, zG E K fin (c v) σ (pc + 3) lv (.inl v :: st)) : zG E K fin (zb (fX7_commissionOf n a0 σ) c) σ pc lv (.inl a0 :: st) :=
  z_qnR (n := 1) (y := qX7_commissionOf) (As := [.inl a0]) hk hd hl wd_974 wd_1 wd_975 ⟨by decide, by decide, by decide +kernel⟩ ⟨hh, by decide⟩ rfl (fun o ho => mX7_commissionOf F n a0 σ o ho) hs k
abbrev qX3_commissionsOf : MethodName := { cls := "LotSales$Sale", name := "commissionsOf", desc := "(I)I" }
def sX3_commissionsOf_53 (n : Nat) (σ : zW) (r4 : Nat → Int32 → Int32 → Int32 → Option (Int32)) (v0 : Nat) (v1 : Int32) (v2 : Int32) (v3 : Int32) : Option (Int32) := r4 v0 v1 v2 (v3 + 1)
def sX3_commissionsOf_4 (n : Nat) (σ : zW) : Nat → Nat → Int32 → Int32 → Int32 → Option (Int32)
  | 0, _, _, _, _ => none
  | k + 1, v0, v1, v2, v3 => zgI σ 4 v0 5 fun x1 => if v3 < x1 then zgR σ 4 v0 3 fun x2 => zaR σ 25 x2 v3 fun x3 => zgI σ 3 x3 5 fun x4 => if x4 = v1 then zgR σ 4 v0 3 fun x5 => zaR σ 25 x5 v3 fun x6 => zgI σ 3 x6 4 fun x7 => if x7 = 2 then zgR σ 4 v0 3 fun x8 => zaR σ 25 x8 v3 fun x9 => zgI σ 3 x9 11 fun x10 => zb (fX7_commissionOf n x10 σ) fun x11 => sX3_commissionsOf_53 n σ (sX3_commissionsOf_4 n σ k) v0 v1 (v2 + x11) v3 else sX3_commissionsOf_53 n σ (sX3_commissionsOf_4 n σ k) v0 v1 v2 v3 else sX3_commissionsOf_53 n σ (sX3_commissionsOf_4 n σ k) v0 v1 v2 v3 else some v2
def fX3_commissionsOf (n : Nat) (a0 : Nat) (a1 : Int32) (σ : zW) : Option (Int32) := sX3_commissionsOf_4 n σ n a0 a1 0 0
theorem gsX3_commissionsOf_53 (F : zFx E) (n : Nat) (σ : zW) (hk : zk E K "LotSales$Sale" cX3_commissionsOf 4 2) (he : zend E K (some .int) "commissionsOf") (r4 : Nat → Int32 → Int32 → Int32 → Option (Int32)) (hr4 : ∀ (v0 : Nat) (v1 : Int32) (v2 : Int32) (v3 : Int32), zG E K (zfR σ) (r4 v0 v1 v2 v3) σ 4 [some (.inr (.inl v0)), some (.inl v1), some (.inl v2), some (.inl v3)] []) (v0 : Nat) (v1 : Int32) (v2 : Int32) (v3 : Int32) : zG E K (zfR σ) (sX3_commissionsOf_53 n σ r4 v0 v1 v2 v3) σ 53 [some (.inr (.inl v0)), some (.inl v1), some (.inl v2), some (.inl v3)] [] := by
  unfold sX3_commissionsOf_53
  refine z_run hk hX3_commissionsOf_0 31 1 (pc' := 56) (lv' := [some (.inr (.inl v0)), some (.inl v1), some (.inl v2), some (.inl (v3 + 1))]) (st' := []) rfl ?_
  refine z_goto hk (z_row hX3_commissionsOf_0 32 rfl) (tgt := 4) rfl ?_
  exact hr4 v0 v1 v2 (v3 + 1)
theorem gsX3_commissionsOf_4 (F : zFx E) (n : Nat) (σ : zW) (hk : zk E K "LotSales$Sale" cX3_commissionsOf 4 2) (he : zend E K (some .int) "commissionsOf") : ∀ (k : Nat) (v0 : Nat) (v1 : Int32) (v2 : Int32) (v3 : Int32), zG E K (zfR σ) (sX3_commissionsOf_4 n σ k v0 v1 v2 v3) σ 4 [some (.inr (.inl v0)), some (.inl v1), some (.inl v2), some (.inl v3)] [] := by
  intro k
  induction k with
  | zero =>
    intro v0 v1 v2 v3
    intro hX
    exact z_none hX
  | succ k ih =>
    intro v0 v1 v2 v3
    rw [sX3_commissionsOf_4]
    refine z_run hk hX3_commissionsOf_0 4 2 (pc' := 6) (lv' := [some (.inr (.inl v0)), some (.inl v1), some (.inl v2), some (.inl v3)]) (st' := [.inr (.inl v0), .inl v3]) rfl ?_
    refine z_gI hk 5 (z_row hX3_commissionsOf_0 6 rfl) (ci := 3) rfl rfl wd_170 (fun x1 => ?_)
    refine z_cge hk (z_row hX3_commissionsOf_0 7 rfl) (tgt := 59) rfl ?_ ?_
    · refine z_run hk hX3_commissionsOf_0 33 1 (pc' := 60) (lv' := [some (.inr (.inl v0)), some (.inl v1), some (.inl v2), some (.inl v3)]) (st' := [.inl v2]) rfl ?_
      exact z_iret hk he (z_row hX3_commissionsOf_0 34 rfl) rfl
    · refine z_run hk hX3_commissionsOf_0 8 1 (pc' := 13) (lv' := [some (.inr (.inl v0)), some (.inl v1), some (.inl v2), some (.inl v3)]) (st' := [.inr (.inl v0)]) rfl ?_
      refine z_gR hk 3 (z_row hX3_commissionsOf_0 9 rfl) (ci := 3) rfl rfl wd_166 (fun x2 => ?_)
      refine z_run hk hX3_commissionsOf_0 10 1 (pc' := 17) (lv' := [some (.inr (.inl v0)), some (.inl v1), some (.inl v2), some (.inl v3)]) (st' := [.inl v3, .inr (.inl x2)]) rfl ?_
      refine z_aR hk (κ := 25) (by decide) (z_row hX3_commissionsOf_0 11 rfl) (fun x3 => ?_)
      refine z_gI hk 5 (z_row hX3_commissionsOf_0 12 rfl) (ci := 2) rfl rfl wd_117 (fun x4 => ?_)
      refine z_run hk hX3_commissionsOf_0 13 1 (pc' := 22) (lv' := [some (.inr (.inl v0)), some (.inl v1), some (.inl v2), some (.inl v3)]) (st' := [.inl v1, .inl x4]) rfl ?_
      refine z_cne hk (z_row hX3_commissionsOf_0 14 rfl) (tgt := 53) rfl ?_ ?_
      · exact gsX3_commissionsOf_53 F n σ hk he (sX3_commissionsOf_4 n σ k) ih v0 v1 v2 v3
      · refine z_run hk hX3_commissionsOf_0 15 1 (pc' := 26) (lv' := [some (.inr (.inl v0)), some (.inl v1), some (.inl v2), some (.inl v3)]) (st' := [.inr (.inl v0)]) rfl ?_
        refine z_gR hk 3 (z_row hX3_commissionsOf_0 16 rfl) (ci := 3) rfl rfl wd_166 (fun x5 => ?_)
        refine z_run hk hX3_commissionsOf_0 17 1 (pc' := 30) (lv' := [some (.inr (.inl v0)), some (.inl v1), some (.inl v2), some (.inl v3)]) (st' := [.inl v3, .inr (.inl x5)]) rfl ?_
        refine z_aR hk (κ := 25) (by decide) (z_row hX3_commissionsOf_0 18 rfl) (fun x6 => ?_)
        refine z_gI hk 4 (z_row hX3_commissionsOf_0 19 rfl) (ci := 2) rfl rfl wd_114 (fun x7 => ?_)
        refine z_run hk hX3_commissionsOf_0 20 1 (pc' := 35) (lv' := [some (.inr (.inl v0)), some (.inl v1), some (.inl v2), some (.inl v3)]) (st' := [.inl 2, .inl x7]) rfl ?_
        refine z_cne hk (z_row hX3_commissionsOf_0 21 rfl) (tgt := 53) rfl ?_ ?_
        · exact gsX3_commissionsOf_53 F n σ hk he (sX3_commissionsOf_4 n σ k) ih v0 v1 v2 v3
        · refine z_run hk hX3_commissionsOf_0 22 2 (pc' := 40) (lv' := [some (.inr (.inl v0)), some (.inl v1), some (.inl v2), some (.inl v3)]) (st' := [.inr (.inl v0), .inl v2]) rfl ?_
          refine z_gR hk 3 (z_row hX3_commissionsOf_0 24 rfl) (ci := 3) rfl rfl wd_166 (fun x8 => ?_)
          refine z_run hk hX3_commissionsOf_0 25 1 (pc' := 44) (lv' := [some (.inr (.inl v0)), some (.inl v1), some (.inl v2), some (.inl v3)]) (st' := [.inl v3, .inr (.inl x8), .inl v2]) rfl ?_
          refine z_aR hk (κ := 25) (by decide) (z_row hX3_commissionsOf_0 26 rfl) (fun x9 => ?_)
          refine z_gI hk 11 (z_row hX3_commissionsOf_0 27 rfl) (ci := 2) rfl rfl wd_133 (fun x10 => ?_)
          refine kX7_commissionOf_n F hk (z_row hX3_commissionsOf_0 28 rfl) wd_973 (by decide) (Nat.le_of_ble_eq_true rfl) (fun x11 => ?_)
          refine z_run hk hX3_commissionsOf_0 29 2 (pc' := 53) (lv' := [some (.inr (.inl v0)), some (.inl v1), some (.inl (v2 + x11)), some (.inl v3)]) (st' := []) rfl ?_
          exact gsX3_commissionsOf_53 F n σ hk he (sX3_commissionsOf_4 n σ k) ih v0 v1 (v2 + x11) v3
theorem mX3_commissionsOf (F : zFx E) (n : Nat) (a0 : Nat) (a1 : Int32) (σ : zW) (o : Int32) (hf : fX3_commissionsOf n a0 a1 σ = some o) : zM E qX3_commissionsOf cX3_commissionsOf 4 (some .int) 2 [.inr (.inl a0), .inl a1] σ (some (.int o)) σ := by
  refine zM_of (fin := (zfR σ)) F (by decide +kernel) rfl (Nat.le_of_ble_eq_true rfl) (lv0 := [some (.inr (.inl a0)), some (.inl a1), none, none]) rfl hf rfl (fun K hk he => ?_)
  have hk : zk E K "LotSales$Sale" cX3_commissionsOf 4 2 := hk
  unfold fX3_commissionsOf
  refine z_run hk hX3_commissionsOf_0 0 4 (pc' := 4) (lv' := [some (.inr (.inl a0)), some (.inl a1), some (.inl 0), some (.inl 0)]) (st' := []) rfl ?_
  exact gsX3_commissionsOf_4 F n σ hk he n a0 a1 0 0
theorem kX3_commissionsOf {n : Nat} {own : String} {cc : ByteArray} {nL h index : Nat} {α : Type} {fin : α → zO} {σ : zW} {pc : Nat} {lv : zLV} {st : List zV} {a0 : Nat} {a1 : Int32} {c : Int32 → Option α} (F : zFx E) (hk : zk E K own cc nL h) (hd : decode cc pc = .ok (.invokevirtual index, 3)) (hl : Cond.methodLink own index qX3_commissionsOf ∈ lw_tbl) (hh : 2 + 1 ≤ h) (hs : zcat st ≤ 8) (k : ∀ v, zG E K fin (c v) σ (pc + 3) lv (.inl v :: st)) : zG E K fin (zck σ 4 a0 (zb (fX3_commissionsOf n a0 a1 σ) c)) σ pc lv (.inl a1 :: .inr (.inl a0) :: st) :=
  z_vR (n := 1) (y := qX3_commissionsOf) (As := [.inl a1]) hk hd hl wd_970 wd_971 wd_2 wd_972 ⟨by decide, by decide, by decide +kernel⟩ ⟨hh, by decide⟩ (ci := 3) rfl rfl rfl (fun o ho => mX3_commissionsOf F n a0 a1 σ o ho) hs k
abbrev qX3_proceedsOf : MethodName := { cls := "LotSales$Sale", name := "proceedsOf", desc := "(I)I" }
def fX3_proceedsOf (n : Nat) (a0 : Nat) (a1 : Int32) (σ : zW) : Option (Int32) := zck σ 4 a0 (zb (fX3_pricesFor n a0 a1 σ) fun x1 => zck σ 4 a0 (zb (fX3_commissionsOf n a0 a1 σ) fun x2 => zgR σ 4 a0 2 fun x3 => zaI σ x3 a1 fun x4 => some ((x1 - x2) - x4)))
theorem mX3_proceedsOf (F : zFx E) (n : Nat) (a0 : Nat) (a1 : Int32) (σ : zW) (o : Int32) (hf : fX3_proceedsOf n a0 a1 σ = some o) : zM E qX3_proceedsOf cX3_proceedsOf 2 (some .int) 3 [.inr (.inl a0), .inl a1] σ (some (.int o)) σ := by
  refine zM_of (fin := (zfR σ)) F (by decide +kernel) rfl (Nat.le_of_ble_eq_true rfl) (lv0 := [some (.inr (.inl a0)), some (.inl a1)]) rfl hf rfl (fun K hk he => ?_)
  have hk : zk E K "LotSales$Sale" cX3_proceedsOf 2 3 := hk
  unfold fX3_proceedsOf
  refine z_run hk hX3_proceedsOf_0 0 2 (pc' := 2) (lv' := [some (.inr (.inl a0)), some (.inl a1)]) (st' := [.inl a1, .inr (.inl a0)]) rfl ?_
  refine kX3_pricesFor F hk (z_row hX3_proceedsOf_0 2 rfl) wd_981 (by decide) (Nat.le_of_ble_eq_true rfl) (fun x1 => ?_)
  refine z_run hk hX3_proceedsOf_0 3 2 (pc' := 7) (lv' := [some (.inr (.inl a0)), some (.inl a1)]) (st' := [.inl a1, .inr (.inl a0), .inl x1]) rfl ?_
  refine kX3_commissionsOf F hk (z_row hX3_proceedsOf_0 5 rfl) wd_982 (by decide) (Nat.le_of_ble_eq_true rfl) (fun x2 => ?_)
  refine z_run hk hX3_proceedsOf_0 6 2 (pc' := 12) (lv' := [some (.inr (.inl a0)), some (.inl a1)]) (st' := [.inr (.inl a0), .inl (x1 - x2)]) rfl ?_
  refine z_gR hk 2 (z_row hX3_proceedsOf_0 8 rfl) (ci := 3) rfl rfl wd_164 (fun x3 => ?_)
  refine z_run hk hX3_proceedsOf_0 9 1 (pc' := 16) (lv' := [some (.inr (.inl a0)), some (.inl a1)]) (st' := [.inl a1, .inr (.inl x3), .inl (x1 - x2)]) rfl ?_
  refine z_aI hk (z_row hX3_proceedsOf_0 10 rfl) (fun x4 => ?_)
  refine z_run hk hX3_proceedsOf_0 11 1 (pc' := 18) (lv' := [some (.inr (.inl a0)), some (.inl a1)]) (st' := [.inl ((x1 - x2) - x4)]) rfl ?_
  exact z_iret hk he (z_row hX3_proceedsOf_0 12 rfl) rfl
theorem kX3_proceedsOf {n : Nat} {own : String} {cc : ByteArray} {nL h index : Nat} {α : Type} {fin : α → zO} {σ : zW} {pc : Nat} {lv : zLV} {st : List zV} {a0 : Nat} {a1 : Int32} {c : Int32 → Option α} (F : zFx E) (hk : zk E K own cc nL h) (hd : decode cc pc = .ok (.invokevirtual index, 3)) (hl : Cond.methodLink own index qX3_proceedsOf ∈ lw_tbl) (hh : 3 + 1 ≤ h) (hs : zcat st ≤ 8) (k : ∀ v, zG E K fin (c v) σ (pc + 3) lv (.inl v :: st)) : zG E K fin (zck σ 4 a0 (zb (fX3_proceedsOf n a0 a1 σ) c)) σ pc lv (.inl a1 :: .inr (.inl a0) :: st) :=
  z_vR (n := 1) (y := qX3_proceedsOf) (As := [.inl a1]) hk hd hl wd_978 wd_979 wd_2 wd_980 ⟨by decide, by decide, by decide +kernel⟩ ⟨hh, by decide⟩ (ci := 3) rfl rfl rfl (fun o ho => mX3_proceedsOf F n a0 a1 σ o ho) hs k
abbrev qX3_feesInLedger : MethodName := { cls := "LotSales$Sale", name := "feesInLedger", desc := "(I)I" }
def sX3_feesInLedger_74 (n : Nat) (σ : zW) (r4 : Nat → Int32 → Int32 → Int32 → Option (Int32)) (v0 : Nat) (v1 : Int32) (v2 : Int32) (v3 : Int32) : Option (Int32) := r4 v0 v1 v2 (v3 + 1)
def sX3_feesInLedger_4 (n : Nat) (σ : zW) : Nat → Nat → Int32 → Int32 → Int32 → Option (Int32)
  | 0, _, _, _, _ => none
  | k + 1, v0, v1, v2, v3 => zgR σ 4 v0 4 fun x1 => zgI σ 2 x1 4 fun x2 => if v3 < x2 then zgR σ 4 v0 4 fun x3 => zgR σ 2 x3 1 fun x4 => zaI σ x4 v3 fun x5 => zgR σ 4 v0 4 fun x6 => zgR σ 2 x6 0 fun x7 => zaI σ x7 v3 fun x8 => if x8 = 4 then zck σ 4 v0 (zb (fX3_has n v0 x5 σ) fun x9 => if x9 = 0 then sX3_feesInLedger_74 n σ (sX3_feesInLedger_4 n σ k) v0 v1 v2 v3 else zgR σ 4 v0 3 fun x10 => zaR σ 25 x10 x5 fun x11 => zgI σ 3 x11 5 fun x12 => if x12 = v1 then zgR σ 4 v0 4 fun x13 => zgR σ 2 x13 3 fun x14 => zaI σ x14 v3 fun x15 => sX3_feesInLedger_74 n σ (sX3_feesInLedger_4 n σ k) v0 v1 (v2 + x15) v3 else sX3_feesInLedger_74 n σ (sX3_feesInLedger_4 n σ k) v0 v1 v2 v3) else sX3_feesInLedger_74 n σ (sX3_feesInLedger_4 n σ k) v0 v1 v2 v3 else some v2
def fX3_feesInLedger (n : Nat) (a0 : Nat) (a1 : Int32) (σ : zW) : Option (Int32) := sX3_feesInLedger_4 n σ n a0 a1 0 0
theorem gsX3_feesInLedger_74 (F : zFx E) (n : Nat) (σ : zW) (hk : zk E K "LotSales$Sale" cX3_feesInLedger 5 1) (he : zend E K (some .int) "feesInLedger") (r4 : Nat → Int32 → Int32 → Int32 → Option (Int32)) (hr4 : ∀ (v0 : Nat) (v1 : Int32) (v2 : Int32) (v3 : Int32), zG E K (zfR σ) (r4 v0 v1 v2 v3) σ 4 [some (.inr (.inl v0)), some (.inl v1), some (.inl v2), some (.inl v3), none] []) (v0 : Nat) (v1 : Int32) (v2 : Int32) (v3 : Int32) : zG E K (zfR σ) (sX3_feesInLedger_74 n σ r4 v0 v1 v2 v3) σ 74 [some (.inr (.inl v0)), some (.inl v1), some (.inl v2), some (.inl v3), none] [] := by
  unfold sX3_feesInLedger_74
  refine z_run hk hX3_feesInLedger_0 41 1 (pc' := 77) (lv' := [some (.inr (.inl v0)), some (.inl v1), some (.inl v2), some (.inl (v3 + 1)), none]) (st' := []) rfl ?_
  refine z_goto hk (z_row hX3_feesInLedger_0 42 rfl) (tgt := 4) rfl ?_
  exact hr4 v0 v1 v2 (v3 + 1)
theorem gsX3_feesInLedger_4 (F : zFx E) (n : Nat) (σ : zW) (hk : zk E K "LotSales$Sale" cX3_feesInLedger 5 1) (he : zend E K (some .int) "feesInLedger") : ∀ (k : Nat) (v0 : Nat) (v1 : Int32) (v2 : Int32) (v3 : Int32), zG E K (zfR σ) (sX3_feesInLedger_4 n σ k v0 v1 v2 v3) σ 4 [some (.inr (.inl v0)), some (.inl v1), some (.inl v2), some (.inl v3), none] [] := by
  intro k
  induction k with
  | zero =>
    intro v0 v1 v2 v3
    intro hX
    exact z_none hX
  | succ k ih =>
    intro v0 v1 v2 v3
    rw [sX3_feesInLedger_4]
    refine z_run hk hX3_feesInLedger_0 4 2 (pc' := 6) (lv' := [some (.inr (.inl v0)), some (.inl v1), some (.inl v2), some (.inl v3), none]) (st' := [.inr (.inl v0), .inl v3]) rfl ?_
    refine z_gR hk 4 (z_row hX3_feesInLedger_0 6 rfl) (ci := 3) rfl rfl wd_168 (fun x1 => ?_)
    refine z_gI hk 4 (z_row hX3_feesInLedger_0 7 rfl) (ci := 1) rfl rfl wd_84 (fun x2 => ?_)
    refine z_cge hk (z_row hX3_feesInLedger_0 8 rfl) (tgt := 80) rfl ?_ ?_
    · refine z_run hk hX3_feesInLedger_0 43 1 (pc' := 81) (lv' := [some (.inr (.inl v0)), some (.inl v1), some (.inl v2), some (.inl v3), none]) (st' := [.inl v2]) rfl ?_
      exact z_iret hk he (z_row hX3_feesInLedger_0 44 rfl) rfl
    · refine z_run hk hX3_feesInLedger_0 9 1 (pc' := 16) (lv' := [some (.inr (.inl v0)), some (.inl v1), some (.inl v2), some (.inl v3), none]) (st' := [.inr (.inl v0)]) rfl ?_
      refine z_gR hk 4 (z_row hX3_feesInLedger_0 10 rfl) (ci := 3) rfl rfl wd_168 (fun x3 => ?_)
      refine z_gR hk 1 (z_row hX3_feesInLedger_0 11 rfl) (ci := 1) rfl rfl wd_76 (fun x4 => ?_)
      refine z_run hk hX3_feesInLedger_0 12 1 (pc' := 23) (lv' := [some (.inr (.inl v0)), some (.inl v1), some (.inl v2), some (.inl v3), none]) (st' := [.inl v3, .inr (.inl x4)]) rfl ?_
      refine z_aI hk (z_row hX3_feesInLedger_0 13 rfl) (fun x5 => ?_)
      refine z_run hk hX3_feesInLedger_0 14 2 (pc' := 27) (lv' := [some (.inr (.inl v0)), some (.inl v1), some (.inl v2), some (.inl v3), some (.inl x5)]) (st' := [.inr (.inl v0)]) rfl ?_
      refine z_gR hk 4 (z_row hX3_feesInLedger_0 16 rfl) (ci := 3) rfl rfl wd_168 (fun x6 => ?_)
      refine z_gR hk 0 (z_row hX3_feesInLedger_0 17 rfl) (ci := 1) rfl rfl wd_73 (fun x7 => ?_)
      refine z_run hk hX3_feesInLedger_0 18 1 (pc' := 34) (lv' := [some (.inr (.inl v0)), some (.inl v1), some (.inl v2), some (.inl v3), some (.inl x5)]) (st' := [.inl v3, .inr (.inl x7)]) rfl ?_
      refine z_aI hk (z_row hX3_feesInLedger_0 19 rfl) (fun x8 => ?_)
      refine z_run hk hX3_feesInLedger_0 20 1 (pc' := 36) (lv' := [some (.inr (.inl v0)), some (.inl v1), some (.inl v2), some (.inl v3), some (.inl x5)]) (st' := [.inl 4, .inl x8]) rfl ?_
      refine z_cne hk (z_row hX3_feesInLedger_0 21 rfl) (tgt := 74) rfl ?_ ?_
      · refine z_mask [true, true, true, true, false] rfl ?_
        exact gsX3_feesInLedger_74 F n σ hk he (sX3_feesInLedger_4 n σ k) ih v0 v1 v2 v3
      · refine z_run hk hX3_feesInLedger_0 22 2 (pc' := 42) (lv' := [some (.inr (.inl v0)), some (.inl v1), some (.inl v2), some (.inl v3), some (.inl x5)]) (st' := [.inl x5, .inr (.inl v0)]) rfl ?_
        refine kX3_has F hk (z_row hX3_feesInLedger_0 24 rfl) wd_310 (by decide) (Nat.le_of_ble_eq_true rfl) (fun x9 => ?_)
        refine z_eq hk (z_row hX3_feesInLedger_0 25 rfl) (tgt := 74) rfl ?_ ?_
        · refine z_mask [true, true, true, true, false] rfl ?_
          exact gsX3_feesInLedger_74 F n σ hk he (sX3_feesInLedger_4 n σ k) ih v0 v1 v2 v3
        · refine z_run hk hX3_feesInLedger_0 26 1 (pc' := 49) (lv' := [some (.inr (.inl v0)), some (.inl v1), some (.inl v2), some (.inl v3), some (.inl x5)]) (st' := [.inr (.inl v0)]) rfl ?_
          refine z_gR hk 3 (z_row hX3_feesInLedger_0 27 rfl) (ci := 3) rfl rfl wd_166 (fun x10 => ?_)
          refine z_run hk hX3_feesInLedger_0 28 1 (pc' := 54) (lv' := [some (.inr (.inl v0)), some (.inl v1), some (.inl v2), some (.inl v3), some (.inl x5)]) (st' := [.inl x5, .inr (.inl x10)]) rfl ?_
          refine z_aR hk (κ := 25) (by decide) (z_row hX3_feesInLedger_0 29 rfl) (fun x11 => ?_)
          refine z_gI hk 5 (z_row hX3_feesInLedger_0 30 rfl) (ci := 2) rfl rfl wd_117 (fun x12 => ?_)
          refine z_run hk hX3_feesInLedger_0 31 1 (pc' := 59) (lv' := [some (.inr (.inl v0)), some (.inl v1), some (.inl v2), some (.inl v3), some (.inl x5)]) (st' := [.inl v1, .inl x12]) rfl ?_
          refine z_cne hk (z_row hX3_feesInLedger_0 32 rfl) (tgt := 74) rfl ?_ ?_
          · refine z_mask [true, true, true, true, false] rfl ?_
            exact gsX3_feesInLedger_74 F n σ hk he (sX3_feesInLedger_4 n σ k) ih v0 v1 v2 v3
          · refine z_run hk hX3_feesInLedger_0 33 2 (pc' := 64) (lv' := [some (.inr (.inl v0)), some (.inl v1), some (.inl v2), some (.inl v3), some (.inl x5)]) (st' := [.inr (.inl v0), .inl v2]) rfl ?_
            refine z_gR hk 4 (z_row hX3_feesInLedger_0 35 rfl) (ci := 3) rfl rfl wd_168 (fun x13 => ?_)
            refine z_gR hk 3 (z_row hX3_feesInLedger_0 36 rfl) (ci := 1) rfl rfl wd_81 (fun x14 => ?_)
            refine z_run hk hX3_feesInLedger_0 37 1 (pc' := 71) (lv' := [some (.inr (.inl v0)), some (.inl v1), some (.inl v2), some (.inl v3), some (.inl x5)]) (st' := [.inl v3, .inr (.inl x14), .inl v2]) rfl ?_
            refine z_aI hk (z_row hX3_feesInLedger_0 38 rfl) (fun x15 => ?_)
            refine z_run hk hX3_feesInLedger_0 39 2 (pc' := 74) (lv' := [some (.inr (.inl v0)), some (.inl v1), some (.inl (v2 + x15)), some (.inl v3), some (.inl x5)]) (st' := []) rfl ?_
            refine z_mask [true, true, true, true, false] rfl ?_
            exact gsX3_feesInLedger_74 F n σ hk he (sX3_feesInLedger_4 n σ k) ih v0 v1 (v2 + x15) v3
theorem mX3_feesInLedger (F : zFx E) (n : Nat) (a0 : Nat) (a1 : Int32) (σ : zW) (o : Int32) (hf : fX3_feesInLedger n a0 a1 σ = some o) : zM E qX3_feesInLedger cX3_feesInLedger 5 (some .int) 1 [.inr (.inl a0), .inl a1] σ (some (.int o)) σ := by
  refine zM_of (fin := (zfR σ)) F (by decide +kernel) rfl (Nat.le_of_ble_eq_true rfl) (lv0 := [some (.inr (.inl a0)), some (.inl a1), none, none, none]) rfl hf rfl (fun K hk he => ?_)
  have hk : zk E K "LotSales$Sale" cX3_feesInLedger 5 1 := hk
  unfold fX3_feesInLedger
  refine z_run hk hX3_feesInLedger_0 0 4 (pc' := 4) (lv' := [some (.inr (.inl a0)), some (.inl a1), some (.inl 0), some (.inl 0), none]) (st' := []) rfl ?_
  exact gsX3_feesInLedger_4 F n σ hk he n a0 a1 0 0
theorem kX3_feesInLedger {n : Nat} {own : String} {cc : ByteArray} {nL h index : Nat} {α : Type} {fin : α → zO} {σ : zW} {pc : Nat} {lv : zLV} {st : List zV} {a0 : Nat} {a1 : Int32} {c : Int32 → Option α} (F : zFx E) (hk : zk E K own cc nL h) (hd : decode cc pc = .ok (.invokevirtual index, 3)) (hl : Cond.methodLink own index qX3_feesInLedger ∈ lw_tbl) (hh : 1 + 1 ≤ h) (hs : zcat st ≤ 8) (k : ∀ v, zG E K fin (c v) σ (pc + 3) lv (.inl v :: st)) : zG E K fin (zck σ 4 a0 (zb (fX3_feesInLedger n a0 a1 σ) c)) σ pc lv (.inl a1 :: .inr (.inl a0) :: st) :=
  z_vR (n := 1) (y := qX3_feesInLedger) (As := [.inl a1]) hk hd hl wd_307 wd_308 wd_2 wd_309 ⟨by decide, by decide, by decide +kernel⟩ ⟨hh, by decide⟩ (ci := 3) rfl rfl rfl (fun o ho => mX3_feesInLedger F n a0 a1 σ o ho) hs k
abbrev qX4_init : MethodName := { cls := "LotSales$Standing", name := "<init>", desc := "()V" }
def fX4_init (n : Nat) (a0 : Nat) (σ : zW) : Option (zW) := if a0 = 0 then none else znA σ 20 10 fun q1 σ2 => zpR σ2 5 a0 0 q1 fun σ3 => znA σ3 20 10 fun q4 σ5 => zpR σ5 5 a0 1 q4 fun σ6 => some σ6
theorem mX4_init (F : zFx E) (n : Nat) (a0 : Nat) (σ : zW) (o : zW) (hf : fX4_init n a0 σ = some o) : zM E qX4_init cX4_init 1 none 1 [.inr (.inl a0)] σ none o := by
  refine zM_of (fin := zfV) F (by decide +kernel) rfl (Nat.le_of_ble_eq_true rfl) (lv0 := [some (.inr (.inl a0))]) rfl hf rfl (fun K hk he => ?_)
  have hk : zk E K "LotSales$Standing" cX4_init 1 1 := hk
  unfold fX4_init
  refine z_run hk hX4_init_0 0 1 (pc' := 1) (lv' := [some (.inr (.inl a0))]) (st' := [.inr (.inl a0)]) rfl ?_
  refine z_oinit0 hk (z_row hX4_init_0 1 rfl) wd_194 wd_29 wd_30 (by decide) (Nat.le_of_ble_eq_true rfl) ?_
  refine z_run hk hX4_init_0 2 2 (pc' := 7) (lv' := [some (.inr (.inl a0))]) (st' := [.inl 10, .inr (.inl a0)]) rfl ?_
  refine z_newa hk (κ := 20) (tn := 0) (z_row hX4_init_0 4 rfl) wd_63 rfl rfl (by decide) (by decide) (zhent_i E) (fun q1 σ2 => ?_)
  refine z_pR hk 0 (z_row hX4_init_0 5 rfl) (ci := 4) rfl rfl wd_195 (fun _ => ⟨he.2.1, rfl⟩) (fun _ => ⟨rfl, rfl, rfl, rfl⟩) (fun σ3 => ?_)
  refine z_run hk hX4_init_0 6 2 (pc' := 15) (lv' := [some (.inr (.inl a0))]) (st' := [.inl 10, .inr (.inl a0)]) rfl ?_
  refine z_newa hk (κ := 20) (tn := 0) (z_row hX4_init_0 8 rfl) wd_63 rfl rfl (by decide) (by decide) (zhent_i E) (fun q4 σ5 => ?_)
  refine z_pR hk 1 (z_row hX4_init_0 9 rfl) (ci := 4) rfl rfl wd_197 (fun _ => ⟨he.2.1, rfl⟩) (fun _ => ⟨rfl, rfl, rfl, rfl⟩) (fun σ6 => ?_)
  exact z_vret hk he (z_row hX4_init_0 10 rfl) rfl
theorem kX4_init_n {n : Nat} {own : String} {cc : ByteArray} {nL h index : Nat} {α : Type} {fin : α → zO} {σ : zW} {pc : Nat} {lv : zLV} {st : List zV} {a0 : Nat} {c : zW → Option α} (F : zFx E) (hk : zk E K own cc nL h) (hd : decode cc pc = .ok (.invokespecial index, 3)) (hl : Cond.methodLinkNest own index qX4_init "LotSales" ∈ lw_tbl) (hh : 1 + 1 ≤ h) (hs : zcat st ≤ 8) (k : ∀ s, zG E K fin (c s) s (pc + 3) lv st) : zG E K fin (if a0 = 0 then none else (zb (fX4_init n a0 σ) c)) σ pc lv (.inr (.inl a0) :: st) :=
  z_inV (n := 0) (y := qX4_init) (As := []) hk hd hl wd_192 wd_7 wd_193 rfl ⟨by decide, by decide, by decide +kernel⟩ ⟨hh, by decide⟩ rfl (fun o ho => mX4_init F n a0 σ o ho) hs k
abbrev qX5_stepAt : MethodName := { cls := "LotSales$Table", name := "stepAt", desc := "(I)I" }
def sX5_stepAt_4 (n : Nat) (σ : zW) : Nat → Nat → Int32 → Int32 → Int32 → Option (Int32)
  | 0, _, _, _, _ => none
  | k + 1, v0, v1, v2, v3 => zgI σ 6 v0 2 fun x1 => if v3 < x1 then zgR σ 6 v0 1 fun x2 => zaI σ x2 v3 fun x3 => zdv (if 1 < x3 then x3 else 1) (zgI σ 6 v0 2 fun x4 => if (v3 + 1) = x4 then some (v2 + (((v1 - v2) / (if 1 < x3 then x3 else 1)) * (if 1 < x3 then x3 else 1))) else zgR σ 6 v0 0 fun x5 => zaI σ x5 (v3 + 1) fun x6 => zdv (if 1 < x3 then x3 else 1) (if ((v1 - v2) / (if 1 < x3 then x3 else 1)) < ((((if 0 < (x6 - v2) then (x6 - v2) else 0) + (if 1 < x3 then x3 else 1)) - 1) / (if 1 < x3 then x3 else 1)) then some (v2 + (((v1 - v2) / (if 1 < x3 then x3 else 1)) * (if 1 < x3 then x3 else 1))) else sX5_stepAt_4 n σ k v0 v1 (v2 + (((((if 0 < (x6 - v2) then (x6 - v2) else 0) + (if 1 < x3 then x3 else 1)) - 1) / (if 1 < x3 then x3 else 1)) * (if 1 < x3 then x3 else 1))) (v3 + 1))) else some v2
def fX5_stepAt (n : Nat) (a0 : Nat) (a1 : Int32) (σ : zW) : Option (Int32) := sX5_stepAt_4 n σ n a0 a1 0 0
theorem gsX5_stepAt_4 (F : zFx E) (n : Nat) (σ : zW) (hk : zk E K "LotSales$Table" cX5_stepAt 8 1) (he : zend E K (some .int) "stepAt") : ∀ (k : Nat) (v0 : Nat) (v1 : Int32) (v2 : Int32) (v3 : Int32), zG E K (zfR σ) (sX5_stepAt_4 n σ k v0 v1 v2 v3) σ 4 [some (.inr (.inl v0)), some (.inl v1), some (.inl v2), some (.inl v3), none, none, none, none] [] := by
  intro k
  induction k with
  | zero =>
    intro v0 v1 v2 v3
    intro hX
    exact z_none hX
  | succ k ih =>
    intro v0 v1 v2 v3
    rw [sX5_stepAt_4]
    refine z_run hk hX5_stepAt_0 4 2 (pc' := 6) (lv' := [some (.inr (.inl v0)), some (.inl v1), some (.inl v2), some (.inl v3), none, none, none, none]) (st' := [.inr (.inl v0), .inl v3]) rfl ?_
    refine z_gI hk 2 (z_row hX5_stepAt_0 6 rfl) (ci := 5) rfl rfl wd_54 (fun x1 => ?_)
    refine z_cge hk (z_row hX5_stepAt_0 7 rfl) (tgt := 107) rfl ?_ ?_
    · refine z_run hk hX5_stepAt_1 9 1 (pc' := 108) (lv' := [some (.inr (.inl v0)), some (.inl v1), some (.inl v2), some (.inl v3), none, none, none, none]) (st' := [.inl v2]) rfl ?_
      exact z_iret hk he (z_row hX5_stepAt_1 10 rfl) rfl
    · refine z_run hk hX5_stepAt_0 8 2 (pc' := 14) (lv' := [some (.inr (.inl v0)), some (.inl v1), some (.inl v2), some (.inl v3), none, none, none, none]) (st' := [.inr (.inl v0), .inl 1]) rfl ?_
      refine z_gR hk 1 (z_row hX5_stepAt_0 10 rfl) (ci := 5) rfl rfl wd_52 (fun x2 => ?_)
      refine z_run hk hX5_stepAt_0 11 1 (pc' := 18) (lv' := [some (.inr (.inl v0)), some (.inl v1), some (.inl v2), some (.inl v3), none, none, none, none]) (st' := [.inl v3, .inr (.inl x2), .inl 1]) rfl ?_
      refine z_aI hk (z_row hX5_stepAt_0 12 rfl) (fun x3 => ?_)
      refine z_mmax hk (z_row hX5_stepAt_0 13 rfl) wd_577 wd_578 wd_16 wd_579 (by decide) (Nat.le_of_ble_eq_true rfl) ?_
      refine z_run hk hX5_stepAt_0 14 5 (pc' := 29) (lv' := [some (.inr (.inl v0)), some (.inl v1), some (.inl v2), some (.inl v3), some (.inl (if 1 < x3 then x3 else 1)), none, none, none]) (st' := [.inl (if 1 < x3 then x3 else 1), .inl (v1 - v2)]) rfl ?_
      refine z_idiv hk (z_row hX5_stepAt_0 19 rfl) ?_
      refine z_run hk hX5_stepAt_0 20 5 (pc' := 36) (lv' := [some (.inr (.inl v0)), some (.inl v1), some (.inl v2), some (.inl v3), some (.inl (if 1 < x3 then x3 else 1)), some (.inl ((v1 - v2) / (if 1 < x3 then x3 else 1))), none, none]) (st' := [.inr (.inl v0), .inl (v3 + 1)]) rfl ?_
      refine z_gI hk 2 (z_row hX5_stepAt_0 25 rfl) (ci := 5) rfl rfl wd_54 (fun x4 => ?_)
      refine z_cne hk (z_row hX5_stepAt_0 26 rfl) (tgt := 50) rfl ?_ ?_
      · refine z_run hk hX5_stepAt_0 33 2 (pc' := 52) (lv' := [some (.inr (.inl v0)), some (.inl v1), some (.inl v2), some (.inl v3), some (.inl (if 1 < x3 then x3 else 1)), some (.inl ((v1 - v2) / (if 1 < x3 then x3 else 1))), none, none]) (st' := [.inr (.inl v0), .inl 0]) rfl ?_
        refine z_gR hk 0 (z_row hX5_stepAt_0 35 rfl) (ci := 5) rfl rfl wd_50 (fun x5 => ?_)
        refine z_run hk hX5_stepAt_0 36 3 (pc' := 58) (lv' := [some (.inr (.inl v0)), some (.inl v1), some (.inl v2), some (.inl v3), some (.inl (if 1 < x3 then x3 else 1)), some (.inl ((v1 - v2) / (if 1 < x3 then x3 else 1))), none, none]) (st' := [.inl (v3 + 1), .inr (.inl x5), .inl 0]) rfl ?_
        refine z_aI hk (z_row hX5_stepAt_0 39 rfl) (fun x6 => ?_)
        refine z_run hk hX5_stepAt_0 40 2 (pc' := 61) (lv' := [some (.inr (.inl v0)), some (.inl v1), some (.inl v2), some (.inl v3), some (.inl (if 1 < x3 then x3 else 1)), some (.inl ((v1 - v2) / (if 1 < x3 then x3 else 1))), none, none]) (st' := [.inl (x6 - v2), .inl 0]) rfl ?_
        refine z_mmax hk (z_row hX5_stepAt_0 42 rfl) wd_577 wd_578 wd_16 wd_579 (by decide) (Nat.le_of_ble_eq_true rfl) ?_
        refine z_run hk hX5_stepAt_0 43 7 (pc' := 75) (lv' := [some (.inr (.inl v0)), some (.inl v1), some (.inl v2), some (.inl v3), some (.inl (if 1 < x3 then x3 else 1)), some (.inl ((v1 - v2) / (if 1 < x3 then x3 else 1))), some (.inl (if 0 < (x6 - v2) then (x6 - v2) else 0)), none]) (st' := [.inl (if 1 < x3 then x3 else 1), .inl (((if 0 < (x6 - v2) then (x6 - v2) else 0) + (if 1 < x3 then x3 else 1)) - 1)]) rfl ?_
        refine z_idiv hk (z_row hX5_stepAt_0 50 rfl) ?_
        refine z_run hk hX5_stepAt_0 51 3 (pc' := 82) (lv' := [some (.inr (.inl v0)), some (.inl v1), some (.inl v2), some (.inl v3), some (.inl (if 1 < x3 then x3 else 1)), some (.inl ((v1 - v2) / (if 1 < x3 then x3 else 1))), some (.inl (if 0 < (x6 - v2) then (x6 - v2) else 0)), some (.inl ((((if 0 < (x6 - v2) then (x6 - v2) else 0) + (if 1 < x3 then x3 else 1)) - 1) / (if 1 < x3 then x3 else 1)))]) (st' := [.inl ((((if 0 < (x6 - v2) then (x6 - v2) else 0) + (if 1 < x3 then x3 else 1)) - 1) / (if 1 < x3 then x3 else 1)), .inl ((v1 - v2) / (if 1 < x3 then x3 else 1))]) rfl ?_
        refine z_cge hk (z_row hX5_stepAt_0 54 rfl) (tgt := 93) rfl ?_ ?_
        · refine z_run hk hX5_stepAt_1 1 7 (pc' := 104) (lv' := [some (.inr (.inl v0)), some (.inl v1), some (.inl (v2 + (((((if 0 < (x6 - v2) then (x6 - v2) else 0) + (if 1 < x3 then x3 else 1)) - 1) / (if 1 < x3 then x3 else 1)) * (if 1 < x3 then x3 else 1)))), some (.inl (v3 + 1)), some (.inl (if 1 < x3 then x3 else 1)), some (.inl ((v1 - v2) / (if 1 < x3 then x3 else 1))), some (.inl (if 0 < (x6 - v2) then (x6 - v2) else 0)), some (.inl ((((if 0 < (x6 - v2) then (x6 - v2) else 0) + (if 1 < x3 then x3 else 1)) - 1) / (if 1 < x3 then x3 else 1)))]) (st' := []) rfl ?_
          refine z_goto hk (z_row hX5_stepAt_1 8 rfl) (tgt := 4) rfl ?_
          refine z_mask [true, true, true, true, false, false, false, false] rfl ?_
          exact ih v0 v1 (v2 + (((((if 0 < (x6 - v2) then (x6 - v2) else 0) + (if 1 < x3 then x3 else 1)) - 1) / (if 1 < x3 then x3 else 1)) * (if 1 < x3 then x3 else 1))) (v3 + 1)
        · refine z_run hk hX5_stepAt_0 55 5 (pc' := 92) (lv' := [some (.inr (.inl v0)), some (.inl v1), some (.inl v2), some (.inl v3), some (.inl (if 1 < x3 then x3 else 1)), some (.inl ((v1 - v2) / (if 1 < x3 then x3 else 1))), some (.inl (if 0 < (x6 - v2) then (x6 - v2) else 0)), some (.inl ((((if 0 < (x6 - v2) then (x6 - v2) else 0) + (if 1 < x3 then x3 else 1)) - 1) / (if 1 < x3 then x3 else 1)))]) (st' := [.inl (v2 + (((v1 - v2) / (if 1 < x3 then x3 else 1)) * (if 1 < x3 then x3 else 1)))]) rfl ?_
          exact z_iret hk he (z_row hX5_stepAt_1 0 rfl) rfl
      · refine z_run hk hX5_stepAt_0 27 5 (pc' := 49) (lv' := [some (.inr (.inl v0)), some (.inl v1), some (.inl v2), some (.inl v3), some (.inl (if 1 < x3 then x3 else 1)), some (.inl ((v1 - v2) / (if 1 < x3 then x3 else 1))), none, none]) (st' := [.inl (v2 + (((v1 - v2) / (if 1 < x3 then x3 else 1)) * (if 1 < x3 then x3 else 1)))]) rfl ?_
        exact z_iret hk he (z_row hX5_stepAt_0 32 rfl) rfl
theorem mX5_stepAt (F : zFx E) (n : Nat) (a0 : Nat) (a1 : Int32) (σ : zW) (o : Int32) (hf : fX5_stepAt n a0 a1 σ = some o) : zM E qX5_stepAt cX5_stepAt 8 (some .int) 1 [.inr (.inl a0), .inl a1] σ (some (.int o)) σ := by
  refine zM_of (fin := (zfR σ)) F (by decide +kernel) rfl (Nat.le_of_ble_eq_true rfl) (lv0 := [some (.inr (.inl a0)), some (.inl a1), none, none, none, none, none, none]) rfl hf rfl (fun K hk he => ?_)
  have hk : zk E K "LotSales$Table" cX5_stepAt 8 1 := hk
  unfold fX5_stepAt
  refine z_run hk hX5_stepAt_0 0 4 (pc' := 4) (lv' := [some (.inr (.inl a0)), some (.inl a1), some (.inl 0), some (.inl 0), none, none, none, none]) (st' := []) rfl ?_
  exact gsX5_stepAt_4 F n σ hk he n a0 a1 0 0
theorem kX5_stepAt {n : Nat} {own : String} {cc : ByteArray} {nL h index : Nat} {α : Type} {fin : α → zO} {σ : zW} {pc : Nat} {lv : zLV} {st : List zV} {a0 : Nat} {a1 : Int32} {c : Int32 → Option α} (F : zFx E) (hk : zk E K own cc nL h) (hd : decode cc pc = .ok (.invokevirtual index, 3)) (hl : Cond.methodLink own index qX5_stepAt ∈ lw_tbl) (hh : 1 + 1 ≤ h) (hs : zcat st ≤ 8) (k : ∀ v, zG E K fin (c v) σ (pc + 3) lv (.inl v :: st)) : zG E K fin (zck σ 6 a0 (zb (fX5_stepAt n a0 a1 σ) c)) σ pc lv (.inl a1 :: .inr (.inl a0) :: st) :=
  z_vR (n := 1) (y := qX5_stepAt) (As := [.inl a1]) hk hd hl wd_574 wd_575 wd_3 wd_576 ⟨by decide, by decide, by decide +kernel⟩ ⟨hh, by decide⟩ (ci := 5) rfl rfl rfl (fun o ho => mX5_stepAt F n a0 a1 σ o ho) hs k
abbrev qX4_isAhead : MethodName := { cls := "LotSales$Standing", name := "isAhead", desc := "(II)Z" }
def sX4_isAhead_35 (n : Nat) (σ : zW) (y0 : Int32) : Option (Int32) := if y0 = 0 ∨ y0 = 1 then some y0 else none
def sX4_isAhead_56 (n : Nat) (σ : zW) (y0 : Int32) : Option (Int32) := if y0 = 0 ∨ y0 = 1 then some y0 else none
def fX4_isAhead (n : Nat) (a0 : Nat) (a1 : Int32) (a2 : Int32) (σ : zW) : Option (Int32) := zgR σ 5 a0 0 fun x1 => zaI σ x1 a1 fun x2 => zgR σ 5 a0 0 fun x3 => zaI σ x3 a2 fun x4 => if x2 = x4 then zgR σ 5 a0 1 fun x5 => zaI σ x5 a1 fun x6 => zgR σ 5 a0 1 fun x7 => zaI σ x7 a2 fun x8 => if x6 < x8 then sX4_isAhead_56 n σ 1 else sX4_isAhead_56 n σ 0 else zgR σ 5 a0 0 fun x9 => zaI σ x9 a1 fun x10 => zgR σ 5 a0 0 fun x11 => zaI σ x11 a2 fun x12 => if x12 < x10 then sX4_isAhead_35 n σ 1 else sX4_isAhead_35 n σ 0
theorem gsX4_isAhead_35 (F : zFx E) (n : Nat) (σ : zW) (hk : zk E K "LotSales$Standing" cX4_isAhead 3 0) (he : zend E K (some .boolean) "isAhead") (y0 : Int32) : zG E K (zfR σ) (sX4_isAhead_35 n σ y0) σ 35 [none, none, none] [.inl y0] := by
  unfold sX4_isAhead_35
  exact z_zret (fin := (zfR σ)) (o := y0) hk he (z_row hX4_isAhead_0 21 rfl) rfl
theorem gsX4_isAhead_56 (F : zFx E) (n : Nat) (σ : zW) (hk : zk E K "LotSales$Standing" cX4_isAhead 3 0) (he : zend E K (some .boolean) "isAhead") (y0 : Int32) : zG E K (zfR σ) (sX4_isAhead_56 n σ y0) σ 56 [none, none, none] [.inl y0] := by
  unfold sX4_isAhead_56
  exact z_zret (fin := (zfR σ)) (o := y0) hk he (z_row hX4_isAhead_0 34 rfl) rfl
theorem mX4_isAhead (F : zFx E) (n : Nat) (a0 : Nat) (a1 : Int32) (a2 : Int32) (σ : zW) (o : Int32) (hf : fX4_isAhead n a0 a1 a2 σ = some o) : zM E qX4_isAhead cX4_isAhead 3 (some .boolean) 0 [.inr (.inl a0), .inl a1, .inl a2] σ (some (.int o)) σ := by
  refine zM_of (fin := (zfR σ)) F (by decide +kernel) rfl (Nat.le_of_ble_eq_true rfl) (lv0 := [some (.inr (.inl a0)), some (.inl a1), some (.inl a2)]) rfl hf rfl (fun K hk he => ?_)
  have hk : zk E K "LotSales$Standing" cX4_isAhead 3 0 := hk
  unfold fX4_isAhead
  refine z_run hk hX4_isAhead_0 0 1 (pc' := 1) (lv' := [some (.inr (.inl a0)), some (.inl a1), some (.inl a2)]) (st' := [.inr (.inl a0)]) rfl ?_
  refine z_gR hk 0 (z_row hX4_isAhead_0 1 rfl) (ci := 4) rfl rfl wd_195 (fun x1 => ?_)
  refine z_run hk hX4_isAhead_0 2 1 (pc' := 5) (lv' := [some (.inr (.inl a0)), some (.inl a1), some (.inl a2)]) (st' := [.inl a1, .inr (.inl x1)]) rfl ?_
  refine z_aI hk (z_row hX4_isAhead_0 3 rfl) (fun x2 => ?_)
  refine z_run hk hX4_isAhead_0 4 1 (pc' := 7) (lv' := [some (.inr (.inl a0)), some (.inl a1), some (.inl a2)]) (st' := [.inr (.inl a0), .inl x2]) rfl ?_
  refine z_gR hk 0 (z_row hX4_isAhead_0 5 rfl) (ci := 4) rfl rfl wd_195 (fun x3 => ?_)
  refine z_run hk hX4_isAhead_0 6 1 (pc' := 11) (lv' := [some (.inr (.inl a0)), some (.inl a1), some (.inl a2)]) (st' := [.inl a2, .inr (.inl x3), .inl x2]) rfl ?_
  refine z_aI hk (z_row hX4_isAhead_0 7 rfl) (fun x4 => ?_)
  refine z_ceq hk (z_row hX4_isAhead_0 8 rfl) (tgt := 36) rfl ?_ ?_
  · refine z_run hk hX4_isAhead_0 22 1 (pc' := 37) (lv' := [some (.inr (.inl a0)), some (.inl a1), some (.inl a2)]) (st' := [.inr (.inl a0)]) rfl ?_
    refine z_gR hk 1 (z_row hX4_isAhead_0 23 rfl) (ci := 4) rfl rfl wd_197 (fun x5 => ?_)
    refine z_run hk hX4_isAhead_0 24 1 (pc' := 41) (lv' := [some (.inr (.inl a0)), some (.inl a1), some (.inl a2)]) (st' := [.inl a1, .inr (.inl x5)]) rfl ?_
    refine z_aI hk (z_row hX4_isAhead_0 25 rfl) (fun x6 => ?_)
    refine z_run hk hX4_isAhead_0 26 1 (pc' := 43) (lv' := [some (.inr (.inl a0)), some (.inl a1), some (.inl a2)]) (st' := [.inr (.inl a0), .inl x6]) rfl ?_
    refine z_gR hk 1 (z_row hX4_isAhead_0 27 rfl) (ci := 4) rfl rfl wd_197 (fun x7 => ?_)
    refine z_run hk hX4_isAhead_0 28 1 (pc' := 47) (lv' := [some (.inr (.inl a0)), some (.inl a1), some (.inl a2)]) (st' := [.inl a2, .inr (.inl x7), .inl x6]) rfl ?_
    refine z_aI hk (z_row hX4_isAhead_0 29 rfl) (fun x8 => ?_)
    refine z_cge hk (z_row hX4_isAhead_0 30 rfl) (tgt := 55) rfl ?_ ?_
    · refine z_run hk hX4_isAhead_0 33 1 (pc' := 56) (lv' := [some (.inr (.inl a0)), some (.inl a1), some (.inl a2)]) (st' := [.inl 0]) rfl ?_
      refine z_mask [false, false, false] rfl ?_
      exact gsX4_isAhead_56 F n σ hk he 0
    · refine z_run hk hX4_isAhead_0 31 1 (pc' := 52) (lv' := [some (.inr (.inl a0)), some (.inl a1), some (.inl a2)]) (st' := [.inl 1]) rfl ?_
      refine z_goto hk (z_row hX4_isAhead_0 32 rfl) (tgt := 56) rfl ?_
      refine z_mask [false, false, false] rfl ?_
      exact gsX4_isAhead_56 F n σ hk he 1
  · refine z_run hk hX4_isAhead_0 9 1 (pc' := 16) (lv' := [some (.inr (.inl a0)), some (.inl a1), some (.inl a2)]) (st' := [.inr (.inl a0)]) rfl ?_
    refine z_gR hk 0 (z_row hX4_isAhead_0 10 rfl) (ci := 4) rfl rfl wd_195 (fun x9 => ?_)
    refine z_run hk hX4_isAhead_0 11 1 (pc' := 20) (lv' := [some (.inr (.inl a0)), some (.inl a1), some (.inl a2)]) (st' := [.inl a1, .inr (.inl x9)]) rfl ?_
    refine z_aI hk (z_row hX4_isAhead_0 12 rfl) (fun x10 => ?_)
    refine z_run hk hX4_isAhead_0 13 1 (pc' := 22) (lv' := [some (.inr (.inl a0)), some (.inl a1), some (.inl a2)]) (st' := [.inr (.inl a0), .inl x10]) rfl ?_
    refine z_gR hk 0 (z_row hX4_isAhead_0 14 rfl) (ci := 4) rfl rfl wd_195 (fun x11 => ?_)
    refine z_run hk hX4_isAhead_0 15 1 (pc' := 26) (lv' := [some (.inr (.inl a0)), some (.inl a1), some (.inl a2)]) (st' := [.inl a2, .inr (.inl x11), .inl x10]) rfl ?_
    refine z_aI hk (z_row hX4_isAhead_0 16 rfl) (fun x12 => ?_)
    refine z_cle hk (z_row hX4_isAhead_0 17 rfl) (tgt := 34) rfl ?_ ?_
    · refine z_run hk hX4_isAhead_0 20 1 (pc' := 35) (lv' := [some (.inr (.inl a0)), some (.inl a1), some (.inl a2)]) (st' := [.inl 0]) rfl ?_
      refine z_mask [false, false, false] rfl ?_
      exact gsX4_isAhead_35 F n σ hk he 0
    · refine z_run hk hX4_isAhead_0 18 1 (pc' := 31) (lv' := [some (.inr (.inl a0)), some (.inl a1), some (.inl a2)]) (st' := [.inl 1]) rfl ?_
      refine z_goto hk (z_row hX4_isAhead_0 19 rfl) (tgt := 35) rfl ?_
      refine z_mask [false, false, false] rfl ?_
      exact gsX4_isAhead_35 F n σ hk he 1
theorem kX4_isAhead {n : Nat} {own : String} {cc : ByteArray} {nL h index : Nat} {α : Type} {fin : α → zO} {σ : zW} {pc : Nat} {lv : zLV} {st : List zV} {a0 : Nat} {a1 : Int32} {a2 : Int32} {c : Int32 → Option α} (F : zFx E) (hk : zk E K own cc nL h) (hd : decode cc pc = .ok (.invokevirtual index, 3)) (hl : Cond.methodLink own index qX4_isAhead ∈ lw_tbl) (hh : 0 + 1 ≤ h) (hs : zcat st ≤ 8) (k : ∀ v, zG E K fin (c v) σ (pc + 3) lv (.inl v :: st)) : zG E K fin (zck σ 5 a0 (zb (fX4_isAhead n a0 a1 a2 σ) c)) σ pc lv (.inl a2 :: .inl a1 :: .inr (.inl a0) :: st) :=
  z_vR (n := 2) (y := qX4_isAhead) (As := [.inl a1, .inl a2]) hk hd hl wd_728 wd_729 wd_7 wd_730 ⟨by decide, by decide, by decide +kernel⟩ ⟨hh, by decide⟩ (ci := 4) rfl rfl rfl (fun o ho => mX4_isAhead F n a0 a1 a2 σ o ho) hs k
abbrev qX4_findLeader : MethodName := { cls := "LotSales$Standing", name := "findLeader", desc := "()V" }
def sX4_findLeader_69 (n : Nat) (r9 : Nat → Int32 → Int32 → Int32 → Int32 → zW → Option (zW)) (v0 : Nat) (v1 : Int32) (v2 : Int32) (v3 : Int32) (v4 : Int32) (σ : zW) : Option (zW) := r9 v0 v1 v2 v3 (v4 + 1) σ
def sX4_findLeader_41 (n : Nat) (r9 : Nat → Int32 → Int32 → Int32 → Int32 → zW → Option (zW)) (v0 : Nat) (v2 : Int32) (v4 : Int32) (σ : zW) : Option (zW) := zgR σ 5 v0 0 fun x1 => zaI σ x1 v4 fun x2 => sX4_findLeader_69 n r9 v0 v4 x2 v2 v4 σ
def sX4_findLeader_57 (n : Nat) (r9 : Nat → Int32 → Int32 → Int32 → Int32 → zW → Option (zW)) (v0 : Nat) (v1 : Int32) (v2 : Int32) (v3 : Int32) (v4 : Int32) (σ : zW) : Option (zW) := zgR σ 5 v0 0 fun x3 => zaI σ x3 v4 fun x4 => sX4_findLeader_69 n r9 v0 v1 v2 (if v3 < x4 then x4 else v3) v4 σ
def sX4_findLeader_127 (n : Nat) (σ : zW) : Option (zW) := some σ
def sX4_findLeader_9 (n : Nat) : Nat → Nat → Int32 → Int32 → Int32 → Int32 → zW → Option (zW)
  | 0, _, _, _, _, _, _ => none
  | k + 1, v0, v1, v2, v3, v4, σ => if v4 < 10 then zgR σ 5 v0 0 fun x14 => zaI σ x14 v4 fun x15 => if 0 < x15 then if v1 = (-1) then sX4_findLeader_41 n (sX4_findLeader_9 n k) v0 v2 v4 σ else zck σ 5 v0 (zb (fX4_isAhead n v0 v4 v1 σ) fun x16 => if x16 = 0 then sX4_findLeader_57 n (sX4_findLeader_9 n k) v0 v1 v2 v3 v4 σ else sX4_findLeader_41 n (sX4_findLeader_9 n k) v0 v2 v4 σ) else sX4_findLeader_57 n (sX4_findLeader_9 n k) v0 v1 v2 v3 v4 σ else zgI σ 5 v0 2 fun x5 => if v2 < x5 then zpI σ 5 v0 3 10 fun σ10 => zgI σ10 5 v0 2 fun x11 => zpI σ10 5 v0 4 x11 fun σ12 => zpI σ12 5 v0 5 v2 fun σ13 => sX4_findLeader_127 n σ13 else zpI σ 5 v0 3 v1 fun σ6 => zpI σ6 5 v0 4 v2 fun σ7 => zgI σ7 5 v0 2 fun x8 => zpI σ7 5 v0 5 (if x8 < v3 then v3 else x8) fun σ9 => sX4_findLeader_127 n σ9
def fX4_findLeader (n : Nat) (a0 : Nat) (σ : zW) : Option (zW) := sX4_findLeader_9 n n a0 (-1) 0 0 0 σ
theorem gsX4_findLeader_69 (F : zFx E) (n : Nat) (hk : zk E K "LotSales$Standing" cX4_findLeader 5 1) (he : zend E K none "findLeader") (r9 : Nat → Int32 → Int32 → Int32 → Int32 → zW → Option (zW)) (hr9 : ∀ (v0 : Nat) (v1 : Int32) (v2 : Int32) (v3 : Int32) (v4 : Int32) (σ : zW), zG E K zfV (r9 v0 v1 v2 v3 v4 σ) σ 9 [some (.inr (.inl v0)), some (.inl v1), some (.inl v2), some (.inl v3), some (.inl v4)] []) (v0 : Nat) (v1 : Int32) (v2 : Int32) (v3 : Int32) (v4 : Int32) (σ : zW) : zG E K zfV (sX4_findLeader_69 n r9 v0 v1 v2 v3 v4 σ) σ 69 [some (.inr (.inl v0)), some (.inl v1), some (.inl v2), some (.inl v3), some (.inl v4)] [] := by
  unfold sX4_findLeader_69
  refine z_run hk hX4_findLeader_0 41 1 (pc' := 72) (lv' := [some (.inr (.inl v0)), some (.inl v1), some (.inl v2), some (.inl v3), some (.inl (v4 + 1))]) (st' := []) rfl ?_
  refine z_goto hk (z_row hX4_findLeader_0 42 rfl) (tgt := 9) rfl ?_
  exact hr9 v0 v1 v2 v3 (v4 + 1) σ
theorem gsX4_findLeader_41 (F : zFx E) (n : Nat) (hk : zk E K "LotSales$Standing" cX4_findLeader 5 1) (he : zend E K none "findLeader") (r9 : Nat → Int32 → Int32 → Int32 → Int32 → zW → Option (zW)) (hr9 : ∀ (v0 : Nat) (v1 : Int32) (v2 : Int32) (v3 : Int32) (v4 : Int32) (σ : zW), zG E K zfV (r9 v0 v1 v2 v3 v4 σ) σ 9 [some (.inr (.inl v0)), some (.inl v1), some (.inl v2), some (.inl v3), some (.inl v4)] []) (v0 : Nat) (v2 : Int32) (v4 : Int32) (σ : zW) : zG E K zfV (sX4_findLeader_41 n r9 v0 v2 v4 σ) σ 41 [some (.inr (.inl v0)), none, some (.inl v2), none, some (.inl v4)] [] := by
  unfold sX4_findLeader_41
  refine z_run hk hX4_findLeader_0 24 5 (pc' := 47) (lv' := [some (.inr (.inl v0)), some (.inl v4), some (.inl v2), some (.inl v2), some (.inl v4)]) (st' := [.inr (.inl v0)]) rfl ?_
  refine z_gR hk 0 (z_row hX4_findLeader_0 29 rfl) (ci := 4) rfl rfl wd_195 (fun x1 => ?_)
  refine z_run hk hX4_findLeader_0 30 1 (pc' := 52) (lv' := [some (.inr (.inl v0)), some (.inl v4), some (.inl v2), some (.inl v2), some (.inl v4)]) (st' := [.inl v4, .inr (.inl x1)]) rfl ?_
  refine z_aI hk (z_row hX4_findLeader_0 31 rfl) (fun x2 => ?_)
  refine z_run hk hX4_findLeader_0 32 1 (pc' := 54) (lv' := [some (.inr (.inl v0)), some (.inl v4), some (.inl x2), some (.inl v2), some (.inl v4)]) (st' := []) rfl ?_
  refine z_goto hk (z_row hX4_findLeader_0 33 rfl) (tgt := 69) rfl ?_
  exact gsX4_findLeader_69 F n hk he r9 hr9 v0 v4 x2 v2 v4 σ
theorem gsX4_findLeader_57 (F : zFx E) (n : Nat) (hk : zk E K "LotSales$Standing" cX4_findLeader 5 1) (he : zend E K none "findLeader") (r9 : Nat → Int32 → Int32 → Int32 → Int32 → zW → Option (zW)) (hr9 : ∀ (v0 : Nat) (v1 : Int32) (v2 : Int32) (v3 : Int32) (v4 : Int32) (σ : zW), zG E K zfV (r9 v0 v1 v2 v3 v4 σ) σ 9 [some (.inr (.inl v0)), some (.inl v1), some (.inl v2), some (.inl v3), some (.inl v4)] []) (v0 : Nat) (v1 : Int32) (v2 : Int32) (v3 : Int32) (v4 : Int32) (σ : zW) : zG E K zfV (sX4_findLeader_57 n r9 v0 v1 v2 v3 v4 σ) σ 57 [some (.inr (.inl v0)), some (.inl v1), some (.inl v2), some (.inl v3), some (.inl v4)] [] := by
  unfold sX4_findLeader_57
  refine z_run hk hX4_findLeader_0 34 2 (pc' := 59) (lv' := [some (.inr (.inl v0)), some (.inl v1), some (.inl v2), some (.inl v3), some (.inl v4)]) (st' := [.inr (.inl v0), .inl v3]) rfl ?_
  refine z_gR hk 0 (z_row hX4_findLeader_0 36 rfl) (ci := 4) rfl rfl wd_195 (fun x3 => ?_)
  refine z_run hk hX4_findLeader_0 37 1 (pc' := 64) (lv' := [some (.inr (.inl v0)), some (.inl v1), some (.inl v2), some (.inl v3), some (.inl v4)]) (st' := [.inl v4, .inr (.inl x3), .inl v3]) rfl ?_
  refine z_aI hk (z_row hX4_findLeader_0 38 rfl) (fun x4 => ?_)
  refine z_mmax hk (z_row hX4_findLeader_0 39 rfl) wd_721 wd_578 wd_16 wd_579 (by decide) (Nat.le_of_ble_eq_true rfl) ?_
  refine z_run hk hX4_findLeader_0 40 1 (pc' := 69) (lv' := [some (.inr (.inl v0)), some (.inl v1), some (.inl v2), some (.inl (if v3 < x4 then x4 else v3)), some (.inl v4)]) (st' := []) rfl ?_
  exact gsX4_findLeader_69 F n hk he r9 hr9 v0 v1 v2 (if v3 < x4 then x4 else v3) v4 σ
theorem gsX4_findLeader_127 (F : zFx E) (n : Nat) (hk : zk E K "LotSales$Standing" cX4_findLeader 5 1) (he : zend E K none "findLeader") (σ : zW) : zG E K zfV (sX4_findLeader_127 n σ) σ 127 [none, none, none, none, none] [] := by
  unfold sX4_findLeader_127
  exact z_vret hk he (z_row hX4_findLeader_1 10 rfl) rfl
theorem gsX4_findLeader_9 (F : zFx E) (n : Nat) (hk : zk E K "LotSales$Standing" cX4_findLeader 5 1) (he : zend E K none "findLeader") : ∀ (k : Nat) (v0 : Nat) (v1 : Int32) (v2 : Int32) (v3 : Int32) (v4 : Int32) (σ : zW), zG E K zfV (sX4_findLeader_9 n k v0 v1 v2 v3 v4 σ) σ 9 [some (.inr (.inl v0)), some (.inl v1), some (.inl v2), some (.inl v3), some (.inl v4)] [] := by
  intro k
  induction k with
  | zero =>
    intro v0 v1 v2 v3 v4 σ
    intro hX
    exact z_none hX
  | succ k ih =>
    intro v0 v1 v2 v3 v4 σ
    rw [sX4_findLeader_9]
    refine z_run hk hX4_findLeader_0 8 2 (pc' := 13) (lv' := [some (.inr (.inl v0)), some (.inl v1), some (.inl v2), some (.inl v3), some (.inl v4)]) (st' := [.inl 10, .inl v4]) rfl ?_
    refine z_cge hk (z_row hX4_findLeader_0 10 rfl) (tgt := 75) rfl ?_ ?_
    · refine z_run hk hX4_findLeader_0 43 1 (pc' := 76) (lv' := [some (.inr (.inl v0)), some (.inl v1), some (.inl v2), some (.inl v3), some (.inl v4)]) (st' := [.inr (.inl v0)]) rfl ?_
      refine z_gI hk 2 (z_row hX4_findLeader_0 44 rfl) (ci := 4) rfl rfl wd_199 (fun x5 => ?_)
      refine z_run hk hX4_findLeader_0 45 1 (pc' := 80) (lv' := [some (.inr (.inl v0)), some (.inl v1), some (.inl v2), some (.inl v3), some (.inl v4)]) (st' := [.inl v2, .inl x5]) rfl ?_
      refine z_cle hk (z_row hX4_findLeader_0 46 rfl) (tgt := 105) rfl ?_ ?_
      · refine z_run hk hX4_findLeader_0 58 2 (pc' := 107) (lv' := [some (.inr (.inl v0)), some (.inl v1), some (.inl v2), some (.inl v3), some (.inl v4)]) (st' := [.inl v1, .inr (.inl v0)]) rfl ?_
        refine z_pI hk 3 (z_row hX4_findLeader_1 0 rfl) (ci := 4) rfl rfl wd_200 rfl rfl rfl (fun σ6 => ?_)
        refine z_run hk hX4_findLeader_1 1 2 (pc' := 112) (lv' := [some (.inr (.inl v0)), some (.inl v1), some (.inl v2), some (.inl v3), some (.inl v4)]) (st' := [.inl v2, .inr (.inl v0)]) rfl ?_
        refine z_pI hk 4 (z_row hX4_findLeader_1 3 rfl) (ci := 4) rfl rfl wd_202 rfl rfl rfl (fun σ7 => ?_)
        refine z_run hk hX4_findLeader_1 4 2 (pc' := 117) (lv' := [some (.inr (.inl v0)), some (.inl v1), some (.inl v2), some (.inl v3), some (.inl v4)]) (st' := [.inr (.inl v0), .inr (.inl v0)]) rfl ?_
        refine z_gI hk 2 (z_row hX4_findLeader_1 6 rfl) (ci := 4) rfl rfl wd_199 (fun x8 => ?_)
        refine z_run hk hX4_findLeader_1 7 1 (pc' := 121) (lv' := [some (.inr (.inl v0)), some (.inl v1), some (.inl v2), some (.inl v3), some (.inl v4)]) (st' := [.inl v3, .inl x8, .inr (.inl v0)]) rfl ?_
        refine z_mmax hk (z_row hX4_findLeader_1 8 rfl) wd_721 wd_578 wd_16 wd_579 (by decide) (Nat.le_of_ble_eq_true rfl) ?_
        refine z_pI hk 5 (z_row hX4_findLeader_1 9 rfl) (ci := 4) rfl rfl wd_204 rfl rfl rfl (fun σ9 => ?_)
        refine z_mask [false, false, false, false, false] rfl ?_
        exact gsX4_findLeader_127 F n hk he σ9
      · refine z_run hk hX4_findLeader_0 47 2 (pc' := 86) (lv' := [some (.inr (.inl v0)), some (.inl v1), some (.inl v2), some (.inl v3), some (.inl v4)]) (st' := [.inl 10, .inr (.inl v0)]) rfl ?_
        refine z_pI hk 3 (z_row hX4_findLeader_0 49 rfl) (ci := 4) rfl rfl wd_200 rfl rfl rfl (fun σ10 => ?_)
        refine z_run hk hX4_findLeader_0 50 2 (pc' := 91) (lv' := [some (.inr (.inl v0)), some (.inl v1), some (.inl v2), some (.inl v3), some (.inl v4)]) (st' := [.inr (.inl v0), .inr (.inl v0)]) rfl ?_
        refine z_gI hk 2 (z_row hX4_findLeader_0 52 rfl) (ci := 4) rfl rfl wd_199 (fun x11 => ?_)
        refine z_pI hk 4 (z_row hX4_findLeader_0 53 rfl) (ci := 4) rfl rfl wd_202 rfl rfl rfl (fun σ12 => ?_)
        refine z_run hk hX4_findLeader_0 54 2 (pc' := 99) (lv' := [some (.inr (.inl v0)), some (.inl v1), some (.inl v2), some (.inl v3), some (.inl v4)]) (st' := [.inl v2, .inr (.inl v0)]) rfl ?_
        refine z_pI hk 5 (z_row hX4_findLeader_0 56 rfl) (ci := 4) rfl rfl wd_204 rfl rfl rfl (fun σ13 => ?_)
        refine z_goto hk (z_row hX4_findLeader_0 57 rfl) (tgt := 127) rfl ?_
        refine z_mask [false, false, false, false, false] rfl ?_
        exact gsX4_findLeader_127 F n hk he σ13
    · refine z_run hk hX4_findLeader_0 11 1 (pc' := 17) (lv' := [some (.inr (.inl v0)), some (.inl v1), some (.inl v2), some (.inl v3), some (.inl v4)]) (st' := [.inr (.inl v0)]) rfl ?_
      refine z_gR hk 0 (z_row hX4_findLeader_0 12 rfl) (ci := 4) rfl rfl wd_195 (fun x14 => ?_)
      refine z_run hk hX4_findLeader_0 13 1 (pc' := 22) (lv' := [some (.inr (.inl v0)), some (.inl v1), some (.inl v2), some (.inl v3), some (.inl v4)]) (st' := [.inl v4, .inr (.inl x14)]) rfl ?_
      refine z_aI hk (z_row hX4_findLeader_0 14 rfl) (fun x15 => ?_)
      refine z_le hk (z_row hX4_findLeader_0 15 rfl) (tgt := 57) rfl ?_ ?_
      · exact gsX4_findLeader_57 F n hk he (sX4_findLeader_9 n k) ih v0 v1 v2 v3 v4 σ
      · refine z_run hk hX4_findLeader_0 16 2 (pc' := 28) (lv' := [some (.inr (.inl v0)), some (.inl v1), some (.inl v2), some (.inl v3), some (.inl v4)]) (st' := [.inl (-1), .inl v1]) rfl ?_
        refine z_ceq hk (z_row hX4_findLeader_0 18 rfl) (tgt := 41) rfl ?_ ?_
        · refine z_mask [true, false, true, false, true] rfl ?_
          exact gsX4_findLeader_41 F n hk he (sX4_findLeader_9 n k) ih v0 v2 v4 σ
        · refine z_run hk hX4_findLeader_0 19 3 (pc' := 35) (lv' := [some (.inr (.inl v0)), some (.inl v1), some (.inl v2), some (.inl v3), some (.inl v4)]) (st' := [.inl v1, .inl v4, .inr (.inl v0)]) rfl ?_
          refine kX4_isAhead F hk (z_row hX4_findLeader_0 22 rfl) wd_727 (by decide) (Nat.le_of_ble_eq_true rfl) (fun x16 => ?_)
          refine z_eq hk (z_row hX4_findLeader_0 23 rfl) (tgt := 57) rfl ?_ ?_
          · exact gsX4_findLeader_57 F n hk he (sX4_findLeader_9 n k) ih v0 v1 v2 v3 v4 σ
          · refine z_mask [true, false, true, false, true] rfl ?_
            exact gsX4_findLeader_41 F n hk he (sX4_findLeader_9 n k) ih v0 v2 v4 σ
theorem mX4_findLeader (F : zFx E) (n : Nat) (a0 : Nat) (σ : zW) (o : zW) (hf : fX4_findLeader n a0 σ = some o) : zM E qX4_findLeader cX4_findLeader 5 none 1 [.inr (.inl a0)] σ none o := by
  refine zM_of (fin := zfV) F (by decide +kernel) rfl (Nat.le_of_ble_eq_true rfl) (lv0 := [some (.inr (.inl a0)), none, none, none, none]) rfl hf rfl (fun K hk he => ?_)
  have hk : zk E K "LotSales$Standing" cX4_findLeader 5 1 := hk
  unfold fX4_findLeader
  refine z_run hk hX4_findLeader_0 0 8 (pc' := 9) (lv' := [some (.inr (.inl a0)), some (.inl (-1)), some (.inl 0), some (.inl 0), some (.inl 0)]) (st' := []) rfl ?_
  exact gsX4_findLeader_9 F n hk he n a0 (-1) 0 0 0 σ
theorem kX4_findLeader {n : Nat} {own : String} {cc : ByteArray} {nL h index : Nat} {α : Type} {fin : α → zO} {σ : zW} {pc : Nat} {lv : zLV} {st : List zV} {a0 : Nat} {c : zW → Option α} (F : zFx E) (hk : zk E K own cc nL h) (hd : decode cc pc = .ok (.invokevirtual index, 3)) (hl : Cond.methodLink own index qX4_findLeader ∈ lw_tbl) (hh : 1 + 1 ≤ h) (hs : zcat st ≤ 8) (k : ∀ s, zG E K fin (c s) s (pc + 3) lv st) : zG E K fin (zck σ 5 a0 (zb (fX4_findLeader n a0 σ) c)) σ pc lv (.inr (.inl a0) :: st) :=
  z_vV (n := 0) (y := qX4_findLeader) (As := []) hk hd hl wd_724 wd_725 wd_7 wd_726 ⟨by decide, by decide, by decide +kernel⟩ ⟨hh, by decide⟩ (ci := 4) rfl rfl rfl (fun o ho => mX4_findLeader F n a0 σ o ho) hs k
abbrev qX4_settle : MethodName := { cls := "LotSales$Standing", name := "settle", desc := "(LLotSales$Lot;LLotSales$Table;)V" }
def sX4_settle_100 (n : Nat) (r2 : Nat → Nat → Nat → Int32 → zW → Option (zW)) (v0 : Nat) (v1 : Nat) (v2 : Nat) (v3 : Int32) (σ : zW) : Option (zW) := r2 v0 v1 v2 (v3 + 1) σ
def sX4_settle_99 (n : Nat) (r2 : Nat → Nat → Nat → Int32 → zW → Option (zW)) (v0 : Nat) (v1 : Nat) (v2 : Nat) (v3 : Int32) (y0 : Nat) (y1 : Int32) (y2 : Int32) (σ : zW) : Option (zW) := zsI σ y0 y1 y2 fun σ1 => sX4_settle_100 n r2 v0 v1 v2 v3 σ1
def sX4_settle_128 (n : Nat) (v0 : Nat) (y0 : Nat) (y1 : Int32) (σ : zW) : Option (zW) := zpI σ 5 y0 2 y1 fun σ2 => zck σ2 5 v0 (zb (fX4_findLeader n v0 σ2) fun σ3 => some σ3)
def sX4_settle_2 (n : Nat) : Nat → Nat → Nat → Nat → Int32 → zW → Option (zW)
  | 0, _, _, _, _, _ => none
  | k + 1, v0, v1, v2, v3, σ => if v3 < 10 then zgR σ 3 v1 0 fun x7 => zaI σ x7 v3 fun x8 => zck σ 6 v2 (zb (fX5_stepAt n v2 x8 σ) fun x9 => zgR σ 3 v1 2 fun x10 => zaI σ x10 v3 fun x11 => zgR σ 5 v0 0 fun x12 => zsI σ x12 v3 (if x9 < x11 then x11 else x9) fun σ13 => if x9 = x11 then zgR σ13 5 v0 1 fun x19 => zgR σ13 3 v1 1 fun x20 => zaI σ13 x20 v3 fun x21 => zgR σ13 3 v1 3 fun x22 => zaI σ13 x22 v3 fun x23 => zsI σ13 x19 v3 (if x23 < x21 then x23 else x21) fun σ24 => sX4_settle_100 n (sX4_settle_2 n k) v0 v1 v2 v3 σ24 else zgR σ13 5 v0 1 fun x14 => if x11 < x9 then zgR σ13 3 v1 1 fun x17 => zaI σ13 x17 v3 fun x18 => sX4_settle_99 n (sX4_settle_2 n k) v0 v1 v2 v3 x14 v3 x18 σ13 else zgR σ13 3 v1 3 fun x15 => zaI σ13 x15 v3 fun x16 => sX4_settle_99 n (sX4_settle_2 n k) v0 v1 v2 v3 x14 v3 x16 σ13) else zgI σ 3 v1 7 fun x4 => if 0 < x4 then zgI σ 3 v1 7 fun x5 => zck σ 6 v2 (zb (fX5_stepAt n v2 (x5 - 1) σ) fun x6 => sX4_settle_128 n v0 v0 x6 σ) else sX4_settle_128 n v0 v0 0 σ
def fX4_settle (n : Nat) (a0 : Nat) (a1 : Nat) (a2 : Nat) (σ : zW) : Option (zW) := sX4_settle_2 n n a0 a1 a2 0 σ
theorem gsX4_settle_100 (F : zFx E) (n : Nat) (hk : zk E K "LotSales$Standing" cX4_settle 6 2) (he : zend E K none "settle") (r2 : Nat → Nat → Nat → Int32 → zW → Option (zW)) (hr2 : ∀ (v0 : Nat) (v1 : Nat) (v2 : Nat) (v3 : Int32) (σ : zW), zG E K zfV (r2 v0 v1 v2 v3 σ) σ 2 [some (.inr (.inl v0)), some (.inr (.inl v1)), some (.inr (.inl v2)), some (.inl v3), none, none] []) (v0 : Nat) (v1 : Nat) (v2 : Nat) (v3 : Int32) (σ : zW) : zG E K zfV (sX4_settle_100 n r2 v0 v1 v2 v3 σ) σ 100 [some (.inr (.inl v0)), some (.inr (.inl v1)), some (.inr (.inl v2)), some (.inl v3), none, none] [] := by
  unfold sX4_settle_100
  refine z_run hk hX4_settle_0 57 1 (pc' := 103) (lv' := [some (.inr (.inl v0)), some (.inr (.inl v1)), some (.inr (.inl v2)), some (.inl (v3 + 1)), none, none]) (st' := []) rfl ?_
  refine z_goto hk (z_row hX4_settle_0 58 rfl) (tgt := 2) rfl ?_
  exact hr2 v0 v1 v2 (v3 + 1) σ
theorem gsX4_settle_99 (F : zFx E) (n : Nat) (hk : zk E K "LotSales$Standing" cX4_settle 6 2) (he : zend E K none "settle") (r2 : Nat → Nat → Nat → Int32 → zW → Option (zW)) (hr2 : ∀ (v0 : Nat) (v1 : Nat) (v2 : Nat) (v3 : Int32) (σ : zW), zG E K zfV (r2 v0 v1 v2 v3 σ) σ 2 [some (.inr (.inl v0)), some (.inr (.inl v1)), some (.inr (.inl v2)), some (.inl v3), none, none] []) (v0 : Nat) (v1 : Nat) (v2 : Nat) (v3 : Int32) (y0 : Nat) (y1 : Int32) (y2 : Int32) (σ : zW) : zG E K zfV (sX4_settle_99 n r2 v0 v1 v2 v3 y0 y1 y2 σ) σ 99 [some (.inr (.inl v0)), some (.inr (.inl v1)), some (.inr (.inl v2)), some (.inl v3), none, none] [.inl y2, .inl y1, .inr (.inl y0)] := by
  unfold sX4_settle_99
  refine z_sI hk (z_row hX4_settle_0 56 rfl) (fun σ1 => ?_)
  exact gsX4_settle_100 F n hk he r2 hr2 v0 v1 v2 v3 σ1
theorem gsX4_settle_128 (F : zFx E) (n : Nat) (hk : zk E K "LotSales$Standing" cX4_settle 6 2) (he : zend E K none "settle") (v0 : Nat) (y0 : Nat) (y1 : Int32) (σ : zW) : zG E K zfV (sX4_settle_128 n v0 y0 y1 σ) σ 128 [some (.inr (.inl v0)), none, none, none, none, none] [.inl y1, .inr (.inl y0)] := by
  unfold sX4_settle_128
  refine z_pI hk 2 (z_row hX4_settle_1 11 rfl) (ci := 4) rfl rfl wd_199 rfl rfl rfl (fun σ2 => ?_)
  refine z_run hk hX4_settle_1 12 1 (pc' := 132) (lv' := [some (.inr (.inl v0)), none, none, none, none, none]) (st' := [.inr (.inl v0)]) rfl ?_
  refine kX4_findLeader F hk (z_row hX4_settle_1 13 rfl) wd_723 (by decide) (Nat.le_of_ble_eq_true rfl) (fun σ3 => ?_)
  exact z_vret hk he (z_row hX4_settle_1 14 rfl) rfl
theorem gsX4_settle_2 (F : zFx E) (n : Nat) (hk : zk E K "LotSales$Standing" cX4_settle 6 2) (he : zend E K none "settle") : ∀ (k : Nat) (v0 : Nat) (v1 : Nat) (v2 : Nat) (v3 : Int32) (σ : zW), zG E K zfV (sX4_settle_2 n k v0 v1 v2 v3 σ) σ 2 [some (.inr (.inl v0)), some (.inr (.inl v1)), some (.inr (.inl v2)), some (.inl v3), none, none] [] := by
  intro k
  induction k with
  | zero =>
    intro v0 v1 v2 v3 σ
    intro hX
    exact z_none hX
  | succ k ih =>
    intro v0 v1 v2 v3 σ
    rw [sX4_settle_2]
    refine z_run hk hX4_settle_0 2 2 (pc' := 5) (lv' := [some (.inr (.inl v0)), some (.inr (.inl v1)), some (.inr (.inl v2)), some (.inl v3), none, none]) (st' := [.inl 10, .inl v3]) rfl ?_
    refine z_cge hk (z_row hX4_settle_0 4 rfl) (tgt := 106) rfl ?_ ?_
    · refine z_run hk hX4_settle_0 59 1 (pc' := 107) (lv' := [some (.inr (.inl v0)), some (.inr (.inl v1)), some (.inr (.inl v2)), some (.inl v3), none, none]) (st' := [.inr (.inl v0)]) rfl ?_
      refine z_run hk hX4_settle_1 0 1 (pc' := 108) (lv' := [some (.inr (.inl v0)), some (.inr (.inl v1)), some (.inr (.inl v2)), some (.inl v3), none, none]) (st' := [.inr (.inl v1), .inr (.inl v0)]) rfl ?_
      refine z_gI hk 7 (z_row hX4_settle_1 1 rfl) (ci := 2) rfl rfl wd_122 (fun x4 => ?_)
      refine z_le hk (z_row hX4_settle_1 2 rfl) (tgt := 127) rfl ?_ ?_
      · refine z_run hk hX4_settle_1 10 1 (pc' := 128) (lv' := [some (.inr (.inl v0)), some (.inr (.inl v1)), some (.inr (.inl v2)), some (.inl v3), none, none]) (st' := [.inl 0, .inr (.inl v0)]) rfl ?_
        refine z_mask [true, false, false, false, false, false] rfl ?_
        exact gsX4_settle_128 F n hk he v0 v0 0 σ
      · refine z_run hk hX4_settle_1 3 2 (pc' := 116) (lv' := [some (.inr (.inl v0)), some (.inr (.inl v1)), some (.inr (.inl v2)), some (.inl v3), none, none]) (st' := [.inr (.inl v1), .inr (.inl v2), .inr (.inl v0)]) rfl ?_
        refine z_gI hk 7 (z_row hX4_settle_1 5 rfl) (ci := 2) rfl rfl wd_122 (fun x5 => ?_)
        refine z_run hk hX4_settle_1 6 2 (pc' := 121) (lv' := [some (.inr (.inl v0)), some (.inr (.inl v1)), some (.inr (.inl v2)), some (.inl v3), none, none]) (st' := [.inl (x5 - 1), .inr (.inl v2), .inr (.inl v0)]) rfl ?_
        refine kX5_stepAt F hk (z_row hX4_settle_1 8 rfl) wd_720 (by decide) (Nat.le_of_ble_eq_true rfl) (fun x6 => ?_)
        refine z_goto hk (z_row hX4_settle_1 9 rfl) (tgt := 128) rfl ?_
        refine z_mask [true, false, false, false, false, false] rfl ?_
        exact gsX4_settle_128 F n hk he v0 v0 x6 σ
    · refine z_run hk hX4_settle_0 5 2 (pc' := 10) (lv' := [some (.inr (.inl v0)), some (.inr (.inl v1)), some (.inr (.inl v2)), some (.inl v3), none, none]) (st' := [.inr (.inl v1), .inr (.inl v2)]) rfl ?_
      refine z_gR hk 0 (z_row hX4_settle_0 7 rfl) (ci := 2) rfl rfl wd_103 (fun x7 => ?_)
      refine z_run hk hX4_settle_0 8 1 (pc' := 14) (lv' := [some (.inr (.inl v0)), some (.inr (.inl v1)), some (.inr (.inl v2)), some (.inl v3), none, none]) (st' := [.inl v3, .inr (.inl x7), .inr (.inl v2)]) rfl ?_
      refine z_aI hk (z_row hX4_settle_0 9 rfl) (fun x8 => ?_)
      refine kX5_stepAt F hk (z_row hX4_settle_0 10 rfl) wd_720 (by decide) (Nat.le_of_ble_eq_true rfl) (fun x9 => ?_)
      refine z_run hk hX4_settle_0 11 2 (pc' := 21) (lv' := [some (.inr (.inl v0)), some (.inr (.inl v1)), some (.inr (.inl v2)), some (.inl v3), some (.inl x9), none]) (st' := [.inr (.inl v1)]) rfl ?_
      refine z_gR hk 2 (z_row hX4_settle_0 13 rfl) (ci := 2) rfl rfl wd_109 (fun x10 => ?_)
      refine z_run hk hX4_settle_0 14 1 (pc' := 25) (lv' := [some (.inr (.inl v0)), some (.inr (.inl v1)), some (.inr (.inl v2)), some (.inl v3), some (.inl x9), none]) (st' := [.inl v3, .inr (.inl x10)]) rfl ?_
      refine z_aI hk (z_row hX4_settle_0 15 rfl) (fun x11 => ?_)
      refine z_run hk hX4_settle_0 16 2 (pc' := 29) (lv' := [some (.inr (.inl v0)), some (.inr (.inl v1)), some (.inr (.inl v2)), some (.inl v3), some (.inl x9), some (.inl x11)]) (st' := [.inr (.inl v0)]) rfl ?_
      refine z_gR hk 0 (z_row hX4_settle_0 18 rfl) (ci := 4) rfl rfl wd_195 (fun x12 => ?_)
      refine z_run hk hX4_settle_0 19 3 (pc' := 37) (lv' := [some (.inr (.inl v0)), some (.inr (.inl v1)), some (.inr (.inl v2)), some (.inl v3), some (.inl x9), some (.inl x11)]) (st' := [.inl x11, .inl x9, .inl v3, .inr (.inl x12)]) rfl ?_
      refine z_mmax hk (z_row hX4_settle_0 22 rfl) wd_721 wd_578 wd_16 wd_579 (by decide) (Nat.le_of_ble_eq_true rfl) ?_
      refine z_sI hk (z_row hX4_settle_0 23 rfl) (fun σ13 => ?_)
      refine z_run hk hX4_settle_0 24 2 (pc' := 45) (lv' := [some (.inr (.inl v0)), some (.inr (.inl v1)), some (.inr (.inl v2)), some (.inl v3), some (.inl x9), some (.inl x11)]) (st' := [.inl x11, .inl x9]) rfl ?_
      refine z_cne hk (z_row hX4_settle_0 26 rfl) (tgt := 72) rfl ?_ ?_
      · refine z_run hk hX4_settle_0 41 1 (pc' := 73) (lv' := [some (.inr (.inl v0)), some (.inr (.inl v1)), some (.inr (.inl v2)), some (.inl v3), some (.inl x9), some (.inl x11)]) (st' := [.inr (.inl v0)]) rfl ?_
        refine z_gR hk 1 (z_row hX4_settle_0 42 rfl) (ci := 4) rfl rfl wd_197 (fun x14 => ?_)
        refine z_run hk hX4_settle_0 43 3 (pc' := 81) (lv' := [some (.inr (.inl v0)), some (.inr (.inl v1)), some (.inr (.inl v2)), some (.inl v3), some (.inl x9), some (.inl x11)]) (st' := [.inl x11, .inl x9, .inl v3, .inr (.inl x14)]) rfl ?_
        refine z_cle hk (z_row hX4_settle_0 46 rfl) (tgt := 93) rfl ?_ ?_
        · refine z_run hk hX4_settle_0 52 1 (pc' := 94) (lv' := [some (.inr (.inl v0)), some (.inr (.inl v1)), some (.inr (.inl v2)), some (.inl v3), some (.inl x9), some (.inl x11)]) (st' := [.inr (.inl v1), .inl v3, .inr (.inl x14)]) rfl ?_
          refine z_gR hk 3 (z_row hX4_settle_0 53 rfl) (ci := 2) rfl rfl wd_111 (fun x15 => ?_)
          refine z_run hk hX4_settle_0 54 1 (pc' := 98) (lv' := [some (.inr (.inl v0)), some (.inr (.inl v1)), some (.inr (.inl v2)), some (.inl v3), some (.inl x9), some (.inl x11)]) (st' := [.inl v3, .inr (.inl x15), .inl v3, .inr (.inl x14)]) rfl ?_
          refine z_aI hk (z_row hX4_settle_0 55 rfl) (fun x16 => ?_)
          refine z_mask [true, true, true, true, false, false] rfl ?_
          exact gsX4_settle_99 F n hk he (sX4_settle_2 n k) ih v0 v1 v2 v3 x14 v3 x16 σ13
        · refine z_run hk hX4_settle_0 47 1 (pc' := 85) (lv' := [some (.inr (.inl v0)), some (.inr (.inl v1)), some (.inr (.inl v2)), some (.inl v3), some (.inl x9), some (.inl x11)]) (st' := [.inr (.inl v1), .inl v3, .inr (.inl x14)]) rfl ?_
          refine z_gR hk 1 (z_row hX4_settle_0 48 rfl) (ci := 2) rfl rfl wd_107 (fun x17 => ?_)
          refine z_run hk hX4_settle_0 49 1 (pc' := 89) (lv' := [some (.inr (.inl v0)), some (.inr (.inl v1)), some (.inr (.inl v2)), some (.inl v3), some (.inl x9), some (.inl x11)]) (st' := [.inl v3, .inr (.inl x17), .inl v3, .inr (.inl x14)]) rfl ?_
          refine z_aI hk (z_row hX4_settle_0 50 rfl) (fun x18 => ?_)
          refine z_goto hk (z_row hX4_settle_0 51 rfl) (tgt := 99) rfl ?_
          refine z_mask [true, true, true, true, false, false] rfl ?_
          exact gsX4_settle_99 F n hk he (sX4_settle_2 n k) ih v0 v1 v2 v3 x14 v3 x18 σ13
      · refine z_run hk hX4_settle_0 27 1 (pc' := 49) (lv' := [some (.inr (.inl v0)), some (.inr (.inl v1)), some (.inr (.inl v2)), some (.inl v3), some (.inl x9), some (.inl x11)]) (st' := [.inr (.inl v0)]) rfl ?_
        refine z_gR hk 1 (z_row hX4_settle_0 28 rfl) (ci := 4) rfl rfl wd_197 (fun x19 => ?_)
        refine z_run hk hX4_settle_0 29 2 (pc' := 54) (lv' := [some (.inr (.inl v0)), some (.inr (.inl v1)), some (.inr (.inl v2)), some (.inl v3), some (.inl x9), some (.inl x11)]) (st' := [.inr (.inl v1), .inl v3, .inr (.inl x19)]) rfl ?_
        refine z_gR hk 1 (z_row hX4_settle_0 31 rfl) (ci := 2) rfl rfl wd_107 (fun x20 => ?_)
        refine z_run hk hX4_settle_0 32 1 (pc' := 58) (lv' := [some (.inr (.inl v0)), some (.inr (.inl v1)), some (.inr (.inl v2)), some (.inl v3), some (.inl x9), some (.inl x11)]) (st' := [.inl v3, .inr (.inl x20), .inl v3, .inr (.inl x19)]) rfl ?_
        refine z_aI hk (z_row hX4_settle_0 33 rfl) (fun x21 => ?_)
        refine z_run hk hX4_settle_0 34 1 (pc' := 60) (lv' := [some (.inr (.inl v0)), some (.inr (.inl v1)), some (.inr (.inl v2)), some (.inl v3), some (.inl x9), some (.inl x11)]) (st' := [.inr (.inl v1), .inl x21, .inl v3, .inr (.inl x19)]) rfl ?_
        refine z_gR hk 3 (z_row hX4_settle_0 35 rfl) (ci := 2) rfl rfl wd_111 (fun x22 => ?_)
        refine z_run hk hX4_settle_0 36 1 (pc' := 64) (lv' := [some (.inr (.inl v0)), some (.inr (.inl v1)), some (.inr (.inl v2)), some (.inl v3), some (.inl x9), some (.inl x11)]) (st' := [.inl v3, .inr (.inl x22), .inl x21, .inl v3, .inr (.inl x19)]) rfl ?_
        refine z_aI hk (z_row hX4_settle_0 37 rfl) (fun x23 => ?_)
        refine z_mmin hk (z_row hX4_settle_0 38 rfl) wd_722 wd_453 wd_16 wd_454 (by decide) (Nat.le_of_ble_eq_true rfl) ?_
        refine z_sI hk (z_row hX4_settle_0 39 rfl) (fun σ24 => ?_)
        refine z_goto hk (z_row hX4_settle_0 40 rfl) (tgt := 100) rfl ?_
        refine z_mask [true, true, true, true, false, false] rfl ?_
        exact gsX4_settle_100 F n hk he (sX4_settle_2 n k) ih v0 v1 v2 v3 σ24
theorem mX4_settle (F : zFx E) (n : Nat) (a0 : Nat) (a1 : Nat) (a2 : Nat) (σ : zW) (o : zW) (hf : fX4_settle n a0 a1 a2 σ = some o) : zM E qX4_settle cX4_settle 6 none 2 [.inr (.inl a0), .inr (.inl a1), .inr (.inl a2)] σ none o := by
  refine zM_of (fin := zfV) F (by decide +kernel) rfl (Nat.le_of_ble_eq_true rfl) (lv0 := [some (.inr (.inl a0)), some (.inr (.inl a1)), some (.inr (.inl a2)), none, none, none]) rfl hf rfl (fun K hk he => ?_)
  have hk : zk E K "LotSales$Standing" cX4_settle 6 2 := hk
  unfold fX4_settle
  refine z_run hk hX4_settle_0 0 2 (pc' := 2) (lv' := [some (.inr (.inl a0)), some (.inr (.inl a1)), some (.inr (.inl a2)), some (.inl 0), none, none]) (st' := []) rfl ?_
  exact gsX4_settle_2 F n hk he n a0 a1 a2 0 σ
theorem kX4_settle {n : Nat} {own : String} {cc : ByteArray} {nL h index : Nat} {α : Type} {fin : α → zO} {σ : zW} {pc : Nat} {lv : zLV} {st : List zV} {a0 : Nat} {a1 : Nat} {a2 : Nat} {c : zW → Option α} (F : zFx E) (hk : zk E K own cc nL h) (hd : decode cc pc = .ok (.invokevirtual index, 3)) (hl : Cond.methodLink own index qX4_settle ∈ lw_tbl) (hh : 2 + 1 ≤ h) (hs : zcat st ≤ 8) (k : ∀ s, zG E K fin (c s) s (pc + 3) lv st) : zG E K fin (zck σ 5 a0 (zb (fX4_settle n a0 a1 a2 σ) c)) σ pc lv (.inr (.inl a2) :: .inr (.inl a1) :: .inr (.inl a0) :: st) :=
  z_vV (n := 2) (y := qX4_settle) (As := [.inr (.inl a1), .inr (.inl a2)]) hk hd hl wd_717 wd_718 wd_7 wd_719 ⟨by decide, by decide, by decide +kernel⟩ ⟨hh, by decide⟩ (ci := 4) rfl rfl rfl (fun o ho => mX4_settle F n a0 a1 a2 σ o ho) hs k
abbrev qX4_raise : MethodName := { cls := "LotSales$Standing", name := "raise", desc := "(III)V" }
def sX4_raise_28 (n : Nat) (σ : zW) : Option (zW) := some σ
def fX4_raise (n : Nat) (a0 : Nat) (a1 : Int32) (a2 : Int32) (a3 : Int32) (σ : zW) : Option (zW) := zgR σ 5 a0 0 fun x1 => zaI σ x1 a1 fun x2 => if x2 < a2 then zgR σ 5 a0 0 fun x3 => zsI σ x3 a1 a2 fun σ4 => zgR σ4 5 a0 1 fun x5 => zsI σ4 x5 a1 a3 fun σ6 => zck σ6 5 a0 (zb (fX4_findLeader n a0 σ6) fun σ7 => sX4_raise_28 n σ7) else sX4_raise_28 n σ
theorem gsX4_raise_28 (F : zFx E) (n : Nat) (hk : zk E K "LotSales$Standing" cX4_raise 4 2) (he : zend E K none "raise") (σ : zW) : zG E K zfV (sX4_raise_28 n σ) σ 28 [none, none, none, none] [] := by
  unfold sX4_raise_28
  exact z_vret hk he (z_row hX4_raise_0 18 rfl) rfl
theorem mX4_raise (F : zFx E) (n : Nat) (a0 : Nat) (a1 : Int32) (a2 : Int32) (a3 : Int32) (σ : zW) (o : zW) (hf : fX4_raise n a0 a1 a2 a3 σ = some o) : zM E qX4_raise cX4_raise 4 none 2 [.inr (.inl a0), .inl a1, .inl a2, .inl a3] σ none o := by
  refine zM_of (fin := zfV) F (by decide +kernel) rfl (Nat.le_of_ble_eq_true rfl) (lv0 := [some (.inr (.inl a0)), some (.inl a1), some (.inl a2), some (.inl a3)]) rfl hf rfl (fun K hk he => ?_)
  have hk : zk E K "LotSales$Standing" cX4_raise 4 2 := hk
  unfold fX4_raise
  refine z_run hk hX4_raise_0 0 2 (pc' := 2) (lv' := [some (.inr (.inl a0)), some (.inl a1), some (.inl a2), some (.inl a3)]) (st' := [.inr (.inl a0), .inl a2]) rfl ?_
  refine z_gR hk 0 (z_row hX4_raise_0 2 rfl) (ci := 4) rfl rfl wd_195 (fun x1 => ?_)
  refine z_run hk hX4_raise_0 3 1 (pc' := 6) (lv' := [some (.inr (.inl a0)), some (.inl a1), some (.inl a2), some (.inl a3)]) (st' := [.inl a1, .inr (.inl x1), .inl a2]) rfl ?_
  refine z_aI hk (z_row hX4_raise_0 4 rfl) (fun x2 => ?_)
  refine z_cle hk (z_row hX4_raise_0 5 rfl) (tgt := 28) rfl ?_ ?_
  · refine z_mask [false, false, false, false] rfl ?_
    exact gsX4_raise_28 F n hk he σ
  · refine z_run hk hX4_raise_0 6 1 (pc' := 11) (lv' := [some (.inr (.inl a0)), some (.inl a1), some (.inl a2), some (.inl a3)]) (st' := [.inr (.inl a0)]) rfl ?_
    refine z_gR hk 0 (z_row hX4_raise_0 7 rfl) (ci := 4) rfl rfl wd_195 (fun x3 => ?_)
    refine z_run hk hX4_raise_0 8 2 (pc' := 16) (lv' := [some (.inr (.inl a0)), some (.inl a1), some (.inl a2), some (.inl a3)]) (st' := [.inl a2, .inl a1, .inr (.inl x3)]) rfl ?_
    refine z_sI hk (z_row hX4_raise_0 10 rfl) (fun σ4 => ?_)
    refine z_run hk hX4_raise_0 11 1 (pc' := 18) (lv' := [some (.inr (.inl a0)), some (.inl a1), some (.inl a2), some (.inl a3)]) (st' := [.inr (.inl a0)]) rfl ?_
    refine z_gR hk 1 (z_row hX4_raise_0 12 rfl) (ci := 4) rfl rfl wd_197 (fun x5 => ?_)
    refine z_run hk hX4_raise_0 13 2 (pc' := 23) (lv' := [some (.inr (.inl a0)), some (.inl a1), some (.inl a2), some (.inl a3)]) (st' := [.inl a3, .inl a1, .inr (.inl x5)]) rfl ?_
    refine z_sI hk (z_row hX4_raise_0 15 rfl) (fun σ6 => ?_)
    refine z_run hk hX4_raise_0 16 1 (pc' := 25) (lv' := [some (.inr (.inl a0)), some (.inl a1), some (.inl a2), some (.inl a3)]) (st' := [.inr (.inl a0)]) rfl ?_
    refine kX4_findLeader F hk (z_row hX4_raise_0 17 rfl) wd_723 (by decide) (Nat.le_of_ble_eq_true rfl) (fun σ7 => ?_)
    refine z_mask [false, false, false, false] rfl ?_
    exact gsX4_raise_28 F n hk he σ7
theorem kX4_raise {n : Nat} {own : String} {cc : ByteArray} {nL h index : Nat} {α : Type} {fin : α → zO} {σ : zW} {pc : Nat} {lv : zLV} {st : List zV} {a0 : Nat} {a1 : Int32} {a2 : Int32} {a3 : Int32} {c : zW → Option α} (F : zFx E) (hk : zk E K own cc nL h) (hd : decode cc pc = .ok (.invokevirtual index, 3)) (hl : Cond.methodLink own index qX4_raise ∈ lw_tbl) (hh : 2 + 1 ≤ h) (hs : zcat st ≤ 8) (k : ∀ s, zG E K fin (c s) s (pc + 3) lv st) : zG E K fin (zck σ 5 a0 (zb (fX4_raise n a0 a1 a2 a3 σ) c)) σ pc lv (.inl a3 :: .inl a2 :: .inl a1 :: .inr (.inl a0) :: st) :=
  z_vV (n := 3) (y := qX4_raise) (As := [.inl a1, .inl a2, .inl a3]) hk hd hl wd_819 wd_820 wd_7 wd_821 ⟨by decide, by decide, by decide +kernel⟩ ⟨hh, by decide⟩ (ci := 4) rfl rfl rfl (fun o ho => mX4_raise F n a0 a1 a2 a3 σ o ho) hs k
abbrev qX5_stepAfter : MethodName := { cls := "LotSales$Table", name := "stepAfter", desc := "(I)I" }
def sX5_stepAfter_44 (n : Nat) (σ : zW) (r16 : Nat → Int32 → Int32 → Int32 → Option (Int32)) (v0 : Nat) (v2 : Int32) (v3 : Int32) (v4 : Int32) : Option (Int32) := r16 v0 v2 v3 (v4 + 1)
def sX5_stepAfter_16 (n : Nat) (σ : zW) : Nat → Nat → Int32 → Int32 → Int32 → Option (Int32)
  | 0, _, _, _, _ => none
  | k + 1, v0, v2, v3, v4 => zgI σ 6 v0 2 fun x1 => if v4 < x1 then zgR σ 6 v0 0 fun x2 => zaI σ x2 v4 fun x3 => if v2 < x3 then sX5_stepAfter_44 n σ (sX5_stepAfter_16 n σ k) v0 v2 v3 v4 else zgR σ 6 v0 1 fun x4 => zaI σ x4 v4 fun x5 => sX5_stepAfter_44 n σ (sX5_stepAfter_16 n σ k) v0 v2 x5 v4 else some (v2 + v3)
def fX5_stepAfter (n : Nat) (a0 : Nat) (a1 : Int32) (σ : zW) : Option (Int32) := zck σ 6 a0 (zb (fX5_stepAt n a0 a1 σ) fun x6 => zgR σ 6 a0 1 fun x7 => zaI σ x7 0 fun x8 => sX5_stepAfter_16 n σ n a0 x6 x8 1)
theorem gsX5_stepAfter_44 (F : zFx E) (n : Nat) (σ : zW) (hk : zk E K "LotSales$Table" cX5_stepAfter 5 2) (he : zend E K (some .int) "stepAfter") (r16 : Nat → Int32 → Int32 → Int32 → Option (Int32)) (hr16 : ∀ (v0 : Nat) (v2 : Int32) (v3 : Int32) (v4 : Int32), zG E K (zfR σ) (r16 v0 v2 v3 v4) σ 16 [some (.inr (.inl v0)), none, some (.inl v2), some (.inl v3), some (.inl v4)] []) (v0 : Nat) (v2 : Int32) (v3 : Int32) (v4 : Int32) : zG E K (zfR σ) (sX5_stepAfter_44 n σ r16 v0 v2 v3 v4) σ 44 [some (.inr (.inl v0)), none, some (.inl v2), some (.inl v3), some (.inl v4)] [] := by
  unfold sX5_stepAfter_44
  refine z_run hk hX5_stepAfter_0 26 1 (pc' := 47) (lv' := [some (.inr (.inl v0)), none, some (.inl v2), some (.inl v3), some (.inl (v4 + 1))]) (st' := []) rfl ?_
  refine z_goto hk (z_row hX5_stepAfter_0 27 rfl) (tgt := 16) rfl ?_
  exact hr16 v0 v2 v3 (v4 + 1)
theorem gsX5_stepAfter_16 (F : zFx E) (n : Nat) (σ : zW) (hk : zk E K "LotSales$Table" cX5_stepAfter 5 2) (he : zend E K (some .int) "stepAfter") : ∀ (k : Nat) (v0 : Nat) (v2 : Int32) (v3 : Int32) (v4 : Int32), zG E K (zfR σ) (sX5_stepAfter_16 n σ k v0 v2 v3 v4) σ 16 [some (.inr (.inl v0)), none, some (.inl v2), some (.inl v3), some (.inl v4)] [] := by
  intro k
  induction k with
  | zero =>
    intro v0 v2 v3 v4
    intro hX
    exact z_none hX
  | succ k ih =>
    intro v0 v2 v3 v4
    rw [sX5_stepAfter_16]
    refine z_run hk hX5_stepAfter_0 11 2 (pc' := 19) (lv' := [some (.inr (.inl v0)), none, some (.inl v2), some (.inl v3), some (.inl v4)]) (st' := [.inr (.inl v0), .inl v4]) rfl ?_
    refine z_gI hk 2 (z_row hX5_stepAfter_0 13 rfl) (ci := 5) rfl rfl wd_54 (fun x1 => ?_)
    refine z_cge hk (z_row hX5_stepAfter_0 14 rfl) (tgt := 50) rfl ?_ ?_
    · refine z_run hk hX5_stepAfter_0 28 3 (pc' := 53) (lv' := [some (.inr (.inl v0)), none, some (.inl v2), some (.inl v3), some (.inl v4)]) (st' := [.inl (v2 + v3)]) rfl ?_
      exact z_iret hk he (z_row hX5_stepAfter_0 31 rfl) rfl
    · refine z_run hk hX5_stepAfter_0 15 1 (pc' := 26) (lv' := [some (.inr (.inl v0)), none, some (.inl v2), some (.inl v3), some (.inl v4)]) (st' := [.inr (.inl v0)]) rfl ?_
      refine z_gR hk 0 (z_row hX5_stepAfter_0 16 rfl) (ci := 5) rfl rfl wd_50 (fun x2 => ?_)
      refine z_run hk hX5_stepAfter_0 17 1 (pc' := 31) (lv' := [some (.inr (.inl v0)), none, some (.inl v2), some (.inl v3), some (.inl v4)]) (st' := [.inl v4, .inr (.inl x2)]) rfl ?_
      refine z_aI hk (z_row hX5_stepAfter_0 18 rfl) (fun x3 => ?_)
      refine z_run hk hX5_stepAfter_0 19 1 (pc' := 33) (lv' := [some (.inr (.inl v0)), none, some (.inl v2), some (.inl v3), some (.inl v4)]) (st' := [.inl v2, .inl x3]) rfl ?_
      refine z_cgt hk (z_row hX5_stepAfter_0 20 rfl) (tgt := 44) rfl ?_ ?_
      · exact gsX5_stepAfter_44 F n σ hk he (sX5_stepAfter_16 n σ k) ih v0 v2 v3 v4
      · refine z_run hk hX5_stepAfter_0 21 1 (pc' := 37) (lv' := [some (.inr (.inl v0)), none, some (.inl v2), some (.inl v3), some (.inl v4)]) (st' := [.inr (.inl v0)]) rfl ?_
        refine z_gR hk 1 (z_row hX5_stepAfter_0 22 rfl) (ci := 5) rfl rfl wd_52 (fun x4 => ?_)
        refine z_run hk hX5_stepAfter_0 23 1 (pc' := 42) (lv' := [some (.inr (.inl v0)), none, some (.inl v2), some (.inl v3), some (.inl v4)]) (st' := [.inl v4, .inr (.inl x4)]) rfl ?_
        refine z_aI hk (z_row hX5_stepAfter_0 24 rfl) (fun x5 => ?_)
        refine z_run hk hX5_stepAfter_0 25 1 (pc' := 44) (lv' := [some (.inr (.inl v0)), none, some (.inl v2), some (.inl x5), some (.inl v4)]) (st' := []) rfl ?_
        exact gsX5_stepAfter_44 F n σ hk he (sX5_stepAfter_16 n σ k) ih v0 v2 x5 v4
theorem mX5_stepAfter (F : zFx E) (n : Nat) (a0 : Nat) (a1 : Int32) (σ : zW) (o : Int32) (hf : fX5_stepAfter n a0 a1 σ = some o) : zM E qX5_stepAfter cX5_stepAfter 5 (some .int) 2 [.inr (.inl a0), .inl a1] σ (some (.int o)) σ := by
  refine zM_of (fin := (zfR σ)) F (by decide +kernel) rfl (Nat.le_of_ble_eq_true rfl) (lv0 := [some (.inr (.inl a0)), some (.inl a1), none, none, none]) rfl hf rfl (fun K hk he => ?_)
  have hk : zk E K "LotSales$Table" cX5_stepAfter 5 2 := hk
  unfold fX5_stepAfter
  refine z_run hk hX5_stepAfter_0 0 2 (pc' := 2) (lv' := [some (.inr (.inl a0)), some (.inl a1), none, none, none]) (st' := [.inl a1, .inr (.inl a0)]) rfl ?_
  refine kX5_stepAt F hk (z_row hX5_stepAfter_0 2 rfl) wd_591 (by decide) (Nat.le_of_ble_eq_true rfl) (fun x6 => ?_)
  refine z_run hk hX5_stepAfter_0 3 2 (pc' := 7) (lv' := [some (.inr (.inl a0)), some (.inl a1), some (.inl x6), none, none]) (st' := [.inr (.inl a0)]) rfl ?_
  refine z_gR hk 1 (z_row hX5_stepAfter_0 5 rfl) (ci := 5) rfl rfl wd_52 (fun x7 => ?_)
  refine z_run hk hX5_stepAfter_0 6 1 (pc' := 11) (lv' := [some (.inr (.inl a0)), some (.inl a1), some (.inl x6), none, none]) (st' := [.inl 0, .inr (.inl x7)]) rfl ?_
  refine z_aI hk (z_row hX5_stepAfter_0 7 rfl) (fun x8 => ?_)
  refine z_run hk hX5_stepAfter_0 8 3 (pc' := 16) (lv' := [some (.inr (.inl a0)), some (.inl a1), some (.inl x6), some (.inl x8), some (.inl 1)]) (st' := []) rfl ?_
  refine z_mask [true, false, true, true, true] rfl ?_
  exact gsX5_stepAfter_16 F n σ hk he n a0 x6 x8 1
theorem kX5_stepAfter {n : Nat} {own : String} {cc : ByteArray} {nL h index : Nat} {α : Type} {fin : α → zO} {σ : zW} {pc : Nat} {lv : zLV} {st : List zV} {a0 : Nat} {a1 : Int32} {c : Int32 → Option α} (F : zFx E) (hk : zk E K own cc nL h) (hd : decode cc pc = .ok (.invokevirtual index, 3)) (hl : Cond.methodLink own index qX5_stepAfter ∈ lw_tbl) (hh : 2 + 1 ≤ h) (hs : zcat st ≤ 8) (k : ∀ v, zG E K fin (c v) σ (pc + 3) lv (.inl v :: st)) : zG E K fin (zck σ 6 a0 (zb (fX5_stepAfter n a0 a1 σ) c)) σ pc lv (.inl a1 :: .inr (.inl a0) :: st) :=
  z_vR (n := 1) (y := qX5_stepAfter) (As := [.inl a1]) hk hd hl wd_588 wd_589 wd_3 wd_590 ⟨by decide, by decide, by decide +kernel⟩ ⟨hh, by decide⟩ (ci := 5) rfl rfl rfl (fun o ho => mX5_stepAfter F n a0 a1 σ o ho) hs k
abbrev qX4_price : MethodName := { cls := "LotSales$Standing", name := "price", desc := "(LLotSales$Table;)I" }
def sX4_price_27 (n : Nat) (σ : zW) (y0 : Int32) : Option (Int32) := some y0
def fX4_price (n : Nat) (a0 : Nat) (a1 : Nat) (σ : zW) : Option (Int32) := zgI σ 5 a0 3 fun x1 => if x1 = (-1) then sX4_price_27 n σ 0 else zgI σ 5 a0 4 fun x2 => zgI σ 5 a0 5 fun x3 => zck σ 6 a1 (zb (fX5_stepAfter n a1 x3 σ) fun x4 => sX4_price_27 n σ (if x4 < x2 then x4 else x2))
theorem gsX4_price_27 (F : zFx E) (n : Nat) (σ : zW) (hk : zk E K "LotSales$Standing" cX4_price 2 3) (he : zend E K (some .int) "price") (y0 : Int32) : zG E K (zfR σ) (sX4_price_27 n σ y0) σ 27 [none, none] [.inl y0] := by
  unfold sX4_price_27
  exact z_iret hk he (z_row hX4_price_0 13 rfl) rfl
theorem mX4_price (F : zFx E) (n : Nat) (a0 : Nat) (a1 : Nat) (σ : zW) (o : Int32) (hf : fX4_price n a0 a1 σ = some o) : zM E qX4_price cX4_price 2 (some .int) 3 [.inr (.inl a0), .inr (.inl a1)] σ (some (.int o)) σ := by
  refine zM_of (fin := (zfR σ)) F (by decide +kernel) rfl (Nat.le_of_ble_eq_true rfl) (lv0 := [some (.inr (.inl a0)), some (.inr (.inl a1))]) rfl hf rfl (fun K hk he => ?_)
  have hk : zk E K "LotSales$Standing" cX4_price 2 3 := hk
  unfold fX4_price
  refine z_run hk hX4_price_0 0 1 (pc' := 1) (lv' := [some (.inr (.inl a0)), some (.inr (.inl a1))]) (st' := [.inr (.inl a0)]) rfl ?_
  refine z_gI hk 3 (z_row hX4_price_0 1 rfl) (ci := 4) rfl rfl wd_200 (fun x1 => ?_)
  refine z_run hk hX4_price_0 2 1 (pc' := 5) (lv' := [some (.inr (.inl a0)), some (.inr (.inl a1))]) (st' := [.inl (-1), .inl x1]) rfl ?_
  refine z_cne hk (z_row hX4_price_0 3 rfl) (tgt := 12) rfl ?_ ?_
  · refine z_run hk hX4_price_0 6 1 (pc' := 13) (lv' := [some (.inr (.inl a0)), some (.inr (.inl a1))]) (st' := [.inr (.inl a0)]) rfl ?_
    refine z_gI hk 4 (z_row hX4_price_0 7 rfl) (ci := 4) rfl rfl wd_202 (fun x2 => ?_)
    refine z_run hk hX4_price_0 8 2 (pc' := 18) (lv' := [some (.inr (.inl a0)), some (.inr (.inl a1))]) (st' := [.inr (.inl a0), .inr (.inl a1), .inl x2]) rfl ?_
    refine z_gI hk 5 (z_row hX4_price_0 10 rfl) (ci := 4) rfl rfl wd_204 (fun x3 => ?_)
    refine kX5_stepAfter F hk (z_row hX4_price_0 11 rfl) wd_735 (by decide) (Nat.le_of_ble_eq_true rfl) (fun x4 => ?_)
    refine z_mmin hk (z_row hX4_price_0 12 rfl) wd_722 wd_453 wd_16 wd_454 (by decide) (Nat.le_of_ble_eq_true rfl) ?_
    refine z_mask [false, false] rfl ?_
    exact gsX4_price_27 F n σ hk he (if x4 < x2 then x4 else x2)
  · refine z_run hk hX4_price_0 4 1 (pc' := 9) (lv' := [some (.inr (.inl a0)), some (.inr (.inl a1))]) (st' := [.inl 0]) rfl ?_
    refine z_goto hk (z_row hX4_price_0 5 rfl) (tgt := 27) rfl ?_
    refine z_mask [false, false] rfl ?_
    exact gsX4_price_27 F n σ hk he 0
theorem kX4_price {n : Nat} {own : String} {cc : ByteArray} {nL h index : Nat} {α : Type} {fin : α → zO} {σ : zW} {pc : Nat} {lv : zLV} {st : List zV} {a0 : Nat} {a1 : Nat} {c : Int32 → Option α} (F : zFx E) (hk : zk E K own cc nL h) (hd : decode cc pc = .ok (.invokevirtual index, 3)) (hl : Cond.methodLink own index qX4_price ∈ lw_tbl) (hh : 3 + 1 ≤ h) (hs : zcat st ≤ 8) (k : ∀ v, zG E K fin (c v) σ (pc + 3) lv (.inl v :: st)) : zG E K fin (zck σ 5 a0 (zb (fX4_price n a0 a1 σ) c)) σ pc lv (.inr (.inl a1) :: .inr (.inl a0) :: st) :=
  z_vR (n := 1) (y := qX4_price) (As := [.inr (.inl a1)]) hk hd hl wd_732 wd_733 wd_7 wd_734 ⟨by decide, by decide, by decide +kernel⟩ ⟨hh, by decide⟩ (ci := 4) rfl rfl rfl (fun o ho => mX4_price F n a0 a1 σ o ho) hs k
abbrev qX4_meets : MethodName := { cls := "LotSales$Standing", name := "meets", desc := "(ILLotSales$Table;)Z" }
def sX4_meets_31 (n : Nat) (σ : zW) (y0 : Int32) : Option (Int32) := if y0 = 0 ∨ y0 = 1 then some y0 else none
def sX4_meets_30 (n : Nat) (σ : zW) : Option (Int32) := sX4_meets_31 n σ 0
def fX4_meets (n : Nat) (a0 : Nat) (a1 : Int32) (a2 : Nat) (σ : zW) : Option (Int32) := zgI σ 5 a0 3 fun x1 => if x1 = (-1) then sX4_meets_30 n σ else zgI σ 5 a0 3 fun x2 => if x2 = 10 then sX4_meets_30 n σ else zck σ 5 a0 (zb (fX4_price n a0 a2 σ) fun x3 => if x3 < a1 then sX4_meets_30 n σ else sX4_meets_31 n σ 1)
theorem gsX4_meets_31 (F : zFx E) (n : Nat) (σ : zW) (hk : zk E K "LotSales$Standing" cX4_meets 3 4) (he : zend E K (some .boolean) "meets") (y0 : Int32) : zG E K (zfR σ) (sX4_meets_31 n σ y0) σ 31 [none, none, none] [.inl y0] := by
  unfold sX4_meets_31
  exact z_zret (fin := (zfR σ)) (o := y0) hk he (z_row hX4_meets_0 16 rfl) rfl
theorem gsX4_meets_30 (F : zFx E) (n : Nat) (σ : zW) (hk : zk E K "LotSales$Standing" cX4_meets 3 4) (he : zend E K (some .boolean) "meets") : zG E K (zfR σ) (sX4_meets_30 n σ) σ 30 [none, none, none] [] := by
  unfold sX4_meets_30
  refine z_run hk hX4_meets_0 15 1 (pc' := 31) (lv' := [none, none, none]) (st' := [.inl 0]) rfl ?_
  exact gsX4_meets_31 F n σ hk he 0
theorem mX4_meets (F : zFx E) (n : Nat) (a0 : Nat) (a1 : Int32) (a2 : Nat) (σ : zW) (o : Int32) (hf : fX4_meets n a0 a1 a2 σ = some o) : zM E qX4_meets cX4_meets 3 (some .boolean) 4 [.inr (.inl a0), .inl a1, .inr (.inl a2)] σ (some (.int o)) σ := by
  refine zM_of (fin := (zfR σ)) F (by decide +kernel) rfl (Nat.le_of_ble_eq_true rfl) (lv0 := [some (.inr (.inl a0)), some (.inl a1), some (.inr (.inl a2))]) rfl hf rfl (fun K hk he => ?_)
  have hk : zk E K "LotSales$Standing" cX4_meets 3 4 := hk
  unfold fX4_meets
  refine z_run hk hX4_meets_0 0 1 (pc' := 1) (lv' := [some (.inr (.inl a0)), some (.inl a1), some (.inr (.inl a2))]) (st' := [.inr (.inl a0)]) rfl ?_
  refine z_gI hk 3 (z_row hX4_meets_0 1 rfl) (ci := 4) rfl rfl wd_200 (fun x1 => ?_)
  refine z_run hk hX4_meets_0 2 1 (pc' := 5) (lv' := [some (.inr (.inl a0)), some (.inl a1), some (.inr (.inl a2))]) (st' := [.inl (-1), .inl x1]) rfl ?_
  refine z_ceq hk (z_row hX4_meets_0 3 rfl) (tgt := 30) rfl ?_ ?_
  · refine z_mask [false, false, false] rfl ?_
    exact gsX4_meets_30 F n σ hk he
  · refine z_run hk hX4_meets_0 4 1 (pc' := 9) (lv' := [some (.inr (.inl a0)), some (.inl a1), some (.inr (.inl a2))]) (st' := [.inr (.inl a0)]) rfl ?_
    refine z_gI hk 3 (z_row hX4_meets_0 5 rfl) (ci := 4) rfl rfl wd_200 (fun x2 => ?_)
    refine z_run hk hX4_meets_0 6 1 (pc' := 14) (lv' := [some (.inr (.inl a0)), some (.inl a1), some (.inr (.inl a2))]) (st' := [.inl 10, .inl x2]) rfl ?_
    refine z_ceq hk (z_row hX4_meets_0 7 rfl) (tgt := 30) rfl ?_ ?_
    · refine z_mask [false, false, false] rfl ?_
      exact gsX4_meets_30 F n σ hk he
    · refine z_run hk hX4_meets_0 8 2 (pc' := 19) (lv' := [some (.inr (.inl a0)), some (.inl a1), some (.inr (.inl a2))]) (st' := [.inr (.inl a2), .inr (.inl a0)]) rfl ?_
      refine kX4_price F hk (z_row hX4_meets_0 10 rfl) wd_789 (by decide) (Nat.le_of_ble_eq_true rfl) (fun x3 => ?_)
      refine z_run hk hX4_meets_0 11 1 (pc' := 23) (lv' := [some (.inr (.inl a0)), some (.inl a1), some (.inr (.inl a2))]) (st' := [.inl a1, .inl x3]) rfl ?_
      refine z_clt hk (z_row hX4_meets_0 12 rfl) (tgt := 30) rfl ?_ ?_
      · refine z_mask [false, false, false] rfl ?_
        exact gsX4_meets_30 F n σ hk he
      · refine z_run hk hX4_meets_0 13 1 (pc' := 27) (lv' := [some (.inr (.inl a0)), some (.inl a1), some (.inr (.inl a2))]) (st' := [.inl 1]) rfl ?_
        refine z_goto hk (z_row hX4_meets_0 14 rfl) (tgt := 31) rfl ?_
        refine z_mask [false, false, false] rfl ?_
        exact gsX4_meets_31 F n σ hk he 1
theorem kX4_meets {n : Nat} {own : String} {cc : ByteArray} {nL h index : Nat} {α : Type} {fin : α → zO} {σ : zW} {pc : Nat} {lv : zLV} {st : List zV} {a0 : Nat} {a1 : Int32} {a2 : Nat} {c : Int32 → Option α} (F : zFx E) (hk : zk E K own cc nL h) (hd : decode cc pc = .ok (.invokevirtual index, 3)) (hl : Cond.methodLink own index qX4_meets ∈ lw_tbl) (hh : 4 + 1 ≤ h) (hs : zcat st ≤ 8) (k : ∀ v, zG E K fin (c v) σ (pc + 3) lv (.inl v :: st)) : zG E K fin (zck σ 5 a0 (zb (fX4_meets n a0 a1 a2 σ) c)) σ pc lv (.inr (.inl a2) :: .inl a1 :: .inr (.inl a0) :: st) :=
  z_vR (n := 2) (y := qX4_meets) (As := [.inl a1, .inr (.inl a2)]) hk hd hl wd_786 wd_787 wd_7 wd_788 ⟨by decide, by decide, by decide +kernel⟩ ⟨hh, by decide⟩ (ci := 4) rfl rfl rfl (fun o ho => mX4_meets F n a0 a1 a2 σ o ho) hs k
end
