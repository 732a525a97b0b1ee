section
variable {E : zE} {K : zC}

abbrev qX8_audit : MethodName := { cls := "LotSalesModel", name := "audit", desc := "()I" }
def sX8_audit_37 (n : Nat) (r9 : Nat → Int32 → Int32 → zW → Option (Int32 × zW)) (v0 : Nat) (v2 : Int32) (y0 : Int32) (y1 : Int32) (σ : zW) : Option (Int32 × zW) := r9 v0 (y0 + y1) (v2 + 1) σ
def sX8_audit_79 (n : Nat) (r47 : Nat → Int32 → Int32 → zW → Option (Int32 × zW)) (v0 : Nat) (v2 : Int32) (y0 : Int32) (y1 : Int32) (σ : zW) : Option (Int32 × zW) := r47 v0 (y0 + y1) (v2 + 1) σ
def sX8_audit_47 (n : Nat) : Nat → Nat → Int32 → Int32 → zW → Option (Int32 × zW)
  | 0, _, _, _, _ => none
  | k + 1, v0, v1, v2, σ => if v2 < 6 then zck σ 9 v0 (zb (fX8_sumOf n v0 4 (-1) v2 σ) fun x1 => zgR σ 9 v0 1 fun x2 => zaI σ x2 (985 + v2) fun x3 => if x1 = x3 then sX8_audit_79 n (sX8_audit_47 n k) v0 v2 v1 0 σ else sX8_audit_79 n (sX8_audit_47 n k) v0 v2 v1 1 σ) else some (v1, σ)
def sX8_audit_9 (n : Nat) : Nat → Nat → Int32 → Int32 → zW → Option (Int32 × zW)
  | 0, _, _, _, _ => none
  | k + 1, v0, v1, v2, σ => if v2 < 10 then zck σ 9 v0 (zb (fX8_sumOf n v0 3 v2 (-1) σ) fun x4 => zck σ 9 v0 (zb (fX8_boughtBy n v0 v2 1 σ) fun x5 => if x4 = x5 then sX8_audit_37 n (sX8_audit_9 n k) v0 v2 v1 0 σ else sX8_audit_37 n (sX8_audit_9 n k) v0 v2 v1 1 σ)) else sX8_audit_47 n n v0 v1 0 σ
def fX8_audit (n : Nat) (a0 : Nat) (σ : zW) : Option (Int32 × zW) := zpI σ 9 a0 0 0 fun σ6 => sX8_audit_9 n n a0 0 0 σ6
theorem gsX8_audit_37 (F : zFx E) (n : Nat) (hk : zk E K "LotSalesModel" cX8_audit 3 3) (he : zend E K (some .int) "audit") (r9 : Nat → Int32 → Int32 → zW → Option (Int32 × zW)) (hr9 : ∀ (v0 : Nat) (v1 : Int32) (v2 : Int32) (σ : zW), zG E K zfW (r9 v0 v1 v2 σ) σ 9 [some (.inr (.inl v0)), some (.inl v1), some (.inl v2)] []) (v0 : Nat) (v2 : Int32) (y0 : Int32) (y1 : Int32) (σ : zW) : zG E K zfW (sX8_audit_37 n r9 v0 v2 y0 y1 σ) σ 37 [some (.inr (.inl v0)), none, some (.inl v2)] [.inl y1, .inl y0] := by
  unfold sX8_audit_37
  refine z_run hk hX8_audit_0 24 3 (pc' := 42) (lv' := [some (.inr (.inl v0)), some (.inl (y0 + y1)), some (.inl (v2 + 1))]) (st' := []) rfl ?_
  refine z_goto hk (z_row hX8_audit_0 27 rfl) (tgt := 9) rfl ?_
  exact hr9 v0 (y0 + y1) (v2 + 1) σ
theorem gsX8_audit_79 (F : zFx E) (n : Nat) (hk : zk E K "LotSalesModel" cX8_audit 3 3) (he : zend E K (some .int) "audit") (r47 : Nat → Int32 → Int32 → zW → Option (Int32 × zW)) (hr47 : ∀ (v0 : Nat) (v1 : Int32) (v2 : Int32) (σ : zW), zG E K zfW (r47 v0 v1 v2 σ) σ 47 [some (.inr (.inl v0)), some (.inl v1), some (.inl v2)] []) (v0 : Nat) (v2 : Int32) (y0 : Int32) (y1 : Int32) (σ : zW) : zG E K zfW (sX8_audit_79 n r47 v0 v2 y0 y1 σ) σ 79 [some (.inr (.inl v0)), none, some (.inl v2)] [.inl y1, .inl y0] := by
  unfold sX8_audit_79
  refine z_run hk hX8_audit_0 49 3 (pc' := 84) (lv' := [some (.inr (.inl v0)), some (.inl (y0 + y1)), some (.inl (v2 + 1))]) (st' := []) rfl ?_
  refine z_goto hk (z_row hX8_audit_0 52 rfl) (tgt := 47) rfl ?_
  exact hr47 v0 (y0 + y1) (v2 + 1) σ
theorem gsX8_audit_47 (F : zFx E) (n : Nat) (hk : zk E K "LotSalesModel" cX8_audit 3 3) (he : zend E K (some .int) "audit") : ∀ (k : Nat) (v0 : Nat) (v1 : Int32) (v2 : Int32) (σ : zW), zG E K zfW (sX8_audit_47 n k v0 v1 v2 σ) σ 47 [some (.inr (.inl v0)), some (.inl v1), some (.inl v2)] [] := by
  intro k
  induction k with
  | zero =>
    intro v0 v1 v2 σ
    intro hX
    exact z_none hX
  | succ k ih =>
    intro v0 v1 v2 σ
    rw [sX8_audit_47]
    refine z_run hk hX8_audit_0 30 2 (pc' := 50) (lv' := [some (.inr (.inl v0)), some (.inl v1), some (.inl v2)]) (st' := [.inl 6, .inl v2]) rfl ?_
    refine z_cge hk (z_row hX8_audit_0 32 rfl) (tgt := 87) rfl ?_ ?_
    · refine z_run hk hX8_audit_0 53 1 (pc' := 88) (lv' := [some (.inr (.inl v0)), some (.inl v1), some (.inl v2)]) (st' := [.inl v1]) rfl ?_
      exact z_iret hk he (z_row hX8_audit_0 54 rfl) rfl
    · refine z_run hk hX8_audit_0 33 5 (pc' := 58) (lv' := [some (.inr (.inl v0)), some (.inl v1), some (.inl v2)]) (st' := [.inl v2, .inl (-1), .inl 4, .inr (.inl v0), .inl v1]) rfl ?_
      refine kX8_sumOf F hk (z_row hX8_audit_0 38 rfl) wd_1485 (by decide) (Nat.le_of_ble_eq_true rfl) (fun x1 => ?_)
      refine z_run hk hX8_audit_0 39 1 (pc' := 62) (lv' := [some (.inr (.inl v0)), some (.inl v1), some (.inl v2)]) (st' := [.inr (.inl v0), .inl x1, .inl v1]) rfl ?_
      refine z_gR hk 1 (z_row hX8_audit_0 40 rfl) (ci := 8) rfl rfl wd_1123 (fun x2 => ?_)
      refine z_run hk hX8_audit_0 41 3 (pc' := 70) (lv' := [some (.inr (.inl v0)), some (.inl v1), some (.inl v2)]) (st' := [.inl (985 + v2), .inr (.inl x2), .inl x1, .inl v1]) rfl ?_
      refine z_aI hk (z_row hX8_audit_0 44 rfl) (fun x3 => ?_)
      refine z_ceq hk (z_row hX8_audit_0 45 rfl) (tgt := 78) rfl ?_ ?_
      · refine z_run hk hX8_audit_0 48 1 (pc' := 79) (lv' := [some (.inr (.inl v0)), some (.inl v1), some (.inl v2)]) (st' := [.inl 0, .inl v1]) rfl ?_
        refine z_mask [true, false, true] rfl ?_
        exact gsX8_audit_79 F n hk he (sX8_audit_47 n k) ih v0 v2 v1 0 σ
      · refine z_run hk hX8_audit_0 46 1 (pc' := 75) (lv' := [some (.inr (.inl v0)), some (.inl v1), some (.inl v2)]) (st' := [.inl 1, .inl v1]) rfl ?_
        refine z_goto hk (z_row hX8_audit_0 47 rfl) (tgt := 79) rfl ?_
        refine z_mask [true, false, true] rfl ?_
        exact gsX8_audit_79 F n hk he (sX8_audit_47 n k) ih v0 v2 v1 1 σ
theorem gsX8_audit_9 (F : zFx E) (n : Nat) (hk : zk E K "LotSalesModel" cX8_audit 3 3) (he : zend E K (some .int) "audit") : ∀ (k : Nat) (v0 : Nat) (v1 : Int32) (v2 : Int32) (σ : zW), zG E K zfW (sX8_audit_9 n k v0 v1 v2 σ) σ 9 [some (.inr (.inl v0)), some (.inl v1), some (.inl v2)] [] := by
  intro k
  induction k with
  | zero =>
    intro v0 v1 v2 σ
    intro hX
    exact z_none hX
  | succ k ih =>
    intro v0 v1 v2 σ
    rw [sX8_audit_9]
    refine z_run hk hX8_audit_0 7 2 (pc' := 12) (lv' := [some (.inr (.inl v0)), some (.inl v1), some (.inl v2)]) (st' := [.inl 10, .inl v2]) rfl ?_
    refine z_cge hk (z_row hX8_audit_0 9 rfl) (tgt := 45) rfl ?_ ?_
    · refine z_run hk hX8_audit_0 28 2 (pc' := 47) (lv' := [some (.inr (.inl v0)), some (.inl v1), some (.inl 0)]) (st' := []) rfl ?_
      exact gsX8_audit_47 F n hk he n v0 v1 0 σ
    · refine z_run hk hX8_audit_0 10 5 (pc' := 20) (lv' := [some (.inr (.inl v0)), some (.inl v1), some (.inl v2)]) (st' := [.inl (-1), .inl v2, .inl 3, .inr (.inl v0), .inl v1]) rfl ?_
      refine kX8_sumOf F hk (z_row hX8_audit_0 15 rfl) wd_1485 (by decide) (Nat.le_of_ble_eq_true rfl) (fun x4 => ?_)
      refine z_run hk hX8_audit_0 16 3 (pc' := 26) (lv' := [some (.inr (.inl v0)), some (.inl v1), some (.inl v2)]) (st' := [.inl 1, .inl v2, .inr (.inl v0), .inl x4, .inl v1]) rfl ?_
      refine kX8_boughtBy F hk (z_row hX8_audit_0 19 rfl) wd_1357 (by decide) (Nat.le_of_ble_eq_true rfl) (fun x5 => ?_)
      refine z_ceq hk (z_row hX8_audit_0 20 rfl) (tgt := 36) rfl ?_ ?_
      · refine z_run hk hX8_audit_0 23 1 (pc' := 37) (lv' := [some (.inr (.inl v0)), some (.inl v1), some (.inl v2)]) (st' := [.inl 0, .inl v1]) rfl ?_
        refine z_mask [true, false, true] rfl ?_
        exact gsX8_audit_37 F n hk he (sX8_audit_9 n k) ih v0 v2 v1 0 σ
      · refine z_run hk hX8_audit_0 21 1 (pc' := 33) (lv' := [some (.inr (.inl v0)), some (.inl v1), some (.inl v2)]) (st' := [.inl 1, .inl v1]) rfl ?_
        refine z_goto hk (z_row hX8_audit_0 22 rfl) (tgt := 37) rfl ?_
        refine z_mask [true, false, true] rfl ?_
        exact gsX8_audit_37 F n hk he (sX8_audit_9 n k) ih v0 v2 v1 1 σ
theorem mX8_audit (F : zFx E) (n : Nat) (a0 : Nat) (σ : zW) (o : Int32 × zW) (hf : fX8_audit n a0 σ = some o) : zM E qX8_audit cX8_audit 3 (some .int) 3 [.inr (.inl a0)] σ (some (.int o.1)) o.2 := by
  refine zM_of (fin := zfW) F (by decide +kernel) rfl (Nat.le_of_ble_eq_true rfl) (lv0 := [some (.inr (.inl a0)), none, none]) rfl hf rfl (fun K hk he => ?_)
  have hk : zk E K "LotSalesModel" cX8_audit 3 3 := hk
  unfold fX8_audit
  refine z_run hk hX8_audit_0 0 2 (pc' := 2) (lv' := [some (.inr (.inl a0)), none, none]) (st' := [.inl 0, .inr (.inl a0)]) rfl ?_
  refine z_pI hk 0 (z_row hX8_audit_0 2 rfl) (ci := 8) rfl rfl wd_1122 rfl rfl rfl (fun σ6 => ?_)
  refine z_run hk hX8_audit_0 3 4 (pc' := 9) (lv' := [some (.inr (.inl a0)), some (.inl 0), some (.inl 0)]) (st' := []) rfl ?_
  exact gsX8_audit_9 F n hk he n a0 0 0 σ6
theorem kX8_audit {n : Nat} {own : String} {cc : ByteArray} {nL h index : Nat} {α : Type} {fin : α → zO} {σ : zW} {pc : Nat} {lv : zLV} {st : List zV} {a0 : Nat} {c : Int32 → zW → Option α} (F : zFx E) (hk : zk E K own cc nL h) (hd : decode cc pc = .ok (.invokevirtual index, 3)) (hl : Cond.methodLink own index qX8_audit ∈ lw_tbl) (hh : 3 + 1 ≤ h) (hs : zcat st ≤ 8) (k : ∀ v s, zG E K fin (c v s) s (pc + 3) lv (.inl v :: st)) : zG E K fin (zck σ 9 a0 (zb2 (fX8_audit n a0 σ) c)) σ pc lv (.inr (.inl a0) :: st) :=
  z_vW (n := 0) (y := qX8_audit) (As := []) hk hd hl wd_1482 wd_1483 wd_10 wd_1484 ⟨by decide, by decide, by decide +kernel⟩ ⟨hh, by decide⟩ (ci := 8) rfl rfl rfl (fun o ho => mX8_audit F n a0 σ o ho) hs k
abbrev qX8_append : MethodName := { cls := "LotSalesModel", name := "append", desc := "(C)V" }
def fX8_append (n : Nat) (a0 : Nat) (a1 : Int32) (σ : zW) : Option (zW) := zpI σ 9 a0 0 0 fun σ1 => zgI σ1 9 a0 12 fun x2 => if x2 = 60 then zpI σ1 9 a0 0 1 fun σ8 => some σ8 else zgR σ1 9 a0 11 fun x3 => zgI σ1 9 a0 12 fun x4 => zsC σ1 x3 x4 a1 fun σ5 => zgI σ5 9 a0 12 fun x6 => zpI σ5 9 a0 12 (x6 + 1) fun σ7 => some σ7
theorem mX8_append (F : zFx E) (n : Nat) (a0 : Nat) (a1 : Int32) (σ : zW) (o : zW) (hf : fX8_append n a0 a1 σ = some o) : zM E qX8_append cX8_append 2 none 0 [.inr (.inl a0), .inl a1] σ none o := by
  refine zM_of (fin := zfV) F (by decide +kernel) rfl (Nat.le_of_ble_eq_true rfl) (lv0 := [some (.inr (.inl a0)), some (.inl a1)]) rfl hf rfl (fun K hk he => ?_)
  have hk : zk E K "LotSalesModel" cX8_append 2 0 := hk
  unfold fX8_append
  refine z_run hk hX8_append_0 0 2 (pc' := 2) (lv' := [some (.inr (.inl a0)), some (.inl a1)]) (st' := [.inl 0, .inr (.inl a0)]) rfl ?_
  refine z_pI hk 0 (z_row hX8_append_0 2 rfl) (ci := 8) rfl rfl wd_1122 rfl rfl rfl (fun σ1 => ?_)
  refine z_run hk hX8_append_0 3 1 (pc' := 6) (lv' := [some (.inr (.inl a0)), some (.inl a1)]) (st' := [.inr (.inl a0)]) rfl ?_
  refine z_gI hk 12 (z_row hX8_append_0 4 rfl) (ci := 8) rfl rfl wd_1134 (fun x2 => ?_)
  refine z_run hk hX8_append_0 5 1 (pc' := 11) (lv' := [some (.inr (.inl a0)), some (.inl a1)]) (st' := [.inl 60, .inl x2]) rfl ?_
  refine z_cne hk (z_row hX8_append_0 6 rfl) (tgt := 20) rfl ?_ ?_
  · refine z_run hk hX8_append_0 11 1 (pc' := 21) (lv' := [some (.inr (.inl a0)), some (.inl a1)]) (st' := [.inr (.inl a0)]) rfl ?_
    refine z_gR hk 11 (z_row hX8_append_0 12 rfl) (ci := 8) rfl rfl wd_1133 (fun x3 => ?_)
    refine z_run hk hX8_append_0 13 1 (pc' := 25) (lv' := [some (.inr (.inl a0)), some (.inl a1)]) (st' := [.inr (.inl a0), .inr (.inl x3)]) rfl ?_
    refine z_gI hk 12 (z_row hX8_append_0 14 rfl) (ci := 8) rfl rfl wd_1134 (fun x4 => ?_)
    refine z_run hk hX8_append_0 15 1 (pc' := 29) (lv' := [some (.inr (.inl a0)), some (.inl a1)]) (st' := [.inl a1, .inl x4, .inr (.inl x3)]) rfl ?_
    refine z_sC hk (z_row hX8_append_0 16 rfl) (fun σ5 => ?_)
    refine z_run hk hX8_append_0 17 2 (pc' := 32) (lv' := [some (.inr (.inl a0)), some (.inl a1)]) (st' := [.inr (.inl a0), .inr (.inl a0)]) rfl ?_
    refine z_gI hk 12 (z_row hX8_append_0 19 rfl) (ci := 8) rfl rfl wd_1134 (fun x6 => ?_)
    refine z_run hk hX8_append_0 20 2 (pc' := 37) (lv' := [some (.inr (.inl a0)), some (.inl a1)]) (st' := [.inl (x6 + 1), .inr (.inl a0)]) rfl ?_
    refine z_pI hk 12 (z_row hX8_append_0 22 rfl) (ci := 8) rfl rfl wd_1134 rfl rfl rfl (fun σ7 => ?_)
    exact z_vret hk he (z_row hX8_append_0 23 rfl) rfl
  · refine z_run hk hX8_append_0 7 2 (pc' := 16) (lv' := [some (.inr (.inl a0)), some (.inl a1)]) (st' := [.inl 1, .inr (.inl a0)]) rfl ?_
    refine z_pI hk 0 (z_row hX8_append_0 9 rfl) (ci := 8) rfl rfl wd_1122 rfl rfl rfl (fun σ8 => ?_)
    exact z_vret hk he (z_row hX8_append_0 10 rfl) rfl
theorem kX8_append {n : Nat} {own : String} {cc : ByteArray} {nL h index : Nat} {α : Type} {fin : α → zO} {σ : zW} {pc : Nat} {lv : zLV} {st : List zV} {a0 : Nat} {a1 : Int32} {c : zW → Option α} (F : zFx E) (hk : zk E K own cc nL h) (hd : decode cc pc = .ok (.invokevirtual index, 3)) (hl : Cond.methodLink own index qX8_append ∈ lw_tbl) (hh : 0 + 1 ≤ h) (hs : zcat st ≤ 8) (k : ∀ s, zG E K fin (c s) s (pc + 3) lv st) : zG E K fin (zck σ 9 a0 (zb (fX8_append n a0 a1 σ) c)) σ pc lv (.inl a1 :: .inr (.inl a0) :: st) :=
  z_vV (n := 1) (y := qX8_append) (As := [.inl a1]) hk hd hl wd_1490 wd_1491 wd_10 wd_1492 ⟨by decide, by decide, by decide +kernel⟩ ⟨hh, by decide⟩ (ci := 8) rfl rfl rfl (fun o ho => mX8_append F n a0 a1 σ o ho) hs k
abbrev qX8_sign : MethodName := { cls := "LotSalesModel", name := "sign", desc := "()I" }
def sX8_sign_24 (n : Nat) (σ : zW) (y0 : Int32) : Option (Int32) := some y0
def fX8_sign (n : Nat) (a0 : Nat) (σ : zW) : Option (Int32) := zgI σ 9 a0 14 fun x1 => zgI σ 9 a0 13 fun x2 => if x1 < x2 then zgR σ 9 a0 11 fun x3 => zgI σ 9 a0 14 fun x4 => zaC σ x3 x4 fun x5 => sX8_sign_24 n σ x5 else sX8_sign_24 n σ (-1)
theorem gsX8_sign_24 (F : zFx E) (n : Nat) (σ : zW) (hk : zk E K "LotSalesModel" cX8_sign 1 0) (he : zend E K (some .int) "sign") (y0 : Int32) : zG E K (zfR σ) (sX8_sign_24 n σ y0) σ 24 [none] [.inl y0] := by
  unfold sX8_sign_24
  exact z_iret hk he (z_row hX8_sign_0 12 rfl) rfl
theorem mX8_sign (F : zFx E) (n : Nat) (a0 : Nat) (σ : zW) (o : Int32) (hf : fX8_sign n a0 σ = some o) : zM E qX8_sign cX8_sign 1 (some .int) 0 [.inr (.inl a0)] σ (some (.int o)) σ := by
  refine zM_of (fin := (zfR σ)) F (by decide +kernel) rfl (Nat.le_of_ble_eq_true rfl) (lv0 := [some (.inr (.inl a0))]) rfl hf rfl (fun K hk he => ?_)
  have hk : zk E K "LotSalesModel" cX8_sign 1 0 := hk
  unfold fX8_sign
  refine z_run hk hX8_sign_0 0 1 (pc' := 1) (lv' := [some (.inr (.inl a0))]) (st' := [.inr (.inl a0)]) rfl ?_
  refine z_gI hk 14 (z_row hX8_sign_0 1 rfl) (ci := 8) rfl rfl wd_1136 (fun x1 => ?_)
  refine z_run hk hX8_sign_0 2 1 (pc' := 5) (lv' := [some (.inr (.inl a0))]) (st' := [.inr (.inl a0), .inl x1]) rfl ?_
  refine z_gI hk 13 (z_row hX8_sign_0 3 rfl) (ci := 8) rfl rfl wd_1135 (fun x2 => ?_)
  refine z_cge hk (z_row hX8_sign_0 4 rfl) (tgt := 23) rfl ?_ ?_
  · refine z_run hk hX8_sign_0 11 1 (pc' := 24) (lv' := [some (.inr (.inl a0))]) (st' := [.inl (-1)]) rfl ?_
    refine z_mask [false] rfl ?_
    exact gsX8_sign_24 F n σ hk he (-1)
  · refine z_run hk hX8_sign_0 5 1 (pc' := 12) (lv' := [some (.inr (.inl a0))]) (st' := [.inr (.inl a0)]) rfl ?_
    refine z_gR hk 11 (z_row hX8_sign_0 6 rfl) (ci := 8) rfl rfl wd_1133 (fun x3 => ?_)
    refine z_run hk hX8_sign_0 7 1 (pc' := 16) (lv' := [some (.inr (.inl a0))]) (st' := [.inr (.inl a0), .inr (.inl x3)]) rfl ?_
    refine z_gI hk 14 (z_row hX8_sign_0 8 rfl) (ci := 8) rfl rfl wd_1136 (fun x4 => ?_)
    refine z_aC hk (z_row hX8_sign_0 9 rfl) (fun x5 => ?_)
    refine z_goto hk (z_row hX8_sign_0 10 rfl) (tgt := 24) rfl ?_
    refine z_mask [false] rfl ?_
    exact gsX8_sign_24 F n σ hk he x5
theorem kX8_sign {n : Nat} {own : String} {cc : ByteArray} {nL h index : Nat} {α : Type} {fin : α → zO} {σ : zW} {pc : Nat} {lv : zLV} {st : List zV} {a0 : Nat} {c : Int32 → Option α} (F : zFx E) (hk : zk E K own cc nL h) (hd : decode cc pc = .ok (.invokevirtual index, 3)) (hl : Cond.methodLink own index qX8_sign ∈ lw_tbl) (hh : 0 + 1 ≤ h) (hs : zcat st ≤ 8) (k : ∀ v, zG E K fin (c v) σ (pc + 3) lv (.inl v :: st)) : zG E K fin (zck σ 9 a0 (zb (fX8_sign n a0 σ) c)) σ pc lv (.inr (.inl a0) :: st) :=
  z_vR (n := 0) (y := qX8_sign) (As := []) hk hd hl wd_1503 ws_54 wd_10 wd_1504 ⟨by decide, by decide, by decide +kernel⟩ ⟨hh, by decide⟩ (ci := 8) rfl rfl rfl (fun o ho => mX8_sign F n a0 σ o ho) hs k
abbrev qX8_goes : MethodName := { cls := "LotSalesModel", name := "goes", desc := "(C)Z" }
def sX8_goes_36 (n : Nat) (v2 : Int32) (y0 : Nat) (y1 : Int32) (y2 : Int32) (σ : zW) : Option (Int32 × zW) := zpI σ 9 y0 14 (y1 + y2) fun σ1 => if v2 = 0 ∨ v2 = 1 then some (v2, σ1) else none
def sX8_goes_21 (n : Nat) (v0 : Nat) (y0 : Int32) (σ : zW) : Option (Int32 × zW) := zgI σ 9 v0 14 fun x2 => if y0 = 0 then sX8_goes_36 n y0 v0 x2 0 σ else sX8_goes_36 n y0 v0 x2 1 σ
def sX8_goes_20 (n : Nat) (v0 : Nat) (σ : zW) : Option (Int32 × zW) := sX8_goes_21 n v0 0 σ
def fX8_goes (n : Nat) (a0 : Nat) (a1 : Int32) (σ : zW) : Option (Int32 × zW) := zgI σ 9 a0 15 fun x3 => if x3 = (-1) then zck σ 9 a0 (zb (fX8_sign n a0 σ) fun x4 => if x4 = a1 then sX8_goes_21 n a0 1 σ else sX8_goes_20 n a0 σ) else sX8_goes_20 n a0 σ
theorem gsX8_goes_36 (F : zFx E) (n : Nat) (hk : zk E K "LotSalesModel" cX8_goes 3 1) (he : zend E K (some .boolean) "goes") (v2 : Int32) (y0 : Nat) (y1 : Int32) (y2 : Int32) (σ : zW) : zG E K zfW (sX8_goes_36 n v2 y0 y1 y2 σ) σ 36 [none, none, some (.inl v2)] [.inl y2, .inl y1, .inr (.inl y0)] := by
  unfold sX8_goes_36
  refine z_run hk hX8_goes_0 20 1 (pc' := 37) (lv' := [none, none, some (.inl v2)]) (st' := [.inl (y1 + y2), .inr (.inl y0)]) rfl ?_
  refine z_pI hk 14 (z_row hX8_goes_0 21 rfl) (ci := 8) rfl rfl wd_1136 rfl rfl rfl (fun σ1 => ?_)
  refine z_run hk hX8_goes_0 22 1 (pc' := 41) (lv' := [none, none, some (.inl v2)]) (st' := [.inl v2]) rfl ?_
  exact z_zret (fin := zfW) (o := (v2, σ1)) hk he (z_row hX8_goes_0 23 rfl) rfl
theorem gsX8_goes_21 (F : zFx E) (n : Nat) (hk : zk E K "LotSalesModel" cX8_goes 3 1) (he : zend E K (some .boolean) "goes") (v0 : Nat) (y0 : Int32) (σ : zW) : zG E K zfW (sX8_goes_21 n v0 y0 σ) σ 21 [some (.inr (.inl v0)), none, none] [.inl y0] := by
  unfold sX8_goes_21
  refine z_run hk hX8_goes_0 11 3 (pc' := 24) (lv' := [some (.inr (.inl v0)), none, some (.inl y0)]) (st' := [.inr (.inl v0), .inr (.inl v0)]) rfl ?_
  refine z_gI hk 14 (z_row hX8_goes_0 14 rfl) (ci := 8) rfl rfl wd_1136 (fun x2 => ?_)
  refine z_run hk hX8_goes_0 15 1 (pc' := 28) (lv' := [some (.inr (.inl v0)), none, some (.inl y0)]) (st' := [.inl y0, .inl x2, .inr (.inl v0)]) rfl ?_
  refine z_eq hk (z_row hX8_goes_0 16 rfl) (tgt := 35) rfl ?_ ?_
  · refine z_run hk hX8_goes_0 19 1 (pc' := 36) (lv' := [some (.inr (.inl v0)), none, some (.inl y0)]) (st' := [.inl 0, .inl x2, .inr (.inl v0)]) rfl ?_
    refine z_mask [false, false, true] rfl ?_
    exact gsX8_goes_36 F n hk he y0 v0 x2 0 σ
  · refine z_run hk hX8_goes_0 17 1 (pc' := 32) (lv' := [some (.inr (.inl v0)), none, some (.inl y0)]) (st' := [.inl 1, .inl x2, .inr (.inl v0)]) rfl ?_
    refine z_goto hk (z_row hX8_goes_0 18 rfl) (tgt := 36) rfl ?_
    refine z_mask [false, false, true] rfl ?_
    exact gsX8_goes_36 F n hk he y0 v0 x2 1 σ
theorem gsX8_goes_20 (F : zFx E) (n : Nat) (hk : zk E K "LotSalesModel" cX8_goes 3 1) (he : zend E K (some .boolean) "goes") (v0 : Nat) (σ : zW) : zG E K zfW (sX8_goes_20 n v0 σ) σ 20 [some (.inr (.inl v0)), none, none] [] := by
  unfold sX8_goes_20
  refine z_run hk hX8_goes_0 10 1 (pc' := 21) (lv' := [some (.inr (.inl v0)), none, none]) (st' := [.inl 0]) rfl ?_
  exact gsX8_goes_21 F n hk he v0 0 σ
theorem mX8_goes (F : zFx E) (n : Nat) (a0 : Nat) (a1 : Int32) (σ : zW) (o : Int32 × zW) (hf : fX8_goes n a0 a1 σ = some o) : zM E qX8_goes cX8_goes 3 (some .boolean) 1 [.inr (.inl a0), .inl a1] σ (some (.int o.1)) o.2 := by
  refine zM_of (fin := zfW) F (by decide +kernel) rfl (Nat.le_of_ble_eq_true rfl) (lv0 := [some (.inr (.inl a0)), some (.inl a1), none]) rfl hf rfl (fun K hk he => ?_)
  have hk : zk E K "LotSalesModel" cX8_goes 3 1 := hk
  unfold fX8_goes
  refine z_run hk hX8_goes_0 0 1 (pc' := 1) (lv' := [some (.inr (.inl a0)), some (.inl a1), none]) (st' := [.inr (.inl a0)]) rfl ?_
  refine z_gI hk 15 (z_row hX8_goes_0 1 rfl) (ci := 8) rfl rfl wd_1137 (fun x3 => ?_)
  refine z_run hk hX8_goes_0 2 1 (pc' := 5) (lv' := [some (.inr (.inl a0)), some (.inl a1), none]) (st' := [.inl (-1), .inl x3]) rfl ?_
  refine z_cne hk (z_row hX8_goes_0 3 rfl) (tgt := 20) rfl ?_ ?_
  · refine z_mask [true, false, false] rfl ?_
    exact gsX8_goes_20 F n hk he a0 σ
  · refine z_run hk hX8_goes_0 4 1 (pc' := 9) (lv' := [some (.inr (.inl a0)), some (.inl a1), none]) (st' := [.inr (.inl a0)]) rfl ?_
    refine kX8_sign F hk (z_row hX8_goes_0 5 rfl) wd_1501 (by decide) (Nat.le_of_ble_eq_true rfl) (fun x4 => ?_)
    refine z_run hk hX8_goes_0 6 1 (pc' := 13) (lv' := [some (.inr (.inl a0)), some (.inl a1), none]) (st' := [.inl a1, .inl x4]) rfl ?_
    refine z_cne hk (z_row hX8_goes_0 7 rfl) (tgt := 20) rfl ?_ ?_
    · refine z_mask [true, false, false] rfl ?_
      exact gsX8_goes_20 F n hk he a0 σ
    · refine z_run hk hX8_goes_0 8 1 (pc' := 17) (lv' := [some (.inr (.inl a0)), some (.inl a1), none]) (st' := [.inl 1]) rfl ?_
      refine z_goto hk (z_row hX8_goes_0 9 rfl) (tgt := 21) rfl ?_
      refine z_mask [true, false, false] rfl ?_
      exact gsX8_goes_21 F n hk he a0 1 σ
theorem kX8_goes {n : Nat} {own : String} {cc : ByteArray} {nL h index : Nat} {α : Type} {fin : α → zO} {σ : zW} {pc : Nat} {lv : zLV} {st : List zV} {a0 : Nat} {a1 : Int32} {c : Int32 → zW → Option α} (F : zFx E) (hk : zk E K own cc nL h) (hd : decode cc pc = .ok (.invokevirtual index, 3)) (hl : Cond.methodLink own index qX8_goes ∈ lw_tbl) (hh : 1 + 1 ≤ h) (hs : zcat st ≤ 8) (k : ∀ v s, zG E K fin (c v s) s (pc + 3) lv (.inl v :: st)) : zG E K fin (zck σ 9 a0 (zb2 (fX8_goes n a0 a1 σ) c)) σ pc lv (.inl a1 :: .inr (.inl a0) :: st) :=
  z_vW (n := 1) (y := qX8_goes) (As := [.inl a1]) hk hd hl wd_1514 ws_56 wd_10 wd_1515 ⟨by decide, by decide, by decide +kernel⟩ ⟨hh, by decide⟩ (ci := 8) rfl rfl rfl (fun o ho => mX8_goes F n a0 a1 σ o ho) hs k
abbrev qX8_faultHere : MethodName := { cls := "LotSalesModel", name := "faultHere", desc := "()V" }
def sX8_faultHere_20 (n : Nat) (y0 : Nat) (y1 : Int32) (σ : zW) : Option (zW) := zpI σ 9 y0 15 y1 fun σ1 => some σ1
def fX8_faultHere (n : Nat) (a0 : Nat) (σ : zW) : Option (zW) := zgI σ 9 a0 15 fun x2 => if x2 = (-1) then zgI σ 9 a0 14 fun x4 => sX8_faultHere_20 n a0 x4 σ else zgI σ 9 a0 15 fun x3 => sX8_faultHere_20 n a0 x3 σ
theorem gsX8_faultHere_20 (F : zFx E) (n : Nat) (hk : zk E K "LotSalesModel" cX8_faultHere 1 0) (he : zend E K none "faultHere") (y0 : Nat) (y1 : Int32) (σ : zW) : zG E K zfV (sX8_faultHere_20 n y0 y1 σ) σ 20 [none] [.inl y1, .inr (.inl y0)] := by
  unfold sX8_faultHere_20
  refine z_pI hk 15 (z_row hX8_faultHere_0 10 rfl) (ci := 8) rfl rfl wd_1137 rfl rfl rfl (fun σ1 => ?_)
  exact z_vret hk he (z_row hX8_faultHere_0 11 rfl) rfl
theorem mX8_faultHere (F : zFx E) (n : Nat) (a0 : Nat) (σ : zW) (o : zW) (hf : fX8_faultHere n a0 σ = some o) : zM E qX8_faultHere cX8_faultHere 1 none 0 [.inr (.inl a0)] σ none o := by
  refine zM_of (fin := zfV) F (by decide +kernel) rfl (Nat.le_of_ble_eq_true rfl) (lv0 := [some (.inr (.inl a0))]) rfl hf rfl (fun K hk he => ?_)
  have hk : zk E K "LotSalesModel" cX8_faultHere 1 0 := hk
  unfold fX8_faultHere
  refine z_run hk hX8_faultHere_0 0 2 (pc' := 2) (lv' := [some (.inr (.inl a0))]) (st' := [.inr (.inl a0), .inr (.inl a0)]) rfl ?_
  refine z_gI hk 15 (z_row hX8_faultHere_0 2 rfl) (ci := 8) rfl rfl wd_1137 (fun x2 => ?_)
  refine z_run hk hX8_faultHere_0 3 1 (pc' := 6) (lv' := [some (.inr (.inl a0))]) (st' := [.inl (-1), .inl x2, .inr (.inl a0)]) rfl ?_
  refine z_cne hk (z_row hX8_faultHere_0 4 rfl) (tgt := 16) rfl ?_ ?_
  · refine z_run hk hX8_faultHere_0 8 1 (pc' := 17) (lv' := [some (.inr (.inl a0))]) (st' := [.inr (.inl a0), .inr (.inl a0)]) rfl ?_
    refine z_gI hk 15 (z_row hX8_faultHere_0 9 rfl) (ci := 8) rfl rfl wd_1137 (fun x3 => ?_)
    refine z_mask [false] rfl ?_
    exact gsX8_faultHere_20 F n hk he a0 x3 σ
  · refine z_run hk hX8_faultHere_0 5 1 (pc' := 10) (lv' := [some (.inr (.inl a0))]) (st' := [.inr (.inl a0), .inr (.inl a0)]) rfl ?_
    refine z_gI hk 14 (z_row hX8_faultHere_0 6 rfl) (ci := 8) rfl rfl wd_1136 (fun x4 => ?_)
    refine z_goto hk (z_row hX8_faultHere_0 7 rfl) (tgt := 20) rfl ?_
    refine z_mask [false] rfl ?_
    exact gsX8_faultHere_20 F n hk he a0 x4 σ
theorem kX8_faultHere {n : Nat} {own : String} {cc : ByteArray} {nL h index : Nat} {α : Type} {fin : α → zO} {σ : zW} {pc : Nat} {lv : zLV} {st : List zV} {a0 : Nat} {c : zW → Option α} (F : zFx E) (hk : zk E K own cc nL h) (hd : decode cc pc = .ok (.invokevirtual index, 3)) (hl : Cond.methodLink own index qX8_faultHere ∈ lw_tbl) (hh : 0 + 1 ≤ h) (hs : zcat st ≤ 8) (k : ∀ s, zG E K fin (c s) s (pc + 3) lv st) : zG E K fin (zck σ 9 a0 (zb (fX8_faultHere n a0 σ) c)) σ pc lv (.inr (.inl a0) :: st) :=
  z_vV (n := 0) (y := qX8_faultHere) (As := []) hk hd hl wd_1510 ws_55 wd_10 wd_1511 ⟨by decide, by decide, by decide +kernel⟩ ⟨hh, by decide⟩ (ci := 8) rfl rfl rfl (fun o ho => mX8_faultHere F n a0 σ o ho) hs k
abbrev qX8_number : MethodName := { cls := "LotSalesModel", name := "number", desc := "()I" }
def sX8_number_68 (n : Nat) (v1 : Int32) (σ : zW) : Option (Int32 × zW) := some (v1, σ)
def sX8_number_60 (n : Nat) (v0 : Nat) (v1 : Int32) (v2 : Int32) (σ : zW) : Option (Int32 × zW) := if v2 = 0 then zck σ 9 v0 (zb (fX8_faultHere n v0 σ) fun σ1 => sX8_number_68 n v1 σ1) else sX8_number_68 n v1 σ
def sX8_number_4 (n : Nat) : Nat → Nat → Int32 → Int32 → zW → Option (Int32 × zW)
  | 0, _, _, _, _ => none
  | k + 1, v0, v1, v2, σ => zgI σ 9 v0 15 fun x2 => if x2 = (-1) then if v2 < 5 then zck σ 9 v0 (zb (fX8_sign n v0 σ) fun x3 => zb (fX8_isIn n x3 48 57 σ) fun x4 => if x4 = 0 then sX8_number_60 n v0 v1 v2 σ else zck σ 9 v0 (zb (fX8_sign n v0 σ) fun x5 => zgI σ 9 v0 14 fun x6 => zpI σ 9 v0 14 (x6 + 1) fun σ7 => sX8_number_4 n k v0 (((10 * v1) + x5) - 48) (v2 + 1) σ7)) else sX8_number_60 n v0 v1 v2 σ else sX8_number_60 n v0 v1 v2 σ
def fX8_number (n : Nat) (a0 : Nat) (σ : zW) : Option (Int32 × zW) := sX8_number_4 n n a0 0 0 σ
theorem gsX8_number_68 (F : zFx E) (n : Nat) (hk : zk E K "LotSalesModel" cX8_number 3 1) (he : zend E K (some .int) "number") (v1 : Int32) (σ : zW) : zG E K zfW (sX8_number_68 n v1 σ) σ 68 [none, some (.inl v1), none] [] := by
  unfold sX8_number_68
  refine z_run hk hX8_number_0 38 1 (pc' := 69) (lv' := [none, some (.inl v1), none]) (st' := [.inl v1]) rfl ?_
  exact z_iret hk he (z_row hX8_number_0 39 rfl) rfl
theorem gsX8_number_60 (F : zFx E) (n : Nat) (hk : zk E K "LotSalesModel" cX8_number 3 1) (he : zend E K (some .int) "number") (v0 : Nat) (v1 : Int32) (v2 : Int32) (σ : zW) : zG E K zfW (sX8_number_60 n v0 v1 v2 σ) σ 60 [some (.inr (.inl v0)), some (.inl v1), some (.inl v2)] [] := by
  unfold sX8_number_60
  refine z_run hk hX8_number_0 34 1 (pc' := 61) (lv' := [some (.inr (.inl v0)), some (.inl v1), some (.inl v2)]) (st' := [.inl v2]) rfl ?_
  refine z_ne hk (z_row hX8_number_0 35 rfl) (tgt := 68) rfl ?_ ?_
  · refine z_mask [false, true, false] rfl ?_
    exact gsX8_number_68 F n hk he v1 σ
  · refine z_run hk hX8_number_0 36 1 (pc' := 65) (lv' := [some (.inr (.inl v0)), some (.inl v1), some (.inl v2)]) (st' := [.inr (.inl v0)]) rfl ?_
    refine kX8_faultHere F hk (z_row hX8_number_0 37 rfl) wd_1508 (by decide) (Nat.le_of_ble_eq_true rfl) (fun σ1 => ?_)
    refine z_mask [false, true, false] rfl ?_
    exact gsX8_number_68 F n hk he v1 σ1
theorem gsX8_number_4 (F : zFx E) (n : Nat) (hk : zk E K "LotSalesModel" cX8_number 3 1) (he : zend E K (some .int) "number") : ∀ (k : Nat) (v0 : Nat) (v1 : Int32) (v2 : Int32) (σ : zW), zG E K zfW (sX8_number_4 n k v0 v1 v2 σ) σ 4 [some (.inr (.inl v0)), some (.inl v1), some (.inl v2)] [] := by
  intro k
  induction k with
  | zero =>
    intro v0 v1 v2 σ
    intro hX
    exact z_none hX
  | succ k ih =>
    intro v0 v1 v2 σ
    rw [sX8_number_4]
    refine z_run hk hX8_number_0 4 1 (pc' := 5) (lv' := [some (.inr (.inl v0)), some (.inl v1), some (.inl v2)]) (st' := [.inr (.inl v0)]) rfl ?_
    refine z_gI hk 15 (z_row hX8_number_0 5 rfl) (ci := 8) rfl rfl wd_1137 (fun x2 => ?_)
    refine z_run hk hX8_number_0 6 1 (pc' := 9) (lv' := [some (.inr (.inl v0)), some (.inl v1), some (.inl v2)]) (st' := [.inl (-1), .inl x2]) rfl ?_
    refine z_cne hk (z_row hX8_number_0 7 rfl) (tgt := 60) rfl ?_ ?_
    · exact gsX8_number_60 F n hk he v0 v1 v2 σ
    · refine z_run hk hX8_number_0 8 2 (pc' := 14) (lv' := [some (.inr (.inl v0)), some (.inl v1), some (.inl v2)]) (st' := [.inl 5, .inl v2]) rfl ?_
      refine z_cge hk (z_row hX8_number_0 10 rfl) (tgt := 60) rfl ?_ ?_
      · exact gsX8_number_60 F n hk he v0 v1 v2 σ
      · refine z_run hk hX8_number_0 11 1 (pc' := 18) (lv' := [some (.inr (.inl v0)), some (.inl v1), some (.inl v2)]) (st' := [.inr (.inl v0)]) rfl ?_
        refine kX8_sign F hk (z_row hX8_number_0 12 rfl) wd_1501 (by decide) (Nat.le_of_ble_eq_true rfl) (fun x3 => ?_)
        refine z_run hk hX8_number_0 13 2 (pc' := 25) (lv' := [some (.inr (.inl v0)), some (.inl v1), some (.inl v2)]) (st' := [.inl 57, .inl 48, .inl x3]) rfl ?_
        refine kX8_isIn F hk (z_row hX8_number_0 15 rfl) wd_1181 (by decide) (Nat.le_of_ble_eq_true rfl) (fun x4 => ?_)
        refine z_eq hk (z_row hX8_number_0 16 rfl) (tgt := 60) rfl ?_ ?_
        · exact gsX8_number_60 F n hk he v0 v1 v2 σ
        · refine z_run hk hX8_number_0 17 4 (pc' := 36) (lv' := [some (.inr (.inl v0)), some (.inl v1), some (.inl v2)]) (st' := [.inr (.inl v0), .inl (10 * v1)]) rfl ?_
          refine kX8_sign F hk (z_row hX8_number_0 21 rfl) wd_1501 (by decide) (Nat.le_of_ble_eq_true rfl) (fun x5 => ?_)
          refine z_run hk hX8_number_0 22 7 (pc' := 49) (lv' := [some (.inr (.inl v0)), some (.inl (((10 * v1) + x5) - 48)), some (.inl (v2 + 1))]) (st' := [.inr (.inl v0), .inr (.inl v0)]) rfl ?_
          refine z_gI hk 14 (z_row hX8_number_0 29 rfl) (ci := 8) rfl rfl wd_1136 (fun x6 => ?_)
          refine z_run hk hX8_number_0 30 2 (pc' := 54) (lv' := [some (.inr (.inl v0)), some (.inl (((10 * v1) + x5) - 48)), some (.inl (v2 + 1))]) (st' := [.inl (x6 + 1), .inr (.inl v0)]) rfl ?_
          refine z_pI hk 14 (z_row hX8_number_0 32 rfl) (ci := 8) rfl rfl wd_1136 rfl rfl rfl (fun σ7 => ?_)
          refine z_goto hk (z_row hX8_number_0 33 rfl) (tgt := 4) rfl ?_
          exact ih v0 (((10 * v1) + x5) - 48) (v2 + 1) σ7
theorem mX8_number (F : zFx E) (n : Nat) (a0 : Nat) (σ : zW) (o : Int32 × zW) (hf : fX8_number n a0 σ = some o) : zM E qX8_number cX8_number 3 (some .int) 1 [.inr (.inl a0)] σ (some (.int o.1)) o.2 := by
  refine zM_of (fin := zfW) F (by decide +kernel) rfl (Nat.le_of_ble_eq_true rfl) (lv0 := [some (.inr (.inl a0)), none, none]) rfl hf rfl (fun K hk he => ?_)
  have hk : zk E K "LotSalesModel" cX8_number 3 1 := hk
  unfold fX8_number
  refine z_run hk hX8_number_0 0 4 (pc' := 4) (lv' := [some (.inr (.inl a0)), some (.inl 0), some (.inl 0)]) (st' := []) rfl ?_
  exact gsX8_number_4 F n hk he n a0 0 0 σ
theorem kX8_number {n : Nat} {own : String} {cc : ByteArray} {nL h index : Nat} {α : Type} {fin : α → zO} {σ : zW} {pc : Nat} {lv : zLV} {st : List zV} {a0 : Nat} {c : Int32 → zW → Option α} (F : zFx E) (hk : zk E K own cc nL h) (hd : decode cc pc = .ok (.invokevirtual index, 3)) (hl : Cond.methodLink own index qX8_number ∈ lw_tbl) (hh : 1 + 1 ≤ h) (hs : zcat st ≤ 8) (k : ∀ v s, zG E K fin (c v s) s (pc + 3) lv (.inl v :: st)) : zG E K fin (zck σ 9 a0 (zb2 (fX8_number n a0 σ) c)) σ pc lv (.inr (.inl a0) :: st) :=
  z_vW (n := 0) (y := qX8_number) (As := []) hk hd hl wd_1518 ws_57 wd_10 wd_1519 ⟨by decide, by decide, by decide +kernel⟩ ⟨hh, by decide⟩ (ci := 8) rfl rfl rfl (fun o ho => mX8_number F n a0 σ o ho) hs k
abbrev qX8_numbersOf : MethodName := { cls := "LotSalesModel", name := "numbersOf", desc := "(I)I" }
def sX8_numbersOf_49 (n : Nat) (σ : zW) (y0 : Int32) : Option (Int32) := some y0
def sX8_numbersOf_18 (n : Nat) (σ : zW) : Option (Int32) := sX8_numbersOf_49 n σ 1
def sX8_numbersOf_44 (n : Nat) (σ : zW) : Option (Int32) := sX8_numbersOf_49 n σ 3
def fX8_numbersOf (n : Nat) (a0 : Int32) (σ : zW) : Option (Int32) := if a0 = 111 then sX8_numbersOf_18 n σ else if a0 = 104 then sX8_numbersOf_18 n σ else if a0 = 119 then sX8_numbersOf_18 n σ else if a0 = 99 then sX8_numbersOf_49 n σ 2 else if a0 = 97 then sX8_numbersOf_44 n σ else if a0 = 98 then sX8_numbersOf_44 n σ else sX8_numbersOf_49 n σ 0
theorem gsX8_numbersOf_49 (F : zFx E) (n : Nat) (σ : zW) (hk : zk E K "LotSalesModel" cX8_numbersOf 1 0) (he : zend E K (some .int) "numbersOf") (y0 : Int32) : zG E K (zfR σ) (sX8_numbersOf_49 n σ y0) σ 49 [none] [.inl y0] := by
  unfold sX8_numbersOf_49
  exact z_iret hk he (z_row hX8_numbersOf_0 25 rfl) rfl
theorem gsX8_numbersOf_18 (F : zFx E) (n : Nat) (σ : zW) (hk : zk E K "LotSalesModel" cX8_numbersOf 1 0) (he : zend E K (some .int) "numbersOf") : zG E K (zfR σ) (sX8_numbersOf_18 n σ) σ 18 [none] [] := by
  unfold sX8_numbersOf_18
  refine z_run hk hX8_numbersOf_0 9 1 (pc' := 19) (lv' := [none]) (st' := [.inl 1]) rfl ?_
  refine z_goto hk (z_row hX8_numbersOf_0 10 rfl) (tgt := 49) rfl ?_
  exact gsX8_numbersOf_49 F n σ hk he 1
theorem gsX8_numbersOf_44 (F : zFx E) (n : Nat) (σ : zW) (hk : zk E K "LotSalesModel" cX8_numbersOf 1 0) (he : zend E K (some .int) "numbersOf") : zG E K (zfR σ) (sX8_numbersOf_44 n σ) σ 44 [none] [] := by
  unfold sX8_numbersOf_44
  refine z_run hk hX8_numbersOf_0 22 1 (pc' := 45) (lv' := [none]) (st' := [.inl 3]) rfl ?_
  refine z_goto hk (z_row hX8_numbersOf_0 23 rfl) (tgt := 49) rfl ?_
  exact gsX8_numbersOf_49 F n σ hk he 3
theorem mX8_numbersOf (F : zFx E) (n : Nat) (a0 : Int32) (σ : zW) (o : Int32) (hf : fX8_numbersOf n a0 σ = some o) : zM E qX8_numbersOf cX8_numbersOf 1 (some .int) 0 [.inl a0] σ (some (.int o)) σ := by
  refine zM_of (fin := (zfR σ)) F (by decide +kernel) rfl (Nat.le_of_ble_eq_true rfl) (lv0 := [some (.inl a0)]) rfl hf rfl (fun K hk he => ?_)
  have hk : zk E K "LotSalesModel" cX8_numbersOf 1 0 := hk
  unfold fX8_numbersOf
  refine z_run hk hX8_numbersOf_0 0 2 (pc' := 3) (lv' := [some (.inl a0)]) (st' := [.inl 111, .inl a0]) rfl ?_
  refine z_ceq hk (z_row hX8_numbersOf_0 2 rfl) (tgt := 18) rfl ?_ ?_
  · refine z_mask [false] rfl ?_
    exact gsX8_numbersOf_18 F n σ hk he
  · refine z_run hk hX8_numbersOf_0 3 2 (pc' := 9) (lv' := [some (.inl a0)]) (st' := [.inl 104, .inl a0]) rfl ?_
    refine z_ceq hk (z_row hX8_numbersOf_0 5 rfl) (tgt := 18) rfl ?_ ?_
    · refine z_mask [false] rfl ?_
      exact gsX8_numbersOf_18 F n σ hk he
    · refine z_run hk hX8_numbersOf_0 6 2 (pc' := 15) (lv' := [some (.inl a0)]) (st' := [.inl 119, .inl a0]) rfl ?_
      refine z_cne hk (z_row hX8_numbersOf_0 8 rfl) (tgt := 22) rfl ?_ ?_
      · refine z_run hk hX8_numbersOf_0 11 2 (pc' := 25) (lv' := [some (.inl a0)]) (st' := [.inl 99, .inl a0]) rfl ?_
        refine z_cne hk (z_row hX8_numbersOf_0 13 rfl) (tgt := 32) rfl ?_ ?_
        · refine z_run hk hX8_numbersOf_0 16 2 (pc' := 35) (lv' := [some (.inl a0)]) (st' := [.inl 97, .inl a0]) rfl ?_
          refine z_ceq hk (z_row hX8_numbersOf_0 18 rfl) (tgt := 44) rfl ?_ ?_
          · refine z_mask [false] rfl ?_
            exact gsX8_numbersOf_44 F n σ hk he
          · refine z_run hk hX8_numbersOf_0 19 2 (pc' := 41) (lv' := [some (.inl a0)]) (st' := [.inl 98, .inl a0]) rfl ?_
            refine z_cne hk (z_row hX8_numbersOf_0 21 rfl) (tgt := 48) rfl ?_ ?_
            · refine z_run hk hX8_numbersOf_0 24 1 (pc' := 49) (lv' := [some (.inl a0)]) (st' := [.inl 0]) rfl ?_
              refine z_mask [false] rfl ?_
              exact gsX8_numbersOf_49 F n σ hk he 0
            · refine z_mask [false] rfl ?_
              exact gsX8_numbersOf_44 F n σ hk he
        · refine z_run hk hX8_numbersOf_0 14 1 (pc' := 29) (lv' := [some (.inl a0)]) (st' := [.inl 2]) rfl ?_
          refine z_goto hk (z_row hX8_numbersOf_0 15 rfl) (tgt := 49) rfl ?_
          refine z_mask [false] rfl ?_
          exact gsX8_numbersOf_49 F n σ hk he 2
      · refine z_mask [false] rfl ?_
        exact gsX8_numbersOf_18 F n σ hk he
theorem kX8_numbersOf {n : Nat} {own : String} {cc : ByteArray} {nL h index : Nat} {α : Type} {fin : α → zO} {σ : zW} {pc : Nat} {lv : zLV} {st : List zV} {a0 : Int32} {c : Int32 → Option α} (F : zFx E) (hk : zk E K own cc nL h) (hd : decode cc pc = .ok (.invokestatic index, 3)) (hl : Cond.methodLink own index qX8_numbersOf ∈ lw_tbl) (hh : 0 + 1 ≤ h) (hs : zcat st ≤ 8) (k : ∀ v, zG E K fin (c v) σ (pc + 3) lv (.inl v :: st)) : zG E K fin (zb (fX8_numbersOf n a0 σ) c) σ pc lv (.inl a0 :: st) :=
  z_qR (n := 1) (y := qX8_numbersOf) (As := [.inl a0]) hk hd hl wd_1506 wd_10 wd_1507 ⟨by decide, by decide, by decide +kernel⟩ ⟨hh, by decide⟩ rfl (fun o ho => mX8_numbersOf F n a0 σ o ho) hs k
abbrev qX8_command : MethodName := { cls := "LotSalesModel", name := "command", desc := "()V" }
def sX8_command_82 (n : Nat) (r58 : Nat → Int32 → Int32 → Int32 → zW → Option (zW)) (v0 : Nat) (v2 : Int32) (v3 : Int32) (v4 : Int32) (σ : zW) : Option (zW) := zgR σ 9 v0 16 fun x1 => zck σ 9 v0 (zb2 (fX8_number n v0 σ) fun x2 σ3 => zsI σ3 x1 ((v3 + 1) + v4) x2 fun σ4 => r58 v0 v2 v3 (v4 + 1) σ4)
def sX8_command_58 (n : Nat) : Nat → Nat → Int32 → Int32 → Int32 → zW → Option (zW)
  | 0, _, _, _, _, _ => none
  | k + 1, v0, v2, v3, v4, σ => if v4 < v2 then if 0 < v4 then zck σ 9 v0 (zb2 (fX8_goes n v0 44 σ) fun x7 σ8 => if x7 = 0 then zck σ8 9 v0 (zb (fX8_faultHere n v0 σ8) fun σ9 => sX8_command_82 n (sX8_command_58 n k) v0 v2 v3 v4 σ9) else sX8_command_82 n (sX8_command_58 n k) v0 v2 v3 v4 σ8) else sX8_command_82 n (sX8_command_58 n k) v0 v2 v3 v4 σ else zgI σ 9 v0 17 fun x5 => zpI σ 9 v0 17 (x5 + 1) fun σ6 => some σ6
def sX8_command_21 (n : Nat) (v0 : Nat) (v1 : Int32) (y0 : Int32) (σ : zW) : Option (zW) := if y0 = 0 then zck σ 9 v0 (zb (fX8_faultHere n v0 σ) fun σ15 => some σ15) else zgI σ 9 v0 17 fun x10 => zgR σ 9 v0 16 fun x11 => zsI σ x11 (4 * x10) v1 fun σ12 => zgI σ12 9 v0 14 fun x13 => zpI σ12 9 v0 14 (x13 + 1) fun σ14 => sX8_command_58 n n v0 y0 (4 * x10) 0 σ14
def fX8_command (n : Nat) (a0 : Nat) (σ : zW) : Option (zW) := zck σ 9 a0 (zb (fX8_sign n a0 σ) fun x16 => zgI σ 9 a0 15 fun x17 => if x17 = (-1) then zb (fX8_numbersOf n x16 σ) fun x18 => sX8_command_21 n a0 x16 x18 σ else sX8_command_21 n a0 x16 0 σ)
theorem gsX8_command_82 (F : zFx E) (n : Nat) (hk : zk E K "LotSalesModel" cX8_command 5 2) (he : zend E K none "command") (r58 : Nat → Int32 → Int32 → Int32 → zW → Option (zW)) (hr58 : ∀ (v0 : Nat) (v2 : Int32) (v3 : Int32) (v4 : Int32) (σ : zW), zG E K zfV (r58 v0 v2 v3 v4 σ) σ 58 [some (.inr (.inl v0)), none, some (.inl v2), some (.inl v3), some (.inl v4)] []) (v0 : Nat) (v2 : Int32) (v3 : Int32) (v4 : Int32) (σ : zW) : zG E K zfV (sX8_command_82 n r58 v0 v2 v3 v4 σ) σ 82 [some (.inr (.inl v0)), none, some (.inl v2), some (.inl v3), some (.inl v4)] [] := by
  unfold sX8_command_82
  refine z_run hk hX8_command_0 46 1 (pc' := 83) (lv' := [some (.inr (.inl v0)), none, some (.inl v2), some (.inl v3), some (.inl v4)]) (st' := [.inr (.inl v0)]) rfl ?_
  refine z_gR hk 16 (z_row hX8_command_0 47 rfl) (ci := 8) rfl rfl wd_1138 (fun x1 => ?_)
  refine z_run hk hX8_command_0 48 6 (pc' := 93) (lv' := [some (.inr (.inl v0)), none, some (.inl v2), some (.inl v3), some (.inl v4)]) (st' := [.inr (.inl v0), .inl ((v3 + 1) + v4), .inr (.inl x1)]) rfl ?_
  refine kX8_number F hk (z_row hX8_command_0 54 rfl) wd_1516 (by decide) (Nat.le_of_ble_eq_true rfl) (fun x2 σ3 => ?_)
  refine z_sI hk (z_row hX8_command_0 55 rfl) (fun σ4 => ?_)
  refine z_run hk hX8_command_0 56 1 (pc' := 100) (lv' := [some (.inr (.inl v0)), none, some (.inl v2), some (.inl v3), some (.inl (v4 + 1))]) (st' := []) rfl ?_
  refine z_goto hk (z_row hX8_command_0 57 rfl) (tgt := 58) rfl ?_
  exact hr58 v0 v2 v3 (v4 + 1) σ4
theorem gsX8_command_58 (F : zFx E) (n : Nat) (hk : zk E K "LotSalesModel" cX8_command 5 2) (he : zend E K none "command") : ∀ (k : Nat) (v0 : Nat) (v2 : Int32) (v3 : Int32) (v4 : Int32) (σ : zW), zG E K zfV (sX8_command_58 n k v0 v2 v3 v4 σ) σ 58 [some (.inr (.inl v0)), none, some (.inl v2), some (.inl v3), some (.inl v4)] [] := by
  intro k
  induction k with
  | zero =>
    intro v0 v2 v3 v4 σ
    intro hX
    exact z_none hX
  | succ k ih =>
    intro v0 v2 v3 v4 σ
    rw [sX8_command_58]
    refine z_run hk hX8_command_0 35 2 (pc' := 61) (lv' := [some (.inr (.inl v0)), none, some (.inl v2), some (.inl v3), some (.inl v4)]) (st' := [.inl v2, .inl v4]) rfl ?_
    refine z_cge hk (z_row hX8_command_0 37 rfl) (tgt := 103) rfl ?_ ?_
    · refine z_run hk hX8_command_0 58 2 (pc' := 105) (lv' := [some (.inr (.inl v0)), none, some (.inl v2), some (.inl v3), some (.inl v4)]) (st' := [.inr (.inl v0), .inr (.inl v0)]) rfl ?_
      refine z_gI hk 17 (z_row hX8_command_1 0 rfl) (ci := 8) rfl rfl wd_1139 (fun x5 => ?_)
      refine z_run hk hX8_command_1 1 2 (pc' := 110) (lv' := [some (.inr (.inl v0)), none, some (.inl v2), some (.inl v3), some (.inl v4)]) (st' := [.inl (x5 + 1), .inr (.inl v0)]) rfl ?_
      refine z_pI hk 17 (z_row hX8_command_1 3 rfl) (ci := 8) rfl rfl wd_1139 rfl rfl rfl (fun σ6 => ?_)
      exact z_vret hk he (z_row hX8_command_1 4 rfl) rfl
    · refine z_run hk hX8_command_0 38 1 (pc' := 66) (lv' := [some (.inr (.inl v0)), none, some (.inl v2), some (.inl v3), some (.inl v4)]) (st' := [.inl v4]) rfl ?_
      refine z_le hk (z_row hX8_command_0 39 rfl) (tgt := 82) rfl ?_ ?_
      · exact gsX8_command_82 F n hk he (sX8_command_58 n k) ih v0 v2 v3 v4 σ
      · refine z_run hk hX8_command_0 40 2 (pc' := 72) (lv' := [some (.inr (.inl v0)), none, some (.inl v2), some (.inl v3), some (.inl v4)]) (st' := [.inl 44, .inr (.inl v0)]) rfl ?_
        refine kX8_goes F hk (z_row hX8_command_0 42 rfl) wd_1512 (by decide) (Nat.le_of_ble_eq_true rfl) (fun x7 σ8 => ?_)
        refine z_ne hk (z_row hX8_command_0 43 rfl) (tgt := 82) rfl ?_ ?_
        · exact gsX8_command_82 F n hk he (sX8_command_58 n k) ih v0 v2 v3 v4 σ8
        · refine z_run hk hX8_command_0 44 1 (pc' := 79) (lv' := [some (.inr (.inl v0)), none, some (.inl v2), some (.inl v3), some (.inl v4)]) (st' := [.inr (.inl v0)]) rfl ?_
          refine kX8_faultHere F hk (z_row hX8_command_0 45 rfl) wd_1508 (by decide) (Nat.le_of_ble_eq_true rfl) (fun σ9 => ?_)
          exact gsX8_command_82 F n hk he (sX8_command_58 n k) ih v0 v2 v3 v4 σ9
theorem gsX8_command_21 (F : zFx E) (n : Nat) (hk : zk E K "LotSalesModel" cX8_command 5 2) (he : zend E K none "command") (v0 : Nat) (v1 : Int32) (y0 : Int32) (σ : zW) : zG E K zfV (sX8_command_21 n v0 v1 y0 σ) σ 21 [some (.inr (.inl v0)), some (.inl v1), none, none, none] [.inl y0] := by
  unfold sX8_command_21
  refine z_run hk hX8_command_0 11 2 (pc' := 23) (lv' := [some (.inr (.inl v0)), some (.inl v1), some (.inl y0), none, none]) (st' := [.inl y0]) rfl ?_
  refine z_ne hk (z_row hX8_command_0 13 rfl) (tgt := 31) rfl ?_ ?_
  · refine z_run hk hX8_command_0 17 2 (pc' := 33) (lv' := [some (.inr (.inl v0)), some (.inl v1), some (.inl y0), none, none]) (st' := [.inr (.inl v0), .inl 4]) rfl ?_
    refine z_gI hk 17 (z_row hX8_command_0 19 rfl) (ci := 8) rfl rfl wd_1139 (fun x10 => ?_)
    refine z_run hk hX8_command_0 20 3 (pc' := 39) (lv' := [some (.inr (.inl v0)), some (.inl v1), some (.inl y0), some (.inl (4 * x10)), none]) (st' := [.inr (.inl v0)]) rfl ?_
    refine z_gR hk 16 (z_row hX8_command_0 23 rfl) (ci := 8) rfl rfl wd_1138 (fun x11 => ?_)
    refine z_run hk hX8_command_0 24 2 (pc' := 44) (lv' := [some (.inr (.inl v0)), some (.inl v1), some (.inl y0), some (.inl (4 * x10)), none]) (st' := [.inl v1, .inl (4 * x10), .inr (.inl x11)]) rfl ?_
    refine z_sI hk (z_row hX8_command_0 26 rfl) (fun σ12 => ?_)
    refine z_run hk hX8_command_0 27 2 (pc' := 47) (lv' := [some (.inr (.inl v0)), some (.inl v1), some (.inl y0), some (.inl (4 * x10)), none]) (st' := [.inr (.inl v0), .inr (.inl v0)]) rfl ?_
    refine z_gI hk 14 (z_row hX8_command_0 29 rfl) (ci := 8) rfl rfl wd_1136 (fun x13 => ?_)
    refine z_run hk hX8_command_0 30 2 (pc' := 52) (lv' := [some (.inr (.inl v0)), some (.inl v1), some (.inl y0), some (.inl (4 * x10)), none]) (st' := [.inl (x13 + 1), .inr (.inl v0)]) rfl ?_
    refine z_pI hk 14 (z_row hX8_command_0 32 rfl) (ci := 8) rfl rfl wd_1136 rfl rfl rfl (fun σ14 => ?_)
    refine z_run hk hX8_command_0 33 2 (pc' := 58) (lv' := [some (.inr (.inl v0)), some (.inl v1), some (.inl y0), some (.inl (4 * x10)), some (.inl 0)]) (st' := []) rfl ?_
    refine z_mask [true, false, true, true, true] rfl ?_
    exact gsX8_command_58 F n hk he n v0 y0 (4 * x10) 0 σ14
  · refine z_run hk hX8_command_0 14 1 (pc' := 27) (lv' := [some (.inr (.inl v0)), some (.inl v1), some (.inl y0), none, none]) (st' := [.inr (.inl v0)]) rfl ?_
    refine kX8_faultHere F hk (z_row hX8_command_0 15 rfl) wd_1508 (by decide) (Nat.le_of_ble_eq_true rfl) (fun σ15 => ?_)
    exact z_vret hk he (z_row hX8_command_0 16 rfl) rfl
theorem mX8_command (F : zFx E) (n : Nat) (a0 : Nat) (σ : zW) (o : zW) (hf : fX8_command n a0 σ = some o) : zM E qX8_command cX8_command 5 none 2 [.inr (.inl a0)] σ none o := by
  refine zM_of (fin := zfV) F (by decide +kernel) rfl (Nat.le_of_ble_eq_true rfl) (lv0 := [some (.inr (.inl a0)), none, none, none, none]) rfl hf rfl (fun K hk he => ?_)
  have hk : zk E K "LotSalesModel" cX8_command 5 2 := hk
  unfold fX8_command
  refine z_run hk hX8_command_0 0 1 (pc' := 1) (lv' := [some (.inr (.inl a0)), none, none, none, none]) (st' := [.inr (.inl a0)]) rfl ?_
  refine kX8_sign F hk (z_row hX8_command_0 1 rfl) wd_1501 (by decide) (Nat.le_of_ble_eq_true rfl) (fun x16 => ?_)
  refine z_run hk hX8_command_0 2 2 (pc' := 6) (lv' := [some (.inr (.inl a0)), some (.inl x16), none, none, none]) (st' := [.inr (.inl a0)]) rfl ?_
  refine z_gI hk 15 (z_row hX8_command_0 4 rfl) (ci := 8) rfl rfl wd_1137 (fun x17 => ?_)
  refine z_run hk hX8_command_0 5 1 (pc' := 10) (lv' := [some (.inr (.inl a0)), some (.inl x16), none, none, none]) (st' := [.inl (-1), .inl x17]) rfl ?_
  refine z_cne hk (z_row hX8_command_0 6 rfl) (tgt := 20) rfl ?_ ?_
  · refine z_run hk hX8_command_0 10 1 (pc' := 21) (lv' := [some (.inr (.inl a0)), some (.inl x16), none, none, none]) (st' := [.inl 0]) rfl ?_
    exact gsX8_command_21 F n hk he a0 x16 0 σ
  · refine z_run hk hX8_command_0 7 1 (pc' := 14) (lv' := [some (.inr (.inl a0)), some (.inl x16), none, none, none]) (st' := [.inl x16]) rfl ?_
    refine kX8_numbersOf F hk (z_row hX8_command_0 8 rfl) wd_1505 (by decide) (Nat.le_of_ble_eq_true rfl) (fun x18 => ?_)
    refine z_goto hk (z_row hX8_command_0 9 rfl) (tgt := 21) rfl ?_
    exact gsX8_command_21 F n hk he a0 x16 x18 σ
theorem kX8_command {n : Nat} {own : String} {cc : ByteArray} {nL h index : Nat} {α : Type} {fin : α → zO} {σ : zW} {pc : Nat} {lv : zLV} {st : List zV} {a0 : Nat} {c : zW → Option α} (F : zFx E) (hk : zk E K own cc nL h) (hd : decode cc pc = .ok (.invokevirtual index, 3)) (hl : Cond.methodLink own index qX8_command ∈ lw_tbl) (hh : 2 + 1 ≤ h) (hs : zcat st ≤ 8) (k : ∀ s, zG E K fin (c s) s (pc + 3) lv st) : zG E K fin (zck σ 9 a0 (zb (fX8_command n a0 σ) c)) σ pc lv (.inr (.inl a0) :: st) :=
  z_vV (n := 0) (y := qX8_command) (As := []) hk hd hl wd_1499 ws_53 wd_10 wd_1500 ⟨by decide, by decide, by decide +kernel⟩ ⟨hh, by decide⟩ (ci := 8) rfl rfl rfl (fun o ho => mX8_command F n a0 σ o ho) hs k
abbrev qX8_carryOut : MethodName := { cls := "LotSalesModel", name := "carryOut", desc := "(I)V" }
def sX8_carryOut_152 (n : Nat) (σ : zW) : Option (zW) := some σ
def fX8_carryOut (n : Nat) (a0 : Nat) (a1 : Int32) (σ : zW) : Option (zW) := zgR σ 9 a0 16 fun x1 => zaI σ x1 (a1 + 1) fun x2 => zgR σ 9 a0 16 fun x3 => zaI σ x3 (a1 + 2) fun x4 => zgR σ 9 a0 16 fun x5 => zaI σ x5 (a1 + 3) fun x6 => zgR σ 9 a0 16 fun x7 => zaI σ x7 a1 fun x8 => if x8 = 97 then zck σ 9 a0 (zb2 (fX8_order n a0 x2 x4 x6 σ) fun x9 σ10 => sX8_carryOut_152 n σ10) else if x8 = 98 then zck σ 9 a0 (zb2 (fX8_bid n a0 x2 x4 x6 σ) fun x11 σ12 => sX8_carryOut_152 n σ12) else if x8 = 104 then zck σ 9 a0 (zb2 (fX8_close n a0 x2 σ) fun x13 σ14 => sX8_carryOut_152 n σ14) else if x8 = 111 then zck σ 9 a0 (zb2 (fX8_open n a0 x2 σ) fun x15 σ16 => sX8_carryOut_152 n σ16) else if x8 = 119 then zck σ 9 a0 (zb2 (fX8_withdraw n a0 x2 σ) fun x17 σ18 => sX8_carryOut_152 n σ18) else zck σ 9 a0 (zb2 (fX8_cancel n a0 x2 x4 σ) fun x19 σ20 => sX8_carryOut_152 n σ20)
theorem gsX8_carryOut_152 (F : zFx E) (n : Nat) (hk : zk E K "LotSalesModel" cX8_carryOut 6 11) (he : zend E K none "carryOut") (σ : zW) : zG E K zfV (sX8_carryOut_152 n σ) σ 152 [none, none, none, none, none, none] [] := by
  unfold sX8_carryOut_152
  exact z_vret hk he (z_row hX8_carryOut_1 2 rfl) rfl
theorem mX8_carryOut (F : zFx E) (n : Nat) (a0 : Nat) (a1 : Int32) (σ : zW) (o : zW) (hf : fX8_carryOut n a0 a1 σ = some o) : zM E qX8_carryOut cX8_carryOut 6 none 11 [.inr (.inl a0), .inl a1] σ none o := by
  refine zM_of (fin := zfV) F (by decide +kernel) rfl (Nat.le_of_ble_eq_true rfl) (lv0 := [some (.inr (.inl a0)), some (.inl a1), none, none, none, none]) rfl hf rfl (fun K hk he => ?_)
  have hk : zk E K "LotSalesModel" cX8_carryOut 6 11 := hk
  unfold fX8_carryOut
  refine z_run hk hX8_carryOut_0 0 1 (pc' := 1) (lv' := [some (.inr (.inl a0)), some (.inl a1), none, none, none, none]) (st' := [.inr (.inl a0)]) rfl ?_
  refine z_gR hk 16 (z_row hX8_carryOut_0 1 rfl) (ci := 8) rfl rfl wd_1138 (fun x1 => ?_)
  refine z_run hk hX8_carryOut_0 2 3 (pc' := 7) (lv' := [some (.inr (.inl a0)), some (.inl a1), none, none, none, none]) (st' := [.inl (a1 + 1), .inr (.inl x1)]) rfl ?_
  refine z_aI hk (z_row hX8_carryOut_0 5 rfl) (fun x2 => ?_)
  refine z_run hk hX8_carryOut_0 6 2 (pc' := 10) (lv' := [some (.inr (.inl a0)), some (.inl a1), some (.inl x2), none, none, none]) (st' := [.inr (.inl a0)]) rfl ?_
  refine z_gR hk 16 (z_row hX8_carryOut_0 8 rfl) (ci := 8) rfl rfl wd_1138 (fun x3 => ?_)
  refine z_run hk hX8_carryOut_0 9 3 (pc' := 16) (lv' := [some (.inr (.inl a0)), some (.inl a1), some (.inl x2), none, none, none]) (st' := [.inl (a1 + 2), .inr (.inl x3)]) rfl ?_
  refine z_aI hk (z_row hX8_carryOut_0 12 rfl) (fun x4 => ?_)
  refine z_run hk hX8_carryOut_0 13 2 (pc' := 19) (lv' := [some (.inr (.inl a0)), some (.inl a1), some (.inl x2), some (.inl x4), none, none]) (st' := [.inr (.inl a0)]) rfl ?_
  refine z_gR hk 16 (z_row hX8_carryOut_0 15 rfl) (ci := 8) rfl rfl wd_1138 (fun x5 => ?_)
  refine z_run hk hX8_carryOut_0 16 3 (pc' := 25) (lv' := [some (.inr (.inl a0)), some (.inl a1), some (.inl x2), some (.inl x4), none, none]) (st' := [.inl (a1 + 3), .inr (.inl x5)]) rfl ?_
  refine z_aI hk (z_row hX8_carryOut_0 19 rfl) (fun x6 => ?_)
  refine z_run hk hX8_carryOut_0 20 4 (pc' := 32) (lv' := [some (.inr (.inl a0)), some (.inl a1), some (.inl x2), some (.inl x4), some (.inl x6), some (.inl 0)]) (st' := [.inr (.inl a0)]) rfl ?_
  refine z_gR hk 16 (z_row hX8_carryOut_0 24 rfl) (ci := 8) rfl rfl wd_1138 (fun x7 => ?_)
  refine z_run hk hX8_carryOut_0 25 1 (pc' := 36) (lv' := [some (.inr (.inl a0)), some (.inl a1), some (.inl x2), some (.inl x4), some (.inl x6), some (.inl 0)]) (st' := [.inl a1, .inr (.inl x7)]) rfl ?_
  refine z_aI hk (z_row hX8_carryOut_0 26 rfl) (fun x8 => ?_)
  refine z_lkI hk (z_row hX8_carryOut_0 27 rfl) (c := 97) (tgt := 131) (by decide) (by decide) ?_ (fun hn0 => ?_)
  · refine z_run hk hX8_carryOut_0 50 4 (pc' := 136) (lv' := [some (.inr (.inl a0)), some (.inl a1), some (.inl x2), some (.inl x4), some (.inl x6), some (.inl 0)]) (st' := [.inl x6, .inl x4, .inl x2, .inr (.inl a0)]) rfl ?_
    refine kX8_order F hk (z_row hX8_carryOut_0 54 rfl) wd_1528 (by decide) (Nat.le_of_ble_eq_true rfl) (fun x9 σ10 => ?_)
    refine z_run hk hX8_carryOut_0 55 1 (pc' := 141) (lv' := [some (.inr (.inl a0)), some (.inl a1), some (.inl x2), some (.inl x4), some (.inl x6), some (.inl x9)]) (st' := []) rfl ?_
    refine z_goto hk (z_row hX8_carryOut_0 56 rfl) (tgt := 152) rfl ?_
    refine z_mask [false, false, false, false, false, false] rfl ?_
    exact gsX8_carryOut_152 F n hk he σ10
  refine z_lkI hk (z_row hX8_carryOut_0 27 rfl) (c := 98) (tgt := 118) (by decide) (by decide) ?_ (fun hn1 => ?_)
  · refine z_run hk hX8_carryOut_0 43 4 (pc' := 123) (lv' := [some (.inr (.inl a0)), some (.inl a1), some (.inl x2), some (.inl x4), some (.inl x6), some (.inl 0)]) (st' := [.inl x6, .inl x4, .inl x2, .inr (.inl a0)]) rfl ?_
    refine kX8_bid F hk (z_row hX8_carryOut_0 47 rfl) wd_1527 (by decide) (Nat.le_of_ble_eq_true rfl) (fun x11 σ12 => ?_)
    refine z_run hk hX8_carryOut_0 48 1 (pc' := 128) (lv' := [some (.inr (.inl a0)), some (.inl a1), some (.inl x2), some (.inl x4), some (.inl x6), some (.inl x11)]) (st' := []) rfl ?_
    refine z_goto hk (z_row hX8_carryOut_0 49 rfl) (tgt := 152) rfl ?_
    refine z_mask [false, false, false, false, false, false] rfl ?_
    exact gsX8_carryOut_152 F n hk he σ12
  refine z_lkI hk (z_row hX8_carryOut_0 27 rfl) (c := 104) (tgt := 98) (by decide) (by decide) ?_ (fun hn2 => ?_)
  · refine z_run hk hX8_carryOut_0 33 2 (pc' := 100) (lv' := [some (.inr (.inl a0)), some (.inl a1), some (.inl x2), some (.inl x4), some (.inl x6), some (.inl 0)]) (st' := [.inl x2, .inr (.inl a0)]) rfl ?_
    refine kX8_close F hk (z_row hX8_carryOut_0 35 rfl) wd_1525 (by decide) (Nat.le_of_ble_eq_true rfl) (fun x13 σ14 => ?_)
    refine z_run hk hX8_carryOut_0 36 1 (pc' := 105) (lv' := [some (.inr (.inl a0)), some (.inl a1), some (.inl x2), some (.inl x4), some (.inl x6), some (.inl x13)]) (st' := []) rfl ?_
    refine z_goto hk (z_row hX8_carryOut_0 37 rfl) (tgt := 152) rfl ?_
    refine z_mask [false, false, false, false, false, false] rfl ?_
    exact gsX8_carryOut_152 F n hk he σ14
  refine z_lkI hk (z_row hX8_carryOut_0 27 rfl) (c := 111) (tgt := 88) (by decide) (by decide) ?_ (fun hn3 => ?_)
  · refine z_run hk hX8_carryOut_0 28 2 (pc' := 90) (lv' := [some (.inr (.inl a0)), some (.inl a1), some (.inl x2), some (.inl x4), some (.inl x6), some (.inl 0)]) (st' := [.inl x2, .inr (.inl a0)]) rfl ?_
    refine kX8_open F hk (z_row hX8_carryOut_0 30 rfl) wd_1524 (by decide) (Nat.le_of_ble_eq_true rfl) (fun x15 σ16 => ?_)
    refine z_run hk hX8_carryOut_0 31 1 (pc' := 95) (lv' := [some (.inr (.inl a0)), some (.inl a1), some (.inl x2), some (.inl x4), some (.inl x6), some (.inl x15)]) (st' := []) rfl ?_
    refine z_goto hk (z_row hX8_carryOut_0 32 rfl) (tgt := 152) rfl ?_
    refine z_mask [false, false, false, false, false, false] rfl ?_
    exact gsX8_carryOut_152 F n hk he σ16
  refine z_lkI hk (z_row hX8_carryOut_0 27 rfl) (c := 119) (tgt := 108) (by decide) (by decide) ?_ (fun hn4 => ?_)
  · refine z_run hk hX8_carryOut_0 38 2 (pc' := 110) (lv' := [some (.inr (.inl a0)), some (.inl a1), some (.inl x2), some (.inl x4), some (.inl x6), some (.inl 0)]) (st' := [.inl x2, .inr (.inl a0)]) rfl ?_
    refine kX8_withdraw F hk (z_row hX8_carryOut_0 40 rfl) wd_1526 (by decide) (Nat.le_of_ble_eq_true rfl) (fun x17 σ18 => ?_)
    refine z_run hk hX8_carryOut_0 41 1 (pc' := 115) (lv' := [some (.inr (.inl a0)), some (.inl a1), some (.inl x2), some (.inl x4), some (.inl x6), some (.inl x17)]) (st' := []) rfl ?_
    refine z_goto hk (z_row hX8_carryOut_0 42 rfl) (tgt := 152) rfl ?_
    refine z_mask [false, false, false, false, false, false] rfl ?_
    exact gsX8_carryOut_152 F n hk he σ18
  refine z_lkO hk (z_row hX8_carryOut_0 27 rfl) (tgt := 144) (by decide) (by rw [lv_osw hn0 (by decide), lv_osw hn1 (by decide), lv_osw hn2 (by decide), lv_osw hn3 (by decide), lv_osw hn4 (by decide), Op.lookupswitch.offset_nil]) rfl ?_
  refine z_run hk hX8_carryOut_0 57 3 (pc' := 147) (lv' := [some (.inr (.inl a0)), some (.inl a1), some (.inl x2), some (.inl x4), some (.inl x6), some (.inl 0)]) (st' := [.inl x4, .inl x2, .inr (.inl a0)]) rfl ?_
  refine kX8_cancel F hk (z_row hX8_carryOut_1 0 rfl) wd_1529 (by decide) (Nat.le_of_ble_eq_true rfl) (fun x19 σ20 => ?_)
  refine z_run hk hX8_carryOut_1 1 1 (pc' := 152) (lv' := [some (.inr (.inl a0)), some (.inl a1), some (.inl x2), some (.inl x4), some (.inl x6), some (.inl x19)]) (st' := []) rfl ?_
  refine z_mask [false, false, false, false, false, false] rfl ?_
  exact gsX8_carryOut_152 F n hk he σ20
theorem kX8_carryOut {n : Nat} {own : String} {cc : ByteArray} {nL h index : Nat} {α : Type} {fin : α → zO} {σ : zW} {pc : Nat} {lv : zLV} {st : List zV} {a0 : Nat} {a1 : Int32} {c : zW → Option α} (F : zFx E) (hk : zk E K own cc nL h) (hd : decode cc pc = .ok (.invokevirtual index, 3)) (hl : Cond.methodLink own index qX8_carryOut ∈ lw_tbl) (hh : 11 + 1 ≤ h) (hs : zcat st ≤ 8) (k : ∀ s, zG E K fin (c s) s (pc + 3) lv st) : zG E K fin (zck σ 9 a0 (zb (fX8_carryOut n a0 a1 σ) c)) σ pc lv (.inl a1 :: .inr (.inl a0) :: st) :=
  z_vV (n := 1) (y := qX8_carryOut) (As := [.inl a1]) hk hd hl wd_1522 ws_58 wd_10 wd_1523 ⟨by decide, by decide, by decide +kernel⟩ ⟨hh, by decide⟩ (ci := 8) rfl rfl rfl (fun o ho => mX8_carryOut F n a0 a1 σ o ho) hs k
abbrev qX8_read : MethodName := { cls := "LotSalesModel", name := "read", desc := "()I" }
def sX8_read_119 (n : Nat) (r84 : Nat → Int32 → zW → Option (Int32 × zW)) (v0 : Nat) (y0 : Int32) (y1 : Int32) (σ : zW) : Option (Int32 × zW) := r84 v0 (y0 + y1) σ
def sX8_read_124 (n : Nat) (v0 : Nat) (v1 : Int32) (σ : zW) : Option (Int32 × zW) := zpI σ 9 v0 0 0 fun σ1 => some (v1, σ1)
def sX8_read_84 (n : Nat) : Nat → Nat → Int32 → zW → Option (Int32 × zW)
  | 0, _, _, _ => none
  | k + 1, v0, v1, σ => zgI σ 9 v0 17 fun x2 => if v1 < x2 then zgI σ 9 v0 0 fun x3 => if x3 = 0 then zck σ 9 v0 (zb (fX8_carryOut n v0 (4 * v1) σ) fun σ4 => zgI σ4 9 v0 0 fun x5 => if x5 = 0 then sX8_read_119 n (sX8_read_84 n k) v0 v1 1 σ4 else sX8_read_119 n (sX8_read_84 n k) v0 v1 0 σ4) else sX8_read_124 n v0 v1 σ else sX8_read_124 n v0 v1 σ
def sX8_read_68 (n : Nat) (v0 : Nat) (σ : zW) : Option (Int32 × zW) := zgI σ 9 v0 15 fun x6 => if x6 = (-1) then sX8_read_84 n n v0 0 σ else zck σ 9 v0 (zb2 (fX8_fail n v0 1 σ) fun x7 σ8 => some (x7, σ8))
def sX8_read_37 (n : Nat) : Nat → Nat → zW → Option (Int32 × zW)
  | 0, _, _ => none
  | k + 1, v0, σ => zck σ 9 v0 (zb2 (fX8_goes n v0 59 σ) fun x9 σ10 => if x9 = 0 then zgI σ10 9 v0 14 fun x11 => zgI σ10 9 v0 13 fun x12 => if x11 < x12 then zck σ10 9 v0 (zb (fX8_faultHere n v0 σ10) fun σ13 => sX8_read_68 n v0 σ13) else sX8_read_68 n v0 σ10 else zck σ10 9 v0 (zb (fX8_command n v0 σ10) fun σ14 => sX8_read_37 n k v0 σ14))
def fX8_read (n : Nat) (a0 : Nat) (σ : zW) : Option (Int32 × zW) := zpI σ 9 a0 0 0 fun σ15 => zgI σ15 9 a0 12 fun x16 => zpI σ15 9 a0 13 x16 fun σ17 => zpI σ17 9 a0 12 0 fun σ18 => zpI σ18 9 a0 14 0 fun σ19 => zpI σ19 9 a0 15 (-1) fun σ20 => zpI σ20 9 a0 17 0 fun σ21 => zck σ21 9 a0 (zb (fX8_command n a0 σ21) fun σ22 => sX8_read_37 n n a0 σ22)
theorem gsX8_read_119 (F : zFx E) (n : Nat) (hk : zk E K "LotSalesModel" cX8_read 2 12) (he : zend E K (some .int) "read") (r84 : Nat → Int32 → zW → Option (Int32 × zW)) (hr84 : ∀ (v0 : Nat) (v1 : Int32) (σ : zW), zG E K zfW (r84 v0 v1 σ) σ 84 [some (.inr (.inl v0)), some (.inl v1)] []) (v0 : Nat) (y0 : Int32) (y1 : Int32) (σ : zW) : zG E K zfW (sX8_read_119 n r84 v0 y0 y1 σ) σ 119 [some (.inr (.inl v0)), none] [.inl y1, .inl y0] := by
  unfold sX8_read_119
  refine z_run hk hX8_read_1 4 2 (pc' := 121) (lv' := [some (.inr (.inl v0)), some (.inl (y0 + y1))]) (st' := []) rfl ?_
  refine z_goto hk (z_row hX8_read_1 6 rfl) (tgt := 84) rfl ?_
  exact hr84 v0 (y0 + y1) σ
theorem gsX8_read_124 (F : zFx E) (n : Nat) (hk : zk E K "LotSalesModel" cX8_read 2 12) (he : zend E K (some .int) "read") (v0 : Nat) (v1 : Int32) (σ : zW) : zG E K zfW (sX8_read_124 n v0 v1 σ) σ 124 [some (.inr (.inl v0)), some (.inl v1)] [] := by
  unfold sX8_read_124
  refine z_run hk hX8_read_1 7 2 (pc' := 126) (lv' := [some (.inr (.inl v0)), some (.inl v1)]) (st' := [.inl 0, .inr (.inl v0)]) rfl ?_
  refine z_pI hk 0 (z_row hX8_read_1 9 rfl) (ci := 8) rfl rfl wd_1122 rfl rfl rfl (fun σ1 => ?_)
  refine z_run hk hX8_read_1 10 1 (pc' := 130) (lv' := [some (.inr (.inl v0)), some (.inl v1)]) (st' := [.inl v1]) rfl ?_
  exact z_iret hk he (z_row hX8_read_1 11 rfl) rfl
theorem gsX8_read_84 (F : zFx E) (n : Nat) (hk : zk E K "LotSalesModel" cX8_read 2 12) (he : zend E K (some .int) "read") : ∀ (k : Nat) (v0 : Nat) (v1 : Int32) (σ : zW), zG E K zfW (sX8_read_84 n k v0 v1 σ) σ 84 [some (.inr (.inl v0)), some (.inl v1)] [] := by
  intro k
  induction k with
  | zero =>
    intro v0 v1 σ
    intro hX
    exact z_none hX
  | succ k ih =>
    intro v0 v1 σ
    rw [sX8_read_84]
    refine z_run hk hX8_read_0 45 2 (pc' := 86) (lv' := [some (.inr (.inl v0)), some (.inl v1)]) (st' := [.inr (.inl v0), .inl v1]) rfl ?_
    refine z_gI hk 17 (z_row hX8_read_0 47 rfl) (ci := 8) rfl rfl wd_1139 (fun x2 => ?_)
    refine z_cge hk (z_row hX8_read_0 48 rfl) (tgt := 124) rfl ?_ ?_
    · exact gsX8_read_124 F n hk he v0 v1 σ
    · refine z_run hk hX8_read_0 49 1 (pc' := 93) (lv' := [some (.inr (.inl v0)), some (.inl v1)]) (st' := [.inr (.inl v0)]) rfl ?_
      refine z_gI hk 0 (z_row hX8_read_0 50 rfl) (ci := 8) rfl rfl wd_1122 (fun x3 => ?_)
      refine z_ne hk (z_row hX8_read_0 51 rfl) (tgt := 124) rfl ?_ ?_
      · exact gsX8_read_124 F n hk he v0 v1 σ
      · refine z_run hk hX8_read_0 52 4 (pc' := 103) (lv' := [some (.inr (.inl v0)), some (.inl v1)]) (st' := [.inl (4 * v1), .inr (.inl v0)]) rfl ?_
        refine kX8_carryOut F hk (z_row hX8_read_0 56 rfl) wd_1520 (by decide) (Nat.le_of_ble_eq_true rfl) (fun σ4 => ?_)
        refine z_run hk hX8_read_0 57 2 (pc' := 108) (lv' := [some (.inr (.inl v0)), some (.inl v1)]) (st' := [.inr (.inl v0), .inl v1]) rfl ?_
        refine z_gI hk 0 (z_row hX8_read_0 59 rfl) (ci := 8) rfl rfl wd_1122 (fun x5 => ?_)
        refine z_ne hk (z_row hX8_read_1 0 rfl) (tgt := 118) rfl ?_ ?_
        · refine z_run hk hX8_read_1 3 1 (pc' := 119) (lv' := [some (.inr (.inl v0)), some (.inl v1)]) (st' := [.inl 0, .inl v1]) rfl ?_
          refine z_mask [true, false] rfl ?_
          exact gsX8_read_119 F n hk he (sX8_read_84 n k) ih v0 v1 0 σ4
        · refine z_run hk hX8_read_1 1 1 (pc' := 115) (lv' := [some (.inr (.inl v0)), some (.inl v1)]) (st' := [.inl 1, .inl v1]) rfl ?_
          refine z_goto hk (z_row hX8_read_1 2 rfl) (tgt := 119) rfl ?_
          refine z_mask [true, false] rfl ?_
          exact gsX8_read_119 F n hk he (sX8_read_84 n k) ih v0 v1 1 σ4
theorem gsX8_read_68 (F : zFx E) (n : Nat) (hk : zk E K "LotSalesModel" cX8_read 2 12) (he : zend E K (some .int) "read") (v0 : Nat) (σ : zW) : zG E K zfW (sX8_read_68 n v0 σ) σ 68 [some (.inr (.inl v0)), none] [] := by
  unfold sX8_read_68
  refine z_run hk hX8_read_0 35 1 (pc' := 69) (lv' := [some (.inr (.inl v0)), none]) (st' := [.inr (.inl v0)]) rfl ?_
  refine z_gI hk 15 (z_row hX8_read_0 36 rfl) (ci := 8) rfl rfl wd_1137 (fun x6 => ?_)
  refine z_run hk hX8_read_0 37 1 (pc' := 73) (lv' := [some (.inr (.inl v0)), none]) (st' := [.inl (-1), .inl x6]) rfl ?_
  refine z_ceq hk (z_row hX8_read_0 38 rfl) (tgt := 82) rfl ?_ ?_
  · refine z_run hk hX8_read_0 43 2 (pc' := 84) (lv' := [some (.inr (.inl v0)), some (.inl 0)]) (st' := []) rfl ?_
    exact gsX8_read_84 F n hk he n v0 0 σ
  · refine z_run hk hX8_read_0 39 2 (pc' := 78) (lv' := [some (.inr (.inl v0)), none]) (st' := [.inl 1, .inr (.inl v0)]) rfl ?_
    refine kX8_fail F hk (z_row hX8_read_0 41 rfl) wd_1221 (by decide) (Nat.le_of_ble_eq_true rfl) (fun x7 σ8 => ?_)
    exact z_iret hk he (z_row hX8_read_0 42 rfl) rfl
theorem gsX8_read_37 (F : zFx E) (n : Nat) (hk : zk E K "LotSalesModel" cX8_read 2 12) (he : zend E K (some .int) "read") : ∀ (k : Nat) (v0 : Nat) (σ : zW), zG E K zfW (sX8_read_37 n k v0 σ) σ 37 [some (.inr (.inl v0)), none] [] := by
  intro k
  induction k with
  | zero =>
    intro v0 σ
    intro hX
    exact z_none hX
  | succ k ih =>
    intro v0 σ
    rw [sX8_read_37]
    refine z_run hk hX8_read_0 21 2 (pc' := 40) (lv' := [some (.inr (.inl v0)), none]) (st' := [.inl 59, .inr (.inl v0)]) rfl ?_
    refine kX8_goes F hk (z_row hX8_read_0 23 rfl) wd_1512 (by decide) (Nat.le_of_ble_eq_true rfl) (fun x9 σ10 => ?_)
    refine z_eq hk (z_row hX8_read_0 24 rfl) (tgt := 53) rfl ?_ ?_
    · refine z_run hk hX8_read_0 28 1 (pc' := 54) (lv' := [some (.inr (.inl v0)), none]) (st' := [.inr (.inl v0)]) rfl ?_
      refine z_gI hk 14 (z_row hX8_read_0 29 rfl) (ci := 8) rfl rfl wd_1136 (fun x11 => ?_)
      refine z_run hk hX8_read_0 30 1 (pc' := 58) (lv' := [some (.inr (.inl v0)), none]) (st' := [.inr (.inl v0), .inl x11]) rfl ?_
      refine z_gI hk 13 (z_row hX8_read_0 31 rfl) (ci := 8) rfl rfl wd_1135 (fun x12 => ?_)
      refine z_cge hk (z_row hX8_read_0 32 rfl) (tgt := 68) rfl ?_ ?_
      · exact gsX8_read_68 F n hk he v0 σ10
      · refine z_run hk hX8_read_0 33 1 (pc' := 65) (lv' := [some (.inr (.inl v0)), none]) (st' := [.inr (.inl v0)]) rfl ?_
        refine kX8_faultHere F hk (z_row hX8_read_0 34 rfl) wd_1508 (by decide) (Nat.le_of_ble_eq_true rfl) (fun σ13 => ?_)
        exact gsX8_read_68 F n hk he v0 σ13
    · refine z_run hk hX8_read_0 25 1 (pc' := 47) (lv' := [some (.inr (.inl v0)), none]) (st' := [.inr (.inl v0)]) rfl ?_
      refine kX8_command F hk (z_row hX8_read_0 26 rfl) wd_1497 (by decide) (Nat.le_of_ble_eq_true rfl) (fun σ14 => ?_)
      refine z_goto hk (z_row hX8_read_0 27 rfl) (tgt := 37) rfl ?_
      exact ih v0 σ14
theorem mX8_read (F : zFx E) (n : Nat) (a0 : Nat) (σ : zW) (o : Int32 × zW) (hf : fX8_read n a0 σ = some o) : zM E qX8_read cX8_read 2 (some .int) 12 [.inr (.inl a0)] σ (some (.int o.1)) o.2 := by
  refine zM_of (fin := zfW) F (by decide +kernel) rfl (Nat.le_of_ble_eq_true rfl) (lv0 := [some (.inr (.inl a0)), none]) rfl hf rfl (fun K hk he => ?_)
  have hk : zk E K "LotSalesModel" cX8_read 2 12 := hk
  unfold fX8_read
  refine z_run hk hX8_read_0 0 2 (pc' := 2) (lv' := [some (.inr (.inl a0)), none]) (st' := [.inl 0, .inr (.inl a0)]) rfl ?_
  refine z_pI hk 0 (z_row hX8_read_0 2 rfl) (ci := 8) rfl rfl wd_1122 rfl rfl rfl (fun σ15 => ?_)
  refine z_run hk hX8_read_0 3 2 (pc' := 7) (lv' := [some (.inr (.inl a0)), none]) (st' := [.inr (.inl a0), .inr (.inl a0)]) rfl ?_
  refine z_gI hk 12 (z_row hX8_read_0 5 rfl) (ci := 8) rfl rfl wd_1134 (fun x16 => ?_)
  refine z_pI hk 13 (z_row hX8_read_0 6 rfl) (ci := 8) rfl rfl wd_1135 rfl rfl rfl (fun σ17 => ?_)
  refine z_run hk hX8_read_0 7 2 (pc' := 15) (lv' := [some (.inr (.inl a0)), none]) (st' := [.inl 0, .inr (.inl a0)]) rfl ?_
  refine z_pI hk 12 (z_row hX8_read_0 9 rfl) (ci := 8) rfl rfl wd_1134 rfl rfl rfl (fun σ18 => ?_)
  refine z_run hk hX8_read_0 10 2 (pc' := 20) (lv' := [some (.inr (.inl a0)), none]) (st' := [.inl 0, .inr (.inl a0)]) rfl ?_
  refine z_pI hk 14 (z_row hX8_read_0 12 rfl) (ci := 8) rfl rfl wd_1136 rfl rfl rfl (fun σ19 => ?_)
  refine z_run hk hX8_read_0 13 2 (pc' := 25) (lv' := [some (.inr (.inl a0)), none]) (st' := [.inl (-1), .inr (.inl a0)]) rfl ?_
  refine z_pI hk 15 (z_row hX8_read_0 15 rfl) (ci := 8) rfl rfl wd_1137 rfl rfl rfl (fun σ20 => ?_)
  refine z_run hk hX8_read_0 16 2 (pc' := 30) (lv' := [some (.inr (.inl a0)), none]) (st' := [.inl 0, .inr (.inl a0)]) rfl ?_
  refine z_pI hk 17 (z_row hX8_read_0 18 rfl) (ci := 8) rfl rfl wd_1139 rfl rfl rfl (fun σ21 => ?_)
  refine z_run hk hX8_read_0 19 1 (pc' := 34) (lv' := [some (.inr (.inl a0)), none]) (st' := [.inr (.inl a0)]) rfl ?_
  refine kX8_command F hk (z_row hX8_read_0 20 rfl) wd_1497 (by decide) (Nat.le_of_ble_eq_true rfl) (fun σ22 => ?_)
  exact gsX8_read_37 F n hk he n a0 σ22
theorem kX8_read {n : Nat} {own : String} {cc : ByteArray} {nL h index : Nat} {α : Type} {fin : α → zO} {σ : zW} {pc : Nat} {lv : zLV} {st : List zV} {a0 : Nat} {c : Int32 → zW → Option α} (F : zFx E) (hk : zk E K own cc nL h) (hd : decode cc pc = .ok (.invokevirtual index, 3)) (hl : Cond.methodLink own index qX8_read ∈ lw_tbl) (hh : 12 + 1 ≤ h) (hs : zcat st ≤ 8) (k : ∀ v s, zG E K fin (c v s) s (pc + 3) lv (.inl v :: st)) : zG E K fin (zck σ 9 a0 (zb2 (fX8_read n a0 σ) c)) σ pc lv (.inr (.inl a0) :: st) :=
  z_vW (n := 0) (y := qX8_read) (As := []) hk hd hl wd_1494 wd_1495 wd_10 wd_1496 ⟨by decide, by decide, by decide +kernel⟩ ⟨hh, by decide⟩ (ci := 8) rfl rfl rfl (fun o ho => mX8_read F n a0 σ o ho) hs k
abbrev qX8_faultPosition : MethodName := { cls := "LotSalesModel", name := "faultPosition", desc := "()I" }
def fX8_faultPosition (n : Nat) (a0 : Nat) (σ : zW) : Option (Int32 × zW) := zpI σ 9 a0 0 0 fun σ1 => zgI σ1 9 a0 15 fun x2 => some (x2, σ1)
theorem mX8_faultPosition (F : zFx E) (n : Nat) (a0 : Nat) (σ : zW) (o : Int32 × zW) (hf : fX8_faultPosition n a0 σ = some o) : zM E qX8_faultPosition cX8_faultPosition 1 (some .int) 0 [.inr (.inl a0)] σ (some (.int o.1)) o.2 := by
  refine zM_of (fin := zfW) F (by decide +kernel) rfl (Nat.le_of_ble_eq_true rfl) (lv0 := [some (.inr (.inl a0))]) rfl hf rfl (fun K hk he => ?_)
  have hk : zk E K "LotSalesModel" cX8_faultPosition 1 0 := hk
  unfold fX8_faultPosition
  refine z_run hk hX8_faultPosition_0 0 2 (pc' := 2) (lv' := [some (.inr (.inl a0))]) (st' := [.inl 0, .inr (.inl a0)]) rfl ?_
  refine z_pI hk 0 (z_row hX8_faultPosition_0 2 rfl) (ci := 8) rfl rfl wd_1122 rfl rfl rfl (fun σ1 => ?_)
  refine z_run hk hX8_faultPosition_0 3 1 (pc' := 6) (lv' := [some (.inr (.inl a0))]) (st' := [.inr (.inl a0)]) rfl ?_
  refine z_gI hk 15 (z_row hX8_faultPosition_0 4 rfl) (ci := 8) rfl rfl wd_1137 (fun x2 => ?_)
  exact z_iret hk he (z_row hX8_faultPosition_0 5 rfl) rfl
theorem kX8_faultPosition {n : Nat} {own : String} {cc : ByteArray} {nL h index : Nat} {α : Type} {fin : α → zO} {σ : zW} {pc : Nat} {lv : zLV} {st : List zV} {a0 : Nat} {c : Int32 → zW → Option α} (F : zFx E) (hk : zk E K own cc nL h) (hd : decode cc pc = .ok (.invokevirtual index, 3)) (hl : Cond.methodLink own index qX8_faultPosition ∈ lw_tbl) (hh : 0 + 1 ≤ h) (hs : zcat st ≤ 8) (k : ∀ v s, zG E K fin (c v s) s (pc + 3) lv (.inl v :: st)) : zG E K fin (zck σ 9 a0 (zb2 (fX8_faultPosition n a0 σ) c)) σ pc lv (.inr (.inl a0) :: st) :=
  z_vW (n := 0) (y := qX8_faultPosition) (As := []) hk hd hl wd_1531 wd_1532 wd_10 wd_1533 ⟨by decide, by decide, by decide +kernel⟩ ⟨hh, by decide⟩ (ci := 8) rfl rfl rfl (fun o ho => mX8_faultPosition F n a0 σ o ho) hs k
abbrev qX8_undo : MethodName := { cls := "LotSalesModel", name := "undo", desc := "()I" }
def sX8_undo_30 (n : Nat) : Nat → Nat → Int32 → zW → Option (Int32 × zW)
  | 0, _, _, _ => none
  | k + 1, v0, v1, σ => if v1 < 1992 then zgR σ 9 v0 1 fun x2 => zgR σ 9 v0 2 fun x3 => zgI σ 9 v0 3 fun x4 => zaI σ x3 ((1992 * x4) + v1) fun x5 => zsI σ x2 v1 x5 fun σ6 => sX8_undo_30 n k v0 (v1 + 1) σ6 else zgI σ 9 v0 3 fun x1 => some (x1, σ)
def fX8_undo (n : Nat) (a0 : Nat) (σ : zW) : Option (Int32 × zW) := zpI σ 9 a0 0 0 fun σ7 => zgI σ7 9 a0 3 fun x8 => if x8 = 0 then zck σ7 9 a0 (zb2 (fX8_fail n a0 1 σ7) fun x11 σ12 => some (x11, σ12)) else zgI σ7 9 a0 3 fun x9 => zpI σ7 9 a0 3 (x9 - 1) fun σ10 => sX8_undo_30 n n a0 0 σ10
theorem gsX8_undo_30 (F : zFx E) (n : Nat) (hk : zk E K "LotSalesModel" cX8_undo 2 1) (he : zend E K (some .int) "undo") : ∀ (k : Nat) (v0 : Nat) (v1 : Int32) (σ : zW), zG E K zfW (sX8_undo_30 n k v0 v1 σ) σ 30 [some (.inr (.inl v0)), some (.inl v1)] [] := by
  intro k
  induction k with
  | zero =>
    intro v0 v1 σ
    intro hX
    exact z_none hX
  | succ k ih =>
    intro v0 v1 σ
    rw [sX8_undo_30]
    refine z_run hk hX8_undo_0 18 2 (pc' := 34) (lv' := [some (.inr (.inl v0)), some (.inl v1)]) (st' := [.inl 1992, .inl v1]) rfl ?_
    refine z_cge hk (z_row hX8_undo_0 20 rfl) (tgt := 64) rfl ?_ ?_
    · refine z_run hk hX8_undo_0 36 1 (pc' := 65) (lv' := [some (.inr (.inl v0)), some (.inl v1)]) (st' := [.inr (.inl v0)]) rfl ?_
      refine z_gI hk 3 (z_row hX8_undo_0 37 rfl) (ci := 8) rfl rfl wd_1125 (fun x1 => ?_)
      exact z_iret hk he (z_row hX8_undo_0 38 rfl) rfl
    · refine z_run hk hX8_undo_0 21 1 (pc' := 38) (lv' := [some (.inr (.inl v0)), some (.inl v1)]) (st' := [.inr (.inl v0)]) rfl ?_
      refine z_gR hk 1 (z_row hX8_undo_0 22 rfl) (ci := 8) rfl rfl wd_1123 (fun x2 => ?_)
      refine z_run hk hX8_undo_0 23 2 (pc' := 43) (lv' := [some (.inr (.inl v0)), some (.inl v1)]) (st' := [.inr (.inl v0), .inl v1, .inr (.inl x2)]) rfl ?_
      refine z_gR hk 2 (z_row hX8_undo_0 25 rfl) (ci := 8) rfl rfl wd_1124 (fun x3 => ?_)
      refine z_run hk hX8_undo_0 26 2 (pc' := 50) (lv' := [some (.inr (.inl v0)), some (.inl v1)]) (st' := [.inr (.inl v0), .inl 1992, .inr (.inl x3), .inl v1, .inr (.inl x2)]) rfl ?_
      refine z_gI hk 3 (z_row hX8_undo_0 28 rfl) (ci := 8) rfl rfl wd_1125 (fun x4 => ?_)
      refine z_run hk hX8_undo_0 29 3 (pc' := 56) (lv' := [some (.inr (.inl v0)), some (.inl v1)]) (st' := [.inl ((1992 * x4) + v1), .inr (.inl x3), .inl v1, .inr (.inl x2)]) rfl ?_
      refine z_aI hk (z_row hX8_undo_0 32 rfl) (fun x5 => ?_)
      refine z_sI hk (z_row hX8_undo_0 33 rfl) (fun σ6 => ?_)
      refine z_run hk hX8_undo_0 34 1 (pc' := 61) (lv' := [some (.inr (.inl v0)), some (.inl (v1 + 1))]) (st' := []) rfl ?_
      refine z_goto hk (z_row hX8_undo_0 35 rfl) (tgt := 30) rfl ?_
      exact ih v0 (v1 + 1) σ6
theorem mX8_undo (F : zFx E) (n : Nat) (a0 : Nat) (σ : zW) (o : Int32 × zW) (hf : fX8_undo n a0 σ = some o) : zM E qX8_undo cX8_undo 2 (some .int) 1 [.inr (.inl a0)] σ (some (.int o.1)) o.2 := by
  refine zM_of (fin := zfW) F (by decide +kernel) rfl (Nat.le_of_ble_eq_true rfl) (lv0 := [some (.inr (.inl a0)), none]) rfl hf rfl (fun K hk he => ?_)
  have hk : zk E K "LotSalesModel" cX8_undo 2 1 := hk
  unfold fX8_undo
  refine z_run hk hX8_undo_0 0 2 (pc' := 2) (lv' := [some (.inr (.inl a0)), none]) (st' := [.inl 0, .inr (.inl a0)]) rfl ?_
  refine z_pI hk 0 (z_row hX8_undo_0 2 rfl) (ci := 8) rfl rfl wd_1122 rfl rfl rfl (fun σ7 => ?_)
  refine z_run hk hX8_undo_0 3 1 (pc' := 6) (lv' := [some (.inr (.inl a0)), none]) (st' := [.inr (.inl a0)]) rfl ?_
  refine z_gI hk 3 (z_row hX8_undo_0 4 rfl) (ci := 8) rfl rfl wd_1125 (fun x8 => ?_)
  refine z_ne hk (z_row hX8_undo_0 5 rfl) (tgt := 18) rfl ?_ ?_
  · refine z_run hk hX8_undo_0 10 2 (pc' := 20) (lv' := [some (.inr (.inl a0)), none]) (st' := [.inr (.inl a0), .inr (.inl a0)]) rfl ?_
    refine z_gI hk 3 (z_row hX8_undo_0 12 rfl) (ci := 8) rfl rfl wd_1125 (fun x9 => ?_)
    refine z_run hk hX8_undo_0 13 2 (pc' := 25) (lv' := [some (.inr (.inl a0)), none]) (st' := [.inl (x9 - 1), .inr (.inl a0)]) rfl ?_
    refine z_pI hk 3 (z_row hX8_undo_0 15 rfl) (ci := 8) rfl rfl wd_1125 rfl rfl rfl (fun σ10 => ?_)
    refine z_run hk hX8_undo_0 16 2 (pc' := 30) (lv' := [some (.inr (.inl a0)), some (.inl 0)]) (st' := []) rfl ?_
    exact gsX8_undo_30 F n hk he n a0 0 σ10
  · refine z_run hk hX8_undo_0 6 2 (pc' := 14) (lv' := [some (.inr (.inl a0)), none]) (st' := [.inl 1, .inr (.inl a0)]) rfl ?_
    refine kX8_fail F hk (z_row hX8_undo_0 8 rfl) wd_1221 (by decide) (Nat.le_of_ble_eq_true rfl) (fun x11 σ12 => ?_)
    exact z_iret hk he (z_row hX8_undo_0 9 rfl) rfl
theorem kX8_undo {n : Nat} {own : String} {cc : ByteArray} {nL h index : Nat} {α : Type} {fin : α → zO} {σ : zW} {pc : Nat} {lv : zLV} {st : List zV} {a0 : Nat} {c : Int32 → zW → Option α} (F : zFx E) (hk : zk E K own cc nL h) (hd : decode cc pc = .ok (.invokevirtual index, 3)) (hl : Cond.methodLink own index qX8_undo ∈ lw_tbl) (hh : 1 + 1 ≤ h) (hs : zcat st ≤ 8) (k : ∀ v s, zG E K fin (c v s) s (pc + 3) lv (.inl v :: st)) : zG E K fin (zck σ 9 a0 (zb2 (fX8_undo n a0 σ) c)) σ pc lv (.inr (.inl a0) :: st) :=
  z_vW (n := 0) (y := qX8_undo) (As := []) hk hd hl wd_1535 wd_1536 wd_10 wd_1537 ⟨by decide, by decide, by decide +kernel⟩ ⟨hh, by decide⟩ (ci := 8) rfl rfl rfl (fun o ho => mX8_undo F n a0 σ o ho) hs k
abbrev qX8_save : MethodName := { cls := "LotSalesModel", name := "save", desc := "()V" }
def sX8_save_12 (n : Nat) : Nat → Nat → Int32 → zW → Option (zW)
  | 0, _, _, _ => none
  | k + 1, v0, v1, σ => if v1 < 1992 then zgR σ 9 v0 4 fun x1 => zgR σ 9 v0 1 fun x2 => zaI σ x2 v1 fun x3 => zsI σ x1 v1 x3 fun σ4 => sX8_save_12 n k v0 (v1 + 1) σ4 else some σ
def fX8_save (n : Nat) (a0 : Nat) (σ : zW) : Option (zW) := zpI σ 9 a0 0 0 fun σ5 => zpI σ5 9 a0 5 1 fun σ6 => sX8_save_12 n n a0 0 σ6
theorem gsX8_save_12 (F : zFx E) (n : Nat) (hk : zk E K "LotSalesModel" cX8_save 2 0) (he : zend E K none "save") : ∀ (k : Nat) (v0 : Nat) (v1 : Int32) (σ : zW), zG E K zfV (sX8_save_12 n k v0 v1 σ) σ 12 [some (.inr (.inl v0)), some (.inl v1)] [] := by
  intro k
  induction k with
  | zero =>
    intro v0 v1 σ
    intro hX
    exact z_none hX
  | succ k ih =>
    intro v0 v1 σ
    rw [sX8_save_12]
    refine z_run hk hX8_save_0 8 2 (pc' := 16) (lv' := [some (.inr (.inl v0)), some (.inl v1)]) (st' := [.inl 1992, .inl v1]) rfl ?_
    refine z_cge hk (z_row hX8_save_0 10 rfl) (tgt := 37) rfl ?_ ?_
    · exact z_vret hk he (z_row hX8_save_0 21 rfl) rfl
    · refine z_run hk hX8_save_0 11 1 (pc' := 20) (lv' := [some (.inr (.inl v0)), some (.inl v1)]) (st' := [.inr (.inl v0)]) rfl ?_
      refine z_gR hk 4 (z_row hX8_save_0 12 rfl) (ci := 8) rfl rfl wd_1126 (fun x1 => ?_)
      refine z_run hk hX8_save_0 13 2 (pc' := 25) (lv' := [some (.inr (.inl v0)), some (.inl v1)]) (st' := [.inr (.inl v0), .inl v1, .inr (.inl x1)]) rfl ?_
      refine z_gR hk 1 (z_row hX8_save_0 15 rfl) (ci := 8) rfl rfl wd_1123 (fun x2 => ?_)
      refine z_run hk hX8_save_0 16 1 (pc' := 29) (lv' := [some (.inr (.inl v0)), some (.inl v1)]) (st' := [.inl v1, .inr (.inl x2), .inl v1, .inr (.inl x1)]) rfl ?_
      refine z_aI hk (z_row hX8_save_0 17 rfl) (fun x3 => ?_)
      refine z_sI hk (z_row hX8_save_0 18 rfl) (fun σ4 => ?_)
      refine z_run hk hX8_save_0 19 1 (pc' := 34) (lv' := [some (.inr (.inl v0)), some (.inl (v1 + 1))]) (st' := []) rfl ?_
      refine z_goto hk (z_row hX8_save_0 20 rfl) (tgt := 12) rfl ?_
      exact ih v0 (v1 + 1) σ4
theorem mX8_save (F : zFx E) (n : Nat) (a0 : Nat) (σ : zW) (o : zW) (hf : fX8_save n a0 σ = some o) : zM E qX8_save cX8_save 2 none 0 [.inr (.inl a0)] σ none o := by
  refine zM_of (fin := zfV) F (by decide +kernel) rfl (Nat.le_of_ble_eq_true rfl) (lv0 := [some (.inr (.inl a0)), none]) rfl hf rfl (fun K hk he => ?_)
  have hk : zk E K "LotSalesModel" cX8_save 2 0 := hk
  unfold fX8_save
  refine z_run hk hX8_save_0 0 2 (pc' := 2) (lv' := [some (.inr (.inl a0)), none]) (st' := [.inl 0, .inr (.inl a0)]) rfl ?_
  refine z_pI hk 0 (z_row hX8_save_0 2 rfl) (ci := 8) rfl rfl wd_1122 rfl rfl rfl (fun σ5 => ?_)
  refine z_run hk hX8_save_0 3 2 (pc' := 7) (lv' := [some (.inr (.inl a0)), none]) (st' := [.inl 1, .inr (.inl a0)]) rfl ?_
  refine z_pI hk 5 (z_row hX8_save_0 5 rfl) (ci := 8) rfl rfl wd_1127 rfl (by decide) (by decide) (fun σ6 => ?_)
  refine z_run hk hX8_save_0 6 2 (pc' := 12) (lv' := [some (.inr (.inl a0)), some (.inl 0)]) (st' := []) rfl ?_
  exact gsX8_save_12 F n hk he n a0 0 σ6
theorem kX8_save {n : Nat} {own : String} {cc : ByteArray} {nL h index : Nat} {α : Type} {fin : α → zO} {σ : zW} {pc : Nat} {lv : zLV} {st : List zV} {a0 : Nat} {c : zW → Option α} (F : zFx E) (hk : zk E K own cc nL h) (hd : decode cc pc = .ok (.invokevirtual index, 3)) (hl : Cond.methodLink own index qX8_save ∈ lw_tbl) (hh : 0 + 1 ≤ h) (hs : zcat st ≤ 8) (k : ∀ s, zG E K fin (c s) s (pc + 3) lv st) : zG E K fin (zck σ 9 a0 (zb (fX8_save n a0 σ) c)) σ pc lv (.inr (.inl a0) :: st) :=
  z_vV (n := 0) (y := qX8_save) (As := []) hk hd hl wd_1539 wd_1540 wd_10 wd_1541 ⟨by decide, by decide, by decide +kernel⟩ ⟨hh, by decide⟩ (ci := 8) rfl rfl rfl (fun o ho => mX8_save F n a0 σ o ho) hs k
abbrev qX8_restore : MethodName := { cls := "LotSalesModel", name := "restore", desc := "()V" }
def sX8_restore_31 (n : Nat) : Nat → Nat → Int32 → zW → Option (zW)
  | 0, _, _, _ => none
  | k + 1, v0, v1, σ => if v1 < 1992 then zgR σ 9 v0 1 fun x1 => zgR σ 9 v0 4 fun x2 => zaI σ x2 v1 fun x3 => zsI σ x1 v1 x3 fun σ4 => sX8_restore_31 n k v0 (v1 + 1) σ4 else some σ
def sX8_restore_13 (n : Nat) (v0 : Nat) (y0 : Nat) (y1 : Int32) (σ : zW) : Option (zW) := zpI σ 9 y0 0 y1 fun σ5 => zgI σ5 9 v0 0 fun x6 => if x6 = 0 then zpI σ5 9 v0 3 0 fun σ7 => sX8_restore_31 n n v0 0 σ7 else some σ5
def fX8_restore (n : Nat) (a0 : Nat) (σ : zW) : Option (zW) := zgI σ 9 a0 5 fun x8 => if x8 = 0 then sX8_restore_13 n a0 a0 1 σ else sX8_restore_13 n a0 a0 0 σ
theorem gsX8_restore_31 (F : zFx E) (n : Nat) (hk : zk E K "LotSalesModel" cX8_restore 2 0) (he : zend E K none "restore") : ∀ (k : Nat) (v0 : Nat) (v1 : Int32) (σ : zW), zG E K zfV (sX8_restore_31 n k v0 v1 σ) σ 31 [some (.inr (.inl v0)), some (.inl v1)] [] := by
  intro k
  induction k with
  | zero =>
    intro v0 v1 σ
    intro hX
    exact z_none hX
  | succ k ih =>
    intro v0 v1 σ
    rw [sX8_restore_31]
    refine z_run hk hX8_restore_0 17 2 (pc' := 35) (lv' := [some (.inr (.inl v0)), some (.inl v1)]) (st' := [.inl 1992, .inl v1]) rfl ?_
    refine z_cge hk (z_row hX8_restore_0 19 rfl) (tgt := 56) rfl ?_ ?_
    · exact z_vret hk he (z_row hX8_restore_0 30 rfl) rfl
    · refine z_run hk hX8_restore_0 20 1 (pc' := 39) (lv' := [some (.inr (.inl v0)), some (.inl v1)]) (st' := [.inr (.inl v0)]) rfl ?_
      refine z_gR hk 1 (z_row hX8_restore_0 21 rfl) (ci := 8) rfl rfl wd_1123 (fun x1 => ?_)
      refine z_run hk hX8_restore_0 22 2 (pc' := 44) (lv' := [some (.inr (.inl v0)), some (.inl v1)]) (st' := [.inr (.inl v0), .inl v1, .inr (.inl x1)]) rfl ?_
      refine z_gR hk 4 (z_row hX8_restore_0 24 rfl) (ci := 8) rfl rfl wd_1126 (fun x2 => ?_)
      refine z_run hk hX8_restore_0 25 1 (pc' := 48) (lv' := [some (.inr (.inl v0)), some (.inl v1)]) (st' := [.inl v1, .inr (.inl x2), .inl v1, .inr (.inl x1)]) rfl ?_
      refine z_aI hk (z_row hX8_restore_0 26 rfl) (fun x3 => ?_)
      refine z_sI hk (z_row hX8_restore_0 27 rfl) (fun σ4 => ?_)
      refine z_run hk hX8_restore_0 28 1 (pc' := 53) (lv' := [some (.inr (.inl v0)), some (.inl (v1 + 1))]) (st' := []) rfl ?_
      refine z_goto hk (z_row hX8_restore_0 29 rfl) (tgt := 31) rfl ?_
      exact ih v0 (v1 + 1) σ4
theorem gsX8_restore_13 (F : zFx E) (n : Nat) (hk : zk E K "LotSalesModel" cX8_restore 2 0) (he : zend E K none "restore") (v0 : Nat) (y0 : Nat) (y1 : Int32) (σ : zW) : zG E K zfV (sX8_restore_13 n v0 y0 y1 σ) σ 13 [some (.inr (.inl v0)), none] [.inl y1, .inr (.inl y0)] := by
  unfold sX8_restore_13
  refine z_pI hk 0 (z_row hX8_restore_0 7 rfl) (ci := 8) rfl rfl wd_1122 rfl rfl rfl (fun σ5 => ?_)
  refine z_run hk hX8_restore_0 8 1 (pc' := 17) (lv' := [some (.inr (.inl v0)), none]) (st' := [.inr (.inl v0)]) rfl ?_
  refine z_gI hk 0 (z_row hX8_restore_0 9 rfl) (ci := 8) rfl rfl wd_1122 (fun x6 => ?_)
  refine z_eq hk (z_row hX8_restore_0 10 rfl) (tgt := 24) rfl ?_ ?_
  · refine z_run hk hX8_restore_0 12 2 (pc' := 26) (lv' := [some (.inr (.inl v0)), none]) (st' := [.inl 0, .inr (.inl v0)]) rfl ?_
    refine z_pI hk 3 (z_row hX8_restore_0 14 rfl) (ci := 8) rfl rfl wd_1125 rfl rfl rfl (fun σ7 => ?_)
    refine z_run hk hX8_restore_0 15 2 (pc' := 31) (lv' := [some (.inr (.inl v0)), some (.inl 0)]) (st' := []) rfl ?_
    exact gsX8_restore_31 F n hk he n v0 0 σ7
  · exact z_vret hk he (z_row hX8_restore_0 11 rfl) rfl
theorem mX8_restore (F : zFx E) (n : Nat) (a0 : Nat) (σ : zW) (o : zW) (hf : fX8_restore n a0 σ = some o) : zM E qX8_restore cX8_restore 2 none 0 [.inr (.inl a0)] σ none o := by
  refine zM_of (fin := zfV) F (by decide +kernel) rfl (Nat.le_of_ble_eq_true rfl) (lv0 := [some (.inr (.inl a0)), none]) rfl hf rfl (fun K hk he => ?_)
  have hk : zk E K "LotSalesModel" cX8_restore 2 0 := hk
  unfold fX8_restore
  refine z_run hk hX8_restore_0 0 2 (pc' := 2) (lv' := [some (.inr (.inl a0)), none]) (st' := [.inr (.inl a0), .inr (.inl a0)]) rfl ?_
  refine z_gI hk 5 (z_row hX8_restore_0 2 rfl) (ci := 8) rfl rfl wd_1127 (fun x8 => ?_)
  refine z_eq hk (z_row hX8_restore_0 3 rfl) (tgt := 12) rfl ?_ ?_
  · refine z_run hk hX8_restore_0 6 1 (pc' := 13) (lv' := [some (.inr (.inl a0)), none]) (st' := [.inl 1, .inr (.inl a0)]) rfl ?_
    exact gsX8_restore_13 F n hk he a0 a0 1 σ
  · refine z_run hk hX8_restore_0 4 1 (pc' := 9) (lv' := [some (.inr (.inl a0)), none]) (st' := [.inl 0, .inr (.inl a0)]) rfl ?_
    refine z_goto hk (z_row hX8_restore_0 5 rfl) (tgt := 13) rfl ?_
    exact gsX8_restore_13 F n hk he a0 a0 0 σ
theorem kX8_restore {n : Nat} {own : String} {cc : ByteArray} {nL h index : Nat} {α : Type} {fin : α → zO} {σ : zW} {pc : Nat} {lv : zLV} {st : List zV} {a0 : Nat} {c : zW → Option α} (F : zFx E) (hk : zk E K own cc nL h) (hd : decode cc pc = .ok (.invokevirtual index, 3)) (hl : Cond.methodLink own index qX8_restore ∈ lw_tbl) (hh : 0 + 1 ≤ h) (hs : zcat st ≤ 8) (k : ∀ s, zG E K fin (c s) s (pc + 3) lv st) : zG E K fin (zck σ 9 a0 (zb (fX8_restore n a0 σ) c)) σ pc lv (.inr (.inl a0) :: st) :=
  z_vV (n := 0) (y := qX8_restore) (As := []) hk hd hl wd_1543 wd_1544 wd_10 wd_1545 ⟨by decide, by decide, by decide +kernel⟩ ⟨hh, by decide⟩ (ci := 8) rfl rfl rfl (fun o ho => mX8_restore F n a0 σ o ho) hs k
abbrev qL_addLot : MethodName := { cls := "LotSalesLaw", name := "addLot", desc := "(LLotSales;III[J)I" }
def fL_addLot (n : Nat) (a0 : Nat) (a1 : Int32) (a2 : Int32) (a3 : Int32) (a4 : Nat) (σ : zW) : Option (Int32 × zW) := zck σ 8 a0 (zbx (fX7_addLot n a0 a1 a2 a3 σ) (fun x1 σ2 => zsL σ2 a4 0 x1 fun σ7 => some (0, σ7)) (fun e3 σ4 => if e3 = 2 then some (1, σ4) else if e3 = 3 then some (2, σ4) else none))
theorem mL_addLot (F : zFx E) (n : Nat) (a0 : Nat) (a1 : Int32) (a2 : Int32) (a3 : Int32) (a4 : Nat) (σ : zW) (o : Int32 × zW) (hf : fL_addLot n a0 a1 a2 a3 a4 σ = some o) : zMX E qL_addLot (.codeWith qL_addLot cL_addLot 6 (some .int) [(0, 12, 15, 13), (0, 12, 19, 15)]) 8 [.inr (.inl a0), .inl a1, .inl a2, .inl a3, .inr (.inl a4)] σ (.inl (some (.int o.1)), o.2) := by
  refine zMX_ofH (fin := zfW) F (by decide +kernel) rfl (Nat.le_of_ble_eq_true rfl) (lv0 := [some (.inr (.inl a0)), some (.inl a1), some (.inl a2), some (.inl a3), some (.inr (.inl a4)), none]) rfl hf rfl (fun K hk he htab => ?_)
  have hk : zk E K "LotSalesLaw" cL_addLot 6 8 := hk
  unfold fL_addLot
  refine z_run hk hL_addLot_0 0 6 (pc' := 7) (lv' := [some (.inr (.inl a0)), some (.inl a1), some (.inl a2), some (.inl a3), some (.inr (.inl a4)), none]) (st' := [.inl a3, .inl a2, .inl a1, .inr (.inl a0), .inl 0, .inr (.inl a4)]) rfl ?_
  refine kX7_addLot F hk (z_row hL_addLot_0 6 rfl) wd_346 (by decide) (Nat.le_of_ble_eq_true rfl) (fun x1 σ2 => ?_) (fun e3 σ4 => ?_)
  · refine z_run hk hL_addLot_0 7 1 (pc' := 11) (lv' := [some (.inr (.inl a0)), some (.inl a1), some (.inl a2), some (.inl a3), some (.inr (.inl a4)), none]) (st' := [.inr (.inr (.inl (x1.toInt64))), .inl 0, .inr (.inl a4)]) rfl ?_
    refine z_sL hk (z_row hL_addLot_0 8 rfl) (fun σ7 => ?_)
    refine z_goto hk (z_row hL_addLot_0 9 rfl) (tgt := 23) rfl ?_
    refine z_run hk hL_addLot_0 16 1 (pc' := 24) (lv' := [some (.inr (.inl a0)), some (.inl a1), some (.inl a2), some (.inl a3), some (.inr (.inl a4)), none]) (st' := [.inl 0]) rfl ?_
    exact z_iret hk he (z_row hL_addLot_0 17 rfl) rfl
  · refine z_cat0 (own := "LotSalesLaw") ?_
    refine z_catI hk htab (i := 0) (k1 := 2) (hp := 15) rfl (by decide) (by decide) rfl wd_344 wd_355 (by decide) (by decide) (fun q5 => ?_) ?_
    · refine z_run hk hL_addLot_0 10 2 (pc' := 18) (lv' := [some (.inr (.inl a0)), some (.inl a1), some (.inl a2), some (.inl a3), some (.inr (.inl a4)), some (.inr (.inr (.inr (.inr q5))))]) (st' := [.inl 1]) rfl ?_
      exact z_iret hk he (z_row hL_addLot_0 12 rfl) rfl
    refine z_catI hk htab (i := 1) (k1 := 3) (hp := 19) rfl (by decide) (by decide) rfl wd_345 wd_432 (by decide) (by decide) (fun q6 => ?_) ?_
    · refine z_run hk hL_addLot_0 13 2 (pc' := 22) (lv' := [some (.inr (.inl a0)), some (.inl a1), some (.inl a2), some (.inl a3), some (.inr (.inl a4)), some (.inr (.inr (.inr (.inr q6))))]) (st' := [.inl 2]) rfl ?_
      exact z_iret hk he (z_row hL_addLot_0 15 rfl) rfl
    exact z_catN
theorem kL_addLot {n : Nat} {own : String} {cc : ByteArray} {nL h index : Nat} {α : Type} {fin : α → zO} {σ : zW} {pc : Nat} {lv : zLV} {st : List zV} {a0 : Nat} {a1 : Int32} {a2 : Int32} {a3 : Int32} {a4 : Nat} {c : Int32 → zW → Option α} (F : zFx E) (hk : zk E K own cc nL h) (hd : decode cc pc = .ok (.invokestatic index, 3)) (hl : Cond.methodLink own index qL_addLot ∈ lw_tbl) (hh : 8 + 1 ≤ h) (hs : zcat st ≤ 8) (k : ∀ v s, zG E K fin (c v s) s (pc + 3) lv (.inl v :: st)) : zG E K fin (zb2 (fL_addLot n a0 a1 a2 a3 a4 σ) c) σ pc lv (.inr (.inl a4) :: .inl a3 :: .inl a2 :: .inl a1 :: .inr (.inl a0) :: st) :=
  z_hW (n := 5) (y := qL_addLot) (As := [.inr (.inl a0), .inl a1, .inl a2, .inl a3, .inr (.inl a4)]) hk hd hl wd_342 wd_0 wd_343 ⟨by decide, by decide, by decide +kernel⟩ ⟨hh, by decide⟩ rfl (fun o ho => mL_addLot F n a0 a1 a2 a3 a4 σ o ho) hs k
abbrev qL_lot : MethodName := { cls := "LotSalesLaw", name := "lot", desc := "(LLotSales;II[J)I" }
def fL_lot (n : Nat) (a0 : Nat) (a1 : Int32) (a2 : Int32) (a3 : Nat) (σ : zW) : Option (Int32 × zW) := zck σ 8 a0 (zbx (fX7_lot n a0 a1 a2 σ) (fun x1 σ2 => zsL σ2 a3 0 x1 fun σ7 => some (0, σ7)) (fun e3 σ4 => if e3 = 1 then some (1, σ4) else if e3 = 2 then some (2, σ4) else none))
theorem mL_lot (F : zFx E) (n : Nat) (a0 : Nat) (a1 : Int32) (a2 : Int32) (a3 : Nat) (σ : zW) (o : Int32 × zW) (hf : fL_lot n a0 a1 a2 a3 σ = some o) : zMX E qL_lot (.codeWith qL_lot cL_lot 5 (some .int) [(0, 10, 13, 21), (0, 10, 17, 13)]) 8 [.inr (.inl a0), .inl a1, .inl a2, .inr (.inl a3)] σ (.inl (some (.int o.1)), o.2) := by
  refine zMX_ofH (fin := zfW) F (by decide +kernel) rfl (Nat.le_of_ble_eq_true rfl) (lv0 := [some (.inr (.inl a0)), some (.inl a1), some (.inl a2), some (.inr (.inl a3)), none]) rfl hf rfl (fun K hk he htab => ?_)
  have hk : zk E K "LotSalesLaw" cL_lot 5 8 := hk
  unfold fL_lot
  refine z_run hk hL_lot_0 0 5 (pc' := 5) (lv' := [some (.inr (.inl a0)), some (.inl a1), some (.inl a2), some (.inr (.inl a3)), none]) (st' := [.inl a2, .inl a1, .inr (.inl a0), .inl 0, .inr (.inl a3)]) rfl ?_
  refine kX7_lot F hk (z_row hL_lot_0 5 rfl) wd_506 (by decide) (Nat.le_of_ble_eq_true rfl) (fun x1 σ2 => ?_) (fun e3 σ4 => ?_)
  · refine z_run hk hL_lot_0 6 1 (pc' := 9) (lv' := [some (.inr (.inl a0)), some (.inl a1), some (.inl a2), some (.inr (.inl a3)), none]) (st' := [.inr (.inr (.inl (x1.toInt64))), .inl 0, .inr (.inl a3)]) rfl ?_
    refine z_sL hk (z_row hL_lot_0 7 rfl) (fun σ7 => ?_)
    refine z_goto hk (z_row hL_lot_0 8 rfl) (tgt := 21) rfl ?_
    refine z_run hk hL_lot_0 15 1 (pc' := 22) (lv' := [some (.inr (.inl a0)), some (.inl a1), some (.inl a2), some (.inr (.inl a3)), none]) (st' := [.inl 0]) rfl ?_
    exact z_iret hk he (z_row hL_lot_0 16 rfl) rfl
  · refine z_cat0 (own := "LotSalesLaw") ?_
    refine z_catI hk htab (i := 0) (k1 := 1) (hp := 13) rfl (by decide) (by decide) rfl wd_482 wd_517 (by decide) (by decide) (fun q5 => ?_) ?_
    · refine z_run hk hL_lot_0 9 2 (pc' := 16) (lv' := [some (.inr (.inl a0)), some (.inl a1), some (.inl a2), some (.inr (.inl a3)), some (.inr (.inr (.inr (.inr q5))))]) (st' := [.inl 1]) rfl ?_
      exact z_iret hk he (z_row hL_lot_0 11 rfl) rfl
    refine z_catI hk htab (i := 1) (k1 := 2) (hp := 17) rfl (by decide) (by decide) rfl wd_344 wd_355 (by decide) (by decide) (fun q6 => ?_) ?_
    · refine z_run hk hL_lot_0 12 2 (pc' := 20) (lv' := [some (.inr (.inl a0)), some (.inl a1), some (.inl a2), some (.inr (.inl a3)), some (.inr (.inr (.inr (.inr q6))))]) (st' := [.inl 2]) rfl ?_
      exact z_iret hk he (z_row hL_lot_0 14 rfl) rfl
    exact z_catN
theorem kL_lot {n : Nat} {own : String} {cc : ByteArray} {nL h index : Nat} {α : Type} {fin : α → zO} {σ : zW} {pc : Nat} {lv : zLV} {st : List zV} {a0 : Nat} {a1 : Int32} {a2 : Int32} {a3 : Nat} {c : Int32 → zW → Option α} (F : zFx E) (hk : zk E K own cc nL h) (hd : decode cc pc = .ok (.invokestatic index, 3)) (hl : Cond.methodLink own index qL_lot ∈ lw_tbl) (hh : 8 + 1 ≤ h) (hs : zcat st ≤ 8) (k : ∀ v s, zG E K fin (c v s) s (pc + 3) lv (.inl v :: st)) : zG E K fin (zb2 (fL_lot n a0 a1 a2 a3 σ) c) σ pc lv (.inr (.inl a3) :: .inl a2 :: .inl a1 :: .inr (.inl a0) :: st) :=
  z_hW (n := 4) (y := qL_lot) (As := [.inr (.inl a0), .inl a1, .inl a2, .inr (.inl a3)]) hk hd hl wd_480 wd_0 wd_481 ⟨by decide, by decide, by decide +kernel⟩ ⟨hh, by decide⟩ rfl (fun o ho => mL_lot F n a0 a1 a2 a3 σ o ho) hs k
abbrev qL_lots : MethodName := { cls := "LotSalesLaw", name := "lots", desc := "(LLotSales;I[J)I" }
def fL_lots (n : Nat) (a0 : Nat) (a1 : Int32) (a2 : Nat) (σ : zW) : Option (Int32 × zW) := zck σ 8 a0 (zbx (fX7_lots n a0 a1 σ) (fun x1 σ2 => zsL σ2 a2 0 x1 fun σ6 => some (0, σ6)) (fun e3 σ4 => if e3 = 2 then some (1, σ4) else none))
theorem mL_lots (F : zFx E) (n : Nat) (a0 : Nat) (a1 : Int32) (a2 : Nat) (σ : zW) (o : Int32 × zW) (hf : fL_lots n a0 a1 a2 σ = some o) : zMX E qL_lots (.codeWith qL_lots cL_lots 4 (some .int) [(0, 9, 12, 13)]) 8 [.inr (.inl a0), .inl a1, .inr (.inl a2)] σ (.inl (some (.int o.1)), o.2) := by
  refine zMX_ofH (fin := zfW) F (by decide +kernel) rfl (Nat.le_of_ble_eq_true rfl) (lv0 := [some (.inr (.inl a0)), some (.inl a1), some (.inr (.inl a2)), none]) rfl hf rfl (fun K hk he htab => ?_)
  have hk : zk E K "LotSalesLaw" cL_lots 4 8 := hk
  unfold fL_lots
  refine z_run hk hL_lots_0 0 4 (pc' := 4) (lv' := [some (.inr (.inl a0)), some (.inl a1), some (.inr (.inl a2)), none]) (st' := [.inl a1, .inr (.inl a0), .inl 0, .inr (.inl a2)]) rfl ?_
  refine kX7_lots F hk (z_row hL_lots_0 4 rfl) wd_531 (by decide) (Nat.le_of_ble_eq_true rfl) (fun x1 σ2 => ?_) (fun e3 σ4 => ?_)
  · refine z_run hk hL_lots_0 5 1 (pc' := 8) (lv' := [some (.inr (.inl a0)), some (.inl a1), some (.inr (.inl a2)), none]) (st' := [.inr (.inr (.inl (x1.toInt64))), .inl 0, .inr (.inl a2)]) rfl ?_
    refine z_sL hk (z_row hL_lots_0 6 rfl) (fun σ6 => ?_)
    refine z_goto hk (z_row hL_lots_0 7 rfl) (tgt := 15) rfl ?_
    refine z_run hk hL_lots_0 11 1 (pc' := 16) (lv' := [some (.inr (.inl a0)), some (.inl a1), some (.inr (.inl a2)), none]) (st' := [.inl 0]) rfl ?_
    exact z_iret hk he (z_row hL_lots_0 12 rfl) rfl
  · refine z_cat0 (own := "LotSalesLaw") ?_
    refine z_catI hk htab (i := 0) (k1 := 2) (hp := 12) rfl (by decide) (by decide) rfl wd_344 wd_355 (by decide) (by decide) (fun q5 => ?_) ?_
    · refine z_run hk hL_lots_0 8 2 (pc' := 14) (lv' := [some (.inr (.inl a0)), some (.inl a1), some (.inr (.inl a2)), some (.inr (.inr (.inr (.inr q5))))]) (st' := [.inl 1]) rfl ?_
      exact z_iret hk he (z_row hL_lots_0 10 rfl) rfl
    exact z_catN
theorem kL_lots {n : Nat} {own : String} {cc : ByteArray} {nL h index : Nat} {α : Type} {fin : α → zO} {σ : zW} {pc : Nat} {lv : zLV} {st : List zV} {a0 : Nat} {a1 : Int32} {a2 : Nat} {c : Int32 → zW → Option α} (F : zFx E) (hk : zk E K own cc nL h) (hd : decode cc pc = .ok (.invokestatic index, 3)) (hl : Cond.methodLink own index qL_lots ∈ lw_tbl) (hh : 8 + 1 ≤ h) (hs : zcat st ≤ 8) (k : ∀ v s, zG E K fin (c v s) s (pc + 3) lv (.inl v :: st)) : zG E K fin (zb2 (fL_lots n a0 a1 a2 σ) c) σ pc lv (.inr (.inl a2) :: .inl a1 :: .inr (.inl a0) :: st) :=
  z_hW (n := 3) (y := qL_lots) (As := [.inr (.inl a0), .inl a1, .inr (.inl a2)]) hk hd hl wd_529 wd_0 wd_530 ⟨by decide, by decide, by decide +kernel⟩ ⟨hh, by decide⟩ rfl (fun o ho => mL_lots F n a0 a1 a2 σ o ho) hs k
abbrev qL_setRows : MethodName := { cls := "LotSalesLaw", name := "setRows", desc := "(LLotSales;III[J)I" }
def fL_setRows (n : Nat) (a0 : Nat) (a1 : Int32) (a2 : Int32) (a3 : Int32) (a4 : Nat) (σ : zW) : Option (Int32 × zW) := zck σ 8 a0 (zbx (fX7_setRows n a0 a1 a2 a3 σ) (fun x1 σ2 => zsL σ2 a4 0 x1 fun σ8 => some (0, σ8)) (fun e3 σ4 => if e3 = 1 then some (1, σ4) else if e3 = 2 then some (2, σ4) else if e3 = 3 then some (3, σ4) else none))
theorem mL_setRows (F : zFx E) (n : Nat) (a0 : Nat) (a1 : Int32) (a2 : Int32) (a3 : Int32) (a4 : Nat) (σ : zW) (o : Int32 × zW) (hf : fL_setRows n a0 a1 a2 a3 a4 σ = some o) : zMX E qL_setRows (.codeWith qL_setRows cL_setRows 6 (some .int) [(0, 12, 15, 21), (0, 12, 19, 13), (0, 12, 23, 15)]) 8 [.inr (.inl a0), .inl a1, .inl a2, .inl a3, .inr (.inl a4)] σ (.inl (some (.int o.1)), o.2) := by
  refine zMX_ofH (fin := zfW) F (by decide +kernel) rfl (Nat.le_of_ble_eq_true rfl) (lv0 := [some (.inr (.inl a0)), some (.inl a1), some (.inl a2), some (.inl a3), some (.inr (.inl a4)), none]) rfl hf rfl (fun K hk he htab => ?_)
  have hk : zk E K "LotSalesLaw" cL_setRows 6 8 := hk
  unfold fL_setRows
  refine z_run hk hL_setRows_0 0 6 (pc' := 7) (lv' := [some (.inr (.inl a0)), some (.inl a1), some (.inl a2), some (.inl a3), some (.inr (.inl a4)), none]) (st' := [.inl a3, .inl a2, .inl a1, .inr (.inl a0), .inl 0, .inr (.inl a4)]) rfl ?_
  refine kX7_setRows F hk (z_row hL_setRows_0 6 rfl) wd_542 (by decide) (Nat.le_of_ble_eq_true rfl) (fun x1 σ2 => ?_) (fun e3 σ4 => ?_)
  · refine z_run hk hL_setRows_0 7 1 (pc' := 11) (lv' := [some (.inr (.inl a0)), some (.inl a1), some (.inl a2), some (.inl a3), some (.inr (.inl a4)), none]) (st' := [.inr (.inr (.inl (x1.toInt64))), .inl 0, .inr (.inl a4)]) rfl ?_
    refine z_sL hk (z_row hL_setRows_0 8 rfl) (fun σ8 => ?_)
    refine z_goto hk (z_row hL_setRows_0 9 rfl) (tgt := 27) rfl ?_
    refine z_run hk hL_setRows_0 19 1 (pc' := 28) (lv' := [some (.inr (.inl a0)), some (.inl a1), some (.inl a2), some (.inl a3), some (.inr (.inl a4)), none]) (st' := [.inl 0]) rfl ?_
    exact z_iret hk he (z_row hL_setRows_0 20 rfl) rfl
  · refine z_cat0 (own := "LotSalesLaw") ?_
    refine z_catI hk htab (i := 0) (k1 := 1) (hp := 15) rfl (by decide) (by decide) rfl wd_482 wd_517 (by decide) (by decide) (fun q5 => ?_) ?_
    · refine z_run hk hL_setRows_0 10 2 (pc' := 18) (lv' := [some (.inr (.inl a0)), some (.inl a1), some (.inl a2), some (.inl a3), some (.inr (.inl a4)), some (.inr (.inr (.inr (.inr q5))))]) (st' := [.inl 1]) rfl ?_
      exact z_iret hk he (z_row hL_setRows_0 12 rfl) rfl
    refine z_catI hk htab (i := 1) (k1 := 2) (hp := 19) rfl (by decide) (by decide) rfl wd_344 wd_355 (by decide) (by decide) (fun q6 => ?_) ?_
    · refine z_run hk hL_setRows_0 13 2 (pc' := 22) (lv' := [some (.inr (.inl a0)), some (.inl a1), some (.inl a2), some (.inl a3), some (.inr (.inl a4)), some (.inr (.inr (.inr (.inr q6))))]) (st' := [.inl 2]) rfl ?_
      exact z_iret hk he (z_row hL_setRows_0 15 rfl) rfl
    refine z_catI hk htab (i := 2) (k1 := 3) (hp := 23) rfl (by decide) (by decide) rfl wd_345 wd_432 (by decide) (by decide) (fun q7 => ?_) ?_
    · refine z_run hk hL_setRows_0 16 2 (pc' := 26) (lv' := [some (.inr (.inl a0)), some (.inl a1), some (.inl a2), some (.inl a3), some (.inr (.inl a4)), some (.inr (.inr (.inr (.inr q7))))]) (st' := [.inl 3]) rfl ?_
      exact z_iret hk he (z_row hL_setRows_0 18 rfl) rfl
    exact z_catN
theorem kL_setRows {n : Nat} {own : String} {cc : ByteArray} {nL h index : Nat} {α : Type} {fin : α → zO} {σ : zW} {pc : Nat} {lv : zLV} {st : List zV} {a0 : Nat} {a1 : Int32} {a2 : Int32} {a3 : Int32} {a4 : Nat} {c : Int32 → zW → Option α} (F : zFx E) (hk : zk E K own cc nL h) (hd : decode cc pc = .ok (.invokestatic index, 3)) (hl : Cond.methodLink own index qL_setRows ∈ lw_tbl) (hh : 8 + 1 ≤ h) (hs : zcat st ≤ 8) (k : ∀ v s, zG E K fin (c v s) s (pc + 3) lv (.inl v :: st)) : zG E K fin (zb2 (fL_setRows n a0 a1 a2 a3 a4 σ) c) σ pc lv (.inr (.inl a4) :: .inl a3 :: .inl a2 :: .inl a1 :: .inr (.inl a0) :: st) :=
  z_hW (n := 5) (y := qL_setRows) (As := [.inr (.inl a0), .inl a1, .inl a2, .inl a3, .inr (.inl a4)]) hk hd hl wd_540 wd_0 wd_541 ⟨by decide, by decide, by decide +kernel⟩ ⟨hh, by decide⟩ rfl (fun o ho => mL_setRows F n a0 a1 a2 a3 a4 σ o ho) hs k
abbrev qL_row : MethodName := { cls := "LotSalesLaw", name := "row", desc := "(LLotSales;II[J)I" }
def fL_row (n : Nat) (a0 : Nat) (a1 : Int32) (a2 : Int32) (a3 : Nat) (σ : zW) : Option (Int32 × zW) := zck σ 8 a0 (zbx (fX7_row n a0 a1 a2 σ) (fun x1 σ2 => zsL σ2 a3 0 x1 fun σ7 => some (0, σ7)) (fun e3 σ4 => if e3 = 1 then some (1, σ4) else if e3 = 2 then some (2, σ4) else none))
theorem mL_row (F : zFx E) (n : Nat) (a0 : Nat) (a1 : Int32) (a2 : Int32) (a3 : Nat) (σ : zW) (o : Int32 × zW) (hf : fL_row n a0 a1 a2 a3 σ = some o) : zMX E qL_row (.codeWith qL_row cL_row 5 (some .int) [(0, 10, 13, 21), (0, 10, 17, 13)]) 8 [.inr (.inl a0), .inl a1, .inl a2, .inr (.inl a3)] σ (.inl (some (.int o.1)), o.2) := by
  refine zMX_ofH (fin := zfW) F (by decide +kernel) rfl (Nat.le_of_ble_eq_true rfl) (lv0 := [some (.inr (.inl a0)), some (.inl a1), some (.inl a2), some (.inr (.inl a3)), none]) rfl hf rfl (fun K hk he htab => ?_)
  have hk : zk E K "LotSalesLaw" cL_row 5 8 := hk
  unfold fL_row
  refine z_run hk hL_row_0 0 5 (pc' := 5) (lv' := [some (.inr (.inl a0)), some (.inl a1), some (.inl a2), some (.inr (.inl a3)), none]) (st' := [.inl a2, .inl a1, .inr (.inl a0), .inl 0, .inr (.inl a3)]) rfl ?_
  refine kX7_row F hk (z_row hL_row_0 5 rfl) wd_560 (by decide) (Nat.le_of_ble_eq_true rfl) (fun x1 σ2 => ?_) (fun e3 σ4 => ?_)
  · refine z_run hk hL_row_0 6 1 (pc' := 9) (lv' := [some (.inr (.inl a0)), some (.inl a1), some (.inl a2), some (.inr (.inl a3)), none]) (st' := [.inr (.inr (.inl (x1.toInt64))), .inl 0, .inr (.inl a3)]) rfl ?_
    refine z_sL hk (z_row hL_row_0 7 rfl) (fun σ7 => ?_)
    refine z_goto hk (z_row hL_row_0 8 rfl) (tgt := 21) rfl ?_
    refine z_run hk hL_row_0 15 1 (pc' := 22) (lv' := [some (.inr (.inl a0)), some (.inl a1), some (.inl a2), some (.inr (.inl a3)), none]) (st' := [.inl 0]) rfl ?_
    exact z_iret hk he (z_row hL_row_0 16 rfl) rfl
  · refine z_cat0 (own := "LotSalesLaw") ?_
    refine z_catI hk htab (i := 0) (k1 := 1) (hp := 13) rfl (by decide) (by decide) rfl wd_482 wd_517 (by decide) (by decide) (fun q5 => ?_) ?_
    · refine z_run hk hL_row_0 9 2 (pc' := 16) (lv' := [some (.inr (.inl a0)), some (.inl a1), some (.inl a2), some (.inr (.inl a3)), some (.inr (.inr (.inr (.inr q5))))]) (st' := [.inl 1]) rfl ?_
      exact z_iret hk he (z_row hL_row_0 11 rfl) rfl
    refine z_catI hk htab (i := 1) (k1 := 2) (hp := 17) rfl (by decide) (by decide) rfl wd_344 wd_355 (by decide) (by decide) (fun q6 => ?_) ?_
    · refine z_run hk hL_row_0 12 2 (pc' := 20) (lv' := [some (.inr (.inl a0)), some (.inl a1), some (.inl a2), some (.inr (.inl a3)), some (.inr (.inr (.inr (.inr q6))))]) (st' := [.inl 2]) rfl ?_
      exact z_iret hk he (z_row hL_row_0 14 rfl) rfl
    exact z_catN
theorem kL_row {n : Nat} {own : String} {cc : ByteArray} {nL h index : Nat} {α : Type} {fin : α → zO} {σ : zW} {pc : Nat} {lv : zLV} {st : List zV} {a0 : Nat} {a1 : Int32} {a2 : Int32} {a3 : Nat} {c : Int32 → zW → Option α} (F : zFx E) (hk : zk E K own cc nL h) (hd : decode cc pc = .ok (.invokestatic index, 3)) (hl : Cond.methodLink own index qL_row ∈ lw_tbl) (hh : 8 + 1 ≤ h) (hs : zcat st ≤ 8) (k : ∀ v s, zG E K fin (c v s) s (pc + 3) lv (.inl v :: st)) : zG E K fin (zb2 (fL_row n a0 a1 a2 a3 σ) c) σ pc lv (.inr (.inl a3) :: .inl a2 :: .inl a1 :: .inr (.inl a0) :: st) :=
  z_hW (n := 4) (y := qL_row) (As := [.inr (.inl a0), .inl a1, .inl a2, .inr (.inl a3)]) hk hd hl wd_558 wd_0 wd_559 ⟨by decide, by decide, by decide +kernel⟩ ⟨hh, by decide⟩ rfl (fun o ho => mL_row F n a0 a1 a2 a3 σ o ho) hs k
abbrev qL_step : MethodName := { cls := "LotSalesLaw", name := "step", desc := "(LLotSales;I[J)I" }
def fL_step (n : Nat) (a0 : Nat) (a1 : Int32) (a2 : Nat) (σ : zW) : Option (Int32 × zW) := zck σ 8 a0 (zbx (fX7_step n a0 a1 σ) (fun x1 σ2 => zsL σ2 a2 0 x1 fun σ6 => some (0, σ6)) (fun e3 σ4 => if e3 = 2 then some (1, σ4) else none))
theorem mL_step (F : zFx E) (n : Nat) (a0 : Nat) (a1 : Int32) (a2 : Nat) (σ : zW) (o : Int32 × zW) (hf : fL_step n a0 a1 a2 σ = some o) : zMX E qL_step (.codeWith qL_step cL_step 4 (some .int) [(0, 9, 12, 13)]) 8 [.inr (.inl a0), .inl a1, .inr (.inl a2)] σ (.inl (some (.int o.1)), o.2) := by
  refine zMX_ofH (fin := zfW) F (by decide +kernel) rfl (Nat.le_of_ble_eq_true rfl) (lv0 := [some (.inr (.inl a0)), some (.inl a1), some (.inr (.inl a2)), none]) rfl hf rfl (fun K hk he htab => ?_)
  have hk : zk E K "LotSalesLaw" cL_step 4 8 := hk
  unfold fL_step
  refine z_run hk hL_step_0 0 4 (pc' := 4) (lv' := [some (.inr (.inl a0)), some (.inl a1), some (.inr (.inl a2)), none]) (st' := [.inl a1, .inr (.inl a0), .inl 0, .inr (.inl a2)]) rfl ?_
  refine kX7_step F hk (z_row hL_step_0 4 rfl) wd_568 (by decide) (Nat.le_of_ble_eq_true rfl) (fun x1 σ2 => ?_) (fun e3 σ4 => ?_)
  · refine z_run hk hL_step_0 5 1 (pc' := 8) (lv' := [some (.inr (.inl a0)), some (.inl a1), some (.inr (.inl a2)), none]) (st' := [.inr (.inr (.inl (x1.toInt64))), .inl 0, .inr (.inl a2)]) rfl ?_
    refine z_sL hk (z_row hL_step_0 6 rfl) (fun σ6 => ?_)
    refine z_goto hk (z_row hL_step_0 7 rfl) (tgt := 15) rfl ?_
    refine z_run hk hL_step_0 11 1 (pc' := 16) (lv' := [some (.inr (.inl a0)), some (.inl a1), some (.inr (.inl a2)), none]) (st' := [.inl 0]) rfl ?_
    exact z_iret hk he (z_row hL_step_0 12 rfl) rfl
  · refine z_cat0 (own := "LotSalesLaw") ?_
    refine z_catI hk htab (i := 0) (k1 := 2) (hp := 12) rfl (by decide) (by decide) rfl wd_344 wd_355 (by decide) (by decide) (fun q5 => ?_) ?_
    · refine z_run hk hL_step_0 8 2 (pc' := 14) (lv' := [some (.inr (.inl a0)), some (.inl a1), some (.inr (.inl a2)), some (.inr (.inr (.inr (.inr q5))))]) (st' := [.inl 1]) rfl ?_
      exact z_iret hk he (z_row hL_step_0 10 rfl) rfl
    exact z_catN
theorem kL_step {n : Nat} {own : String} {cc : ByteArray} {nL h index : Nat} {α : Type} {fin : α → zO} {σ : zW} {pc : Nat} {lv : zLV} {st : List zV} {a0 : Nat} {a1 : Int32} {a2 : Nat} {c : Int32 → zW → Option α} (F : zFx E) (hk : zk E K own cc nL h) (hd : decode cc pc = .ok (.invokestatic index, 3)) (hl : Cond.methodLink own index qL_step ∈ lw_tbl) (hh : 8 + 1 ≤ h) (hs : zcat st ≤ 8) (k : ∀ v s, zG E K fin (c v s) s (pc + 3) lv (.inl v :: st)) : zG E K fin (zb2 (fL_step n a0 a1 a2 σ) c) σ pc lv (.inr (.inl a2) :: .inl a1 :: .inr (.inl a0) :: st) :=
  z_hW (n := 3) (y := qL_step) (As := [.inr (.inl a0), .inl a1, .inr (.inl a2)]) hk hd hl wd_566 wd_0 wd_567 ⟨by decide, by decide, by decide +kernel⟩ ⟨hh, by decide⟩ rfl (fun o ho => mL_step F n a0 a1 a2 σ o ho) hs k
abbrev qL_nextStep : MethodName := { cls := "LotSalesLaw", name := "nextStep", desc := "(LLotSales;I[J)I" }
def fL_nextStep (n : Nat) (a0 : Nat) (a1 : Int32) (a2 : Nat) (σ : zW) : Option (Int32 × zW) := zck σ 8 a0 (zbx (fX7_nextStep n a0 a1 σ) (fun x1 σ2 => zsL σ2 a2 0 x1 fun σ6 => some (0, σ6)) (fun e3 σ4 => if e3 = 2 then some (1, σ4) else none))
theorem mL_nextStep (F : zFx E) (n : Nat) (a0 : Nat) (a1 : Int32) (a2 : Nat) (σ : zW) (o : Int32 × zW) (hf : fL_nextStep n a0 a1 a2 σ = some o) : zMX E qL_nextStep (.codeWith qL_nextStep cL_nextStep 4 (some .int) [(0, 9, 12, 13)]) 8 [.inr (.inl a0), .inl a1, .inr (.inl a2)] σ (.inl (some (.int o.1)), o.2) := by
  refine zMX_ofH (fin := zfW) F (by decide +kernel) rfl (Nat.le_of_ble_eq_true rfl) (lv0 := [some (.inr (.inl a0)), some (.inl a1), some (.inr (.inl a2)), none]) rfl hf rfl (fun K hk he htab => ?_)
  have hk : zk E K "LotSalesLaw" cL_nextStep 4 8 := hk
  unfold fL_nextStep
  refine z_run hk hL_nextStep_0 0 4 (pc' := 4) (lv' := [some (.inr (.inl a0)), some (.inl a1), some (.inr (.inl a2)), none]) (st' := [.inl a1, .inr (.inl a0), .inl 0, .inr (.inl a2)]) rfl ?_
  refine kX7_nextStep F hk (z_row hL_nextStep_0 4 rfl) wd_583 (by decide) (Nat.le_of_ble_eq_true rfl) (fun x1 σ2 => ?_) (fun e3 σ4 => ?_)
  · refine z_run hk hL_nextStep_0 5 1 (pc' := 8) (lv' := [some (.inr (.inl a0)), some (.inl a1), some (.inr (.inl a2)), none]) (st' := [.inr (.inr (.inl (x1.toInt64))), .inl 0, .inr (.inl a2)]) rfl ?_
    refine z_sL hk (z_row hL_nextStep_0 6 rfl) (fun σ6 => ?_)
    refine z_goto hk (z_row hL_nextStep_0 7 rfl) (tgt := 15) rfl ?_
    refine z_run hk hL_nextStep_0 11 1 (pc' := 16) (lv' := [some (.inr (.inl a0)), some (.inl a1), some (.inr (.inl a2)), none]) (st' := [.inl 0]) rfl ?_
    exact z_iret hk he (z_row hL_nextStep_0 12 rfl) rfl
  · refine z_cat0 (own := "LotSalesLaw") ?_
    refine z_catI hk htab (i := 0) (k1 := 2) (hp := 12) rfl (by decide) (by decide) rfl wd_344 wd_355 (by decide) (by decide) (fun q5 => ?_) ?_
    · refine z_run hk hL_nextStep_0 8 2 (pc' := 14) (lv' := [some (.inr (.inl a0)), some (.inl a1), some (.inr (.inl a2)), some (.inr (.inr (.inr (.inr q5))))]) (st' := [.inl 1]) rfl ?_
      exact z_iret hk he (z_row hL_nextStep_0 10 rfl) rfl
    exact z_catN
theorem kL_nextStep {n : Nat} {own : String} {cc : ByteArray} {nL h index : Nat} {α : Type} {fin : α → zO} {σ : zW} {pc : Nat} {lv : zLV} {st : List zV} {a0 : Nat} {a1 : Int32} {a2 : Nat} {c : Int32 → zW → Option α} (F : zFx E) (hk : zk E K own cc nL h) (hd : decode cc pc = .ok (.invokestatic index, 3)) (hl : Cond.methodLink own index qL_nextStep ∈ lw_tbl) (hh : 8 + 1 ≤ h) (hs : zcat st ≤ 8) (k : ∀ v s, zG E K fin (c v s) s (pc + 3) lv (.inl v :: st)) : zG E K fin (zb2 (fL_nextStep n a0 a1 a2 σ) c) σ pc lv (.inr (.inl a2) :: .inl a1 :: .inr (.inl a0) :: st) :=
  z_hW (n := 3) (y := qL_nextStep) (As := [.inr (.inl a0), .inl a1, .inr (.inl a2)]) hk hd hl wd_581 wd_0 wd_582 ⟨by decide, by decide, by decide +kernel⟩ ⟨hh, by decide⟩ rfl (fun o ho => mL_nextStep F n a0 a1 a2 σ o ho) hs k
abbrev qL_setCredit : MethodName := { cls := "LotSalesLaw", name := "setCredit", desc := "(LLotSales;II[J)I" }
def fL_setCredit (n : Nat) (a0 : Nat) (a1 : Int32) (a2 : Int32) (a3 : Nat) (σ : zW) : Option (Int32 × zW) := zck σ 8 a0 (zbx (fX7_setCredit n a0 a1 a2 σ) (fun x1 σ2 => zsL σ2 a3 0 x1 fun σ7 => some (0, σ7)) (fun e3 σ4 => if e3 = 1 then some (1, σ4) else if e3 = 2 then some (2, σ4) else none))
theorem mL_setCredit (F : zFx E) (n : Nat) (a0 : Nat) (a1 : Int32) (a2 : Int32) (a3 : Nat) (σ : zW) (o : Int32 × zW) (hf : fL_setCredit n a0 a1 a2 a3 σ = some o) : zMX E qL_setCredit (.codeWith qL_setCredit cL_setCredit 5 (some .int) [(0, 10, 13, 21), (0, 10, 17, 13)]) 8 [.inr (.inl a0), .inl a1, .inl a2, .inr (.inl a3)] σ (.inl (some (.int o.1)), o.2) := by
  refine zMX_ofH (fin := zfW) F (by decide +kernel) rfl (Nat.le_of_ble_eq_true rfl) (lv0 := [some (.inr (.inl a0)), some (.inl a1), some (.inl a2), some (.inr (.inl a3)), none]) rfl hf rfl (fun K hk he htab => ?_)
  have hk : zk E K "LotSalesLaw" cL_setCredit 5 8 := hk
  unfold fL_setCredit
  refine z_run hk hL_setCredit_0 0 5 (pc' := 5) (lv' := [some (.inr (.inl a0)), some (.inl a1), some (.inl a2), some (.inr (.inl a3)), none]) (st' := [.inl a2, .inl a1, .inr (.inl a0), .inl 0, .inr (.inl a3)]) rfl ?_
  refine kX7_setCredit F hk (z_row hL_setCredit_0 5 rfl) wd_595 (by decide) (Nat.le_of_ble_eq_true rfl) (fun x1 σ2 => ?_) (fun e3 σ4 => ?_)
  · refine z_run hk hL_setCredit_0 6 1 (pc' := 9) (lv' := [some (.inr (.inl a0)), some (.inl a1), some (.inl a2), some (.inr (.inl a3)), none]) (st' := [.inr (.inr (.inl (x1.toInt64))), .inl 0, .inr (.inl a3)]) rfl ?_
    refine z_sL hk (z_row hL_setCredit_0 7 rfl) (fun σ7 => ?_)
    refine z_goto hk (z_row hL_setCredit_0 8 rfl) (tgt := 21) rfl ?_
    refine z_run hk hL_setCredit_0 15 1 (pc' := 22) (lv' := [some (.inr (.inl a0)), some (.inl a1), some (.inl a2), some (.inr (.inl a3)), none]) (st' := [.inl 0]) rfl ?_
    exact z_iret hk he (z_row hL_setCredit_0 16 rfl) rfl
  · refine z_cat0 (own := "LotSalesLaw") ?_
    refine z_catI hk htab (i := 0) (k1 := 1) (hp := 13) rfl (by decide) (by decide) rfl wd_482 wd_517 (by decide) (by decide) (fun q5 => ?_) ?_
    · refine z_run hk hL_setCredit_0 9 2 (pc' := 16) (lv' := [some (.inr (.inl a0)), some (.inl a1), some (.inl a2), some (.inr (.inl a3)), some (.inr (.inr (.inr (.inr q5))))]) (st' := [.inl 1]) rfl ?_
      exact z_iret hk he (z_row hL_setCredit_0 11 rfl) rfl
    refine z_catI hk htab (i := 1) (k1 := 2) (hp := 17) rfl (by decide) (by decide) rfl wd_344 wd_355 (by decide) (by decide) (fun q6 => ?_) ?_
    · refine z_run hk hL_setCredit_0 12 2 (pc' := 20) (lv' := [some (.inr (.inl a0)), some (.inl a1), some (.inl a2), some (.inr (.inl a3)), some (.inr (.inr (.inr (.inr q6))))]) (st' := [.inl 2]) rfl ?_
      exact z_iret hk he (z_row hL_setCredit_0 14 rfl) rfl
    exact z_catN
theorem kL_setCredit {n : Nat} {own : String} {cc : ByteArray} {nL h index : Nat} {α : Type} {fin : α → zO} {σ : zW} {pc : Nat} {lv : zLV} {st : List zV} {a0 : Nat} {a1 : Int32} {a2 : Int32} {a3 : Nat} {c : Int32 → zW → Option α} (F : zFx E) (hk : zk E K own cc nL h) (hd : decode cc pc = .ok (.invokestatic index, 3)) (hl : Cond.methodLink own index qL_setCredit ∈ lw_tbl) (hh : 8 + 1 ≤ h) (hs : zcat st ≤ 8) (k : ∀ v s, zG E K fin (c v s) s (pc + 3) lv (.inl v :: st)) : zG E K fin (zb2 (fL_setCredit n a0 a1 a2 a3 σ) c) σ pc lv (.inr (.inl a3) :: .inl a2 :: .inl a1 :: .inr (.inl a0) :: st) :=
  z_hW (n := 4) (y := qL_setCredit) (As := [.inr (.inl a0), .inl a1, .inl a2, .inr (.inl a3)]) hk hd hl wd_593 wd_0 wd_594 ⟨by decide, by decide, by decide +kernel⟩ ⟨hh, by decide⟩ rfl (fun o ho => mL_setCredit F n a0 a1 a2 a3 σ o ho) hs k
abbrev qL_order : MethodName := { cls := "LotSalesLaw", name := "order", desc := "(LLotSales;III[J)I" }
def fL_order (n : Nat) (a0 : Nat) (a1 : Int32) (a2 : Int32) (a3 : Int32) (a4 : Nat) (σ : zW) : Option (Int32 × zW) := zck σ 8 a0 (zbx (fX7_order n a0 a1 a2 a3 σ) (fun x1 σ2 => zsL σ2 a4 0 x1 fun σ8 => some (0, σ8)) (fun e3 σ4 => if e3 = 1 then some (1, σ4) else if e3 = 2 then some (2, σ4) else if e3 = 5 then some (3, σ4) else none))
theorem mL_order (F : zFx E) (n : Nat) (a0 : Nat) (a1 : Int32) (a2 : Int32) (a3 : Int32) (a4 : Nat) (σ : zW) (o : Int32 × zW) (hf : fL_order n a0 a1 a2 a3 a4 σ = some o) : zMX E qL_order (.codeWith qL_order cL_order 6 (some .int) [(0, 12, 15, 21), (0, 12, 19, 13), (0, 12, 23, 45)]) 8 [.inr (.inl a0), .inl a1, .inl a2, .inl a3, .inr (.inl a4)] σ (.inl (some (.int o.1)), o.2) := by
  refine zMX_ofH (fin := zfW) F (by decide +kernel) rfl (Nat.le_of_ble_eq_true rfl) (lv0 := [some (.inr (.inl a0)), some (.inl a1), some (.inl a2), some (.inl a3), some (.inr (.inl a4)), none]) rfl hf rfl (fun K hk he htab => ?_)
  have hk : zk E K "LotSalesLaw" cL_order 6 8 := hk
  unfold fL_order
  refine z_run hk hL_order_0 0 6 (pc' := 7) (lv' := [some (.inr (.inl a0)), some (.inl a1), some (.inl a2), some (.inl a3), some (.inr (.inl a4)), none]) (st' := [.inl a3, .inl a2, .inl a1, .inr (.inl a0), .inl 0, .inr (.inl a4)]) rfl ?_
  refine kX7_order F hk (z_row hL_order_0 6 rfl) wd_611 (by decide) (Nat.le_of_ble_eq_true rfl) (fun x1 σ2 => ?_) (fun e3 σ4 => ?_)
  · refine z_run hk hL_order_0 7 1 (pc' := 11) (lv' := [some (.inr (.inl a0)), some (.inl a1), some (.inl a2), some (.inl a3), some (.inr (.inl a4)), none]) (st' := [.inr (.inr (.inl (x1.toInt64))), .inl 0, .inr (.inl a4)]) rfl ?_
    refine z_sL hk (z_row hL_order_0 8 rfl) (fun σ8 => ?_)
    refine z_goto hk (z_row hL_order_0 9 rfl) (tgt := 27) rfl ?_
    refine z_run hk hL_order_0 19 1 (pc' := 28) (lv' := [some (.inr (.inl a0)), some (.inl a1), some (.inl a2), some (.inl a3), some (.inr (.inl a4)), none]) (st' := [.inl 0]) rfl ?_
    exact z_iret hk he (z_row hL_order_0 20 rfl) rfl
  · refine z_cat0 (own := "LotSalesLaw") ?_
    refine z_catI hk htab (i := 0) (k1 := 1) (hp := 15) rfl (by decide) (by decide) rfl wd_482 wd_517 (by decide) (by decide) (fun q5 => ?_) ?_
    · refine z_run hk hL_order_0 10 2 (pc' := 18) (lv' := [some (.inr (.inl a0)), some (.inl a1), some (.inl a2), some (.inl a3), some (.inr (.inl a4)), some (.inr (.inr (.inr (.inr q5))))]) (st' := [.inl 1]) rfl ?_
      exact z_iret hk he (z_row hL_order_0 12 rfl) rfl
    refine z_catI hk htab (i := 1) (k1 := 2) (hp := 19) rfl (by decide) (by decide) rfl wd_344 wd_355 (by decide) (by decide) (fun q6 => ?_) ?_
    · refine z_run hk hL_order_0 13 2 (pc' := 22) (lv' := [some (.inr (.inl a0)), some (.inl a1), some (.inl a2), some (.inl a3), some (.inr (.inl a4)), some (.inr (.inr (.inr (.inr q6))))]) (st' := [.inl 2]) rfl ?_
      exact z_iret hk he (z_row hL_order_0 15 rfl) rfl
    refine z_catI hk htab (i := 2) (k1 := 5) (hp := 23) rfl (by decide) (by decide) rfl wd_610 wd_663 (by decide) (by decide) (fun q7 => ?_) ?_
    · refine z_run hk hL_order_0 16 2 (pc' := 26) (lv' := [some (.inr (.inl a0)), some (.inl a1), some (.inl a2), some (.inl a3), some (.inr (.inl a4)), some (.inr (.inr (.inr (.inr q7))))]) (st' := [.inl 3]) rfl ?_
      exact z_iret hk he (z_row hL_order_0 18 rfl) rfl
    exact z_catN
theorem kL_order {n : Nat} {own : String} {cc : ByteArray} {nL h index : Nat} {α : Type} {fin : α → zO} {σ : zW} {pc : Nat} {lv : zLV} {st : List zV} {a0 : Nat} {a1 : Int32} {a2 : Int32} {a3 : Int32} {a4 : Nat} {c : Int32 → zW → Option α} (F : zFx E) (hk : zk E K own cc nL h) (hd : decode cc pc = .ok (.invokestatic index, 3)) (hl : Cond.methodLink own index qL_order ∈ lw_tbl) (hh : 8 + 1 ≤ h) (hs : zcat st ≤ 8) (k : ∀ v s, zG E K fin (c v s) s (pc + 3) lv (.inl v :: st)) : zG E K fin (zb2 (fL_order n a0 a1 a2 a3 a4 σ) c) σ pc lv (.inr (.inl a4) :: .inl a3 :: .inl a2 :: .inl a1 :: .inr (.inl a0) :: st) :=
  z_hW (n := 5) (y := qL_order) (As := [.inr (.inl a0), .inl a1, .inl a2, .inl a3, .inr (.inl a4)]) hk hd hl wd_608 wd_0 wd_609 ⟨by decide, by decide, by decide +kernel⟩ ⟨hh, by decide⟩ rfl (fun o ho => mL_order F n a0 a1 a2 a3 a4 σ o ho) hs k
abbrev qL_cancel : MethodName := { cls := "LotSalesLaw", name := "cancel", desc := "(LLotSales;II[J)I" }
def fL_cancel (n : Nat) (a0 : Nat) (a1 : Int32) (a2 : Int32) (a3 : Nat) (σ : zW) : Option (Int32 × zW) := zck σ 8 a0 (zbx (fX7_cancel n a0 a1 a2 σ) (fun x1 σ2 => zsL σ2 a3 0 x1 fun σ8 => some (0, σ8)) (fun e3 σ4 => if e3 = 1 then some (1, σ4) else if e3 = 4 then some (2, σ4) else if e3 = 3 then some (3, σ4) else none))
theorem mL_cancel (F : zFx E) (n : Nat) (a0 : Nat) (a1 : Int32) (a2 : Int32) (a3 : Nat) (σ : zW) (o : Int32 × zW) (hf : fL_cancel n a0 a1 a2 a3 σ = some o) : zMX E qL_cancel (.codeWith qL_cancel cL_cancel 5 (some .int) [(0, 10, 13, 21), (0, 10, 17, 50), (0, 10, 21, 15)]) 8 [.inr (.inl a0), .inl a1, .inl a2, .inr (.inl a3)] σ (.inl (some (.int o.1)), o.2) := by
  refine zMX_ofH (fin := zfW) F (by decide +kernel) rfl (Nat.le_of_ble_eq_true rfl) (lv0 := [some (.inr (.inl a0)), some (.inl a1), some (.inl a2), some (.inr (.inl a3)), none]) rfl hf rfl (fun K hk he htab => ?_)
  have hk : zk E K "LotSalesLaw" cL_cancel 5 8 := hk
  unfold fL_cancel
  refine z_run hk hL_cancel_0 0 5 (pc' := 5) (lv' := [some (.inr (.inl a0)), some (.inl a1), some (.inl a2), some (.inr (.inl a3)), none]) (st' := [.inl a2, .inl a1, .inr (.inl a0), .inl 0, .inr (.inl a3)]) rfl ?_
  refine kX7_cancel F hk (z_row hL_cancel_0 5 rfl) wd_681 (by decide) (Nat.le_of_ble_eq_true rfl) (fun x1 σ2 => ?_) (fun e3 σ4 => ?_)
  · refine z_run hk hL_cancel_0 6 1 (pc' := 9) (lv' := [some (.inr (.inl a0)), some (.inl a1), some (.inl a2), some (.inr (.inl a3)), none]) (st' := [.inr (.inr (.inl (x1.toInt64))), .inl 0, .inr (.inl a3)]) rfl ?_
    refine z_sL hk (z_row hL_cancel_0 7 rfl) (fun σ8 => ?_)
    refine z_goto hk (z_row hL_cancel_0 8 rfl) (tgt := 25) rfl ?_
    refine z_run hk hL_cancel_0 18 1 (pc' := 26) (lv' := [some (.inr (.inl a0)), some (.inl a1), some (.inl a2), some (.inr (.inl a3)), none]) (st' := [.inl 0]) rfl ?_
    exact z_iret hk he (z_row hL_cancel_0 19 rfl) rfl
  · refine z_cat0 (own := "LotSalesLaw") ?_
    refine z_catI hk htab (i := 0) (k1 := 1) (hp := 13) rfl (by decide) (by decide) rfl wd_482 wd_517 (by decide) (by decide) (fun q5 => ?_) ?_
    · refine z_run hk hL_cancel_0 9 2 (pc' := 16) (lv' := [some (.inr (.inl a0)), some (.inl a1), some (.inl a2), some (.inr (.inl a3)), some (.inr (.inr (.inr (.inr q5))))]) (st' := [.inl 1]) rfl ?_
      exact z_iret hk he (z_row hL_cancel_0 11 rfl) rfl
    refine z_catI hk htab (i := 1) (k1 := 4) (hp := 17) rfl (by decide) (by decide) rfl wd_680 wd_647 (by decide) (by decide) (fun q6 => ?_) ?_
    · refine z_run hk hL_cancel_0 12 2 (pc' := 20) (lv' := [some (.inr (.inl a0)), some (.inl a1), some (.inl a2), some (.inr (.inl a3)), some (.inr (.inr (.inr (.inr q6))))]) (st' := [.inl 2]) rfl ?_
      exact z_iret hk he (z_row hL_cancel_0 14 rfl) rfl
    refine z_catI hk htab (i := 2) (k1 := 3) (hp := 21) rfl (by decide) (by decide) rfl wd_345 wd_432 (by decide) (by decide) (fun q7 => ?_) ?_
    · refine z_run hk hL_cancel_0 15 2 (pc' := 24) (lv' := [some (.inr (.inl a0)), some (.inl a1), some (.inl a2), some (.inr (.inl a3)), some (.inr (.inr (.inr (.inr q7))))]) (st' := [.inl 3]) rfl ?_
      exact z_iret hk he (z_row hL_cancel_0 17 rfl) rfl
    exact z_catN
theorem kL_cancel {n : Nat} {own : String} {cc : ByteArray} {nL h index : Nat} {α : Type} {fin : α → zO} {σ : zW} {pc : Nat} {lv : zLV} {st : List zV} {a0 : Nat} {a1 : Int32} {a2 : Int32} {a3 : Nat} {c : Int32 → zW → Option α} (F : zFx E) (hk : zk E K own cc nL h) (hd : decode cc pc = .ok (.invokestatic index, 3)) (hl : Cond.methodLink own index qL_cancel ∈ lw_tbl) (hh : 8 + 1 ≤ h) (hs : zcat st ≤ 8) (k : ∀ v s, zG E K fin (c v s) s (pc + 3) lv (.inl v :: st)) : zG E K fin (zb2 (fL_cancel n a0 a1 a2 a3 σ) c) σ pc lv (.inr (.inl a3) :: .inl a2 :: .inl a1 :: .inr (.inl a0) :: st) :=
  z_hW (n := 4) (y := qL_cancel) (As := [.inr (.inl a0), .inl a1, .inl a2, .inr (.inl a3)]) hk hd hl wd_678 wd_0 wd_679 ⟨by decide, by decide, by decide +kernel⟩ ⟨hh, by decide⟩ rfl (fun o ho => mL_cancel F n a0 a1 a2 a3 σ o ho) hs k
abbrev qL_maximum : MethodName := { cls := "LotSalesLaw", name := "maximum", desc := "(LLotSales;II[J)I" }
def fL_maximum (n : Nat) (a0 : Nat) (a1 : Int32) (a2 : Int32) (a3 : Nat) (σ : zW) : Option (Int32 × zW) := zck σ 8 a0 (zbx (fX7_maximum n a0 a1 a2 σ) (fun x1 σ2 => zsL σ2 a3 0 x1 fun σ7 => some (0, σ7)) (fun e3 σ4 => if e3 = 1 then some (1, σ4) else if e3 = 4 then some (2, σ4) else none))
theorem mL_maximum (F : zFx E) (n : Nat) (a0 : Nat) (a1 : Int32) (a2 : Int32) (a3 : Nat) (σ : zW) (o : Int32 × zW) (hf : fL_maximum n a0 a1 a2 a3 σ = some o) : zMX E qL_maximum (.codeWith qL_maximum cL_maximum 5 (some .int) [(0, 10, 13, 21), (0, 10, 17, 50)]) 8 [.inr (.inl a0), .inl a1, .inl a2, .inr (.inl a3)] σ (.inl (some (.int o.1)), o.2) := by
  refine zMX_ofH (fin := zfW) F (by decide +kernel) rfl (Nat.le_of_ble_eq_true rfl) (lv0 := [some (.inr (.inl a0)), some (.inl a1), some (.inl a2), some (.inr (.inl a3)), none]) rfl hf rfl (fun K hk he htab => ?_)
  have hk : zk E K "LotSalesLaw" cL_maximum 5 8 := hk
  unfold fL_maximum
  refine z_run hk hL_maximum_0 0 5 (pc' := 5) (lv' := [some (.inr (.inl a0)), some (.inl a1), some (.inl a2), some (.inr (.inl a3)), none]) (st' := [.inl a2, .inl a1, .inr (.inl a0), .inl 0, .inr (.inl a3)]) rfl ?_
  refine kX7_maximum F hk (z_row hL_maximum_0 5 rfl) wd_692 (by decide) (Nat.le_of_ble_eq_true rfl) (fun x1 σ2 => ?_) (fun e3 σ4 => ?_)
  · refine z_run hk hL_maximum_0 6 1 (pc' := 9) (lv' := [some (.inr (.inl a0)), some (.inl a1), some (.inl a2), some (.inr (.inl a3)), none]) (st' := [.inr (.inr (.inl (x1.toInt64))), .inl 0, .inr (.inl a3)]) rfl ?_
    refine z_sL hk (z_row hL_maximum_0 7 rfl) (fun σ7 => ?_)
    refine z_goto hk (z_row hL_maximum_0 8 rfl) (tgt := 21) rfl ?_
    refine z_run hk hL_maximum_0 15 1 (pc' := 22) (lv' := [some (.inr (.inl a0)), some (.inl a1), some (.inl a2), some (.inr (.inl a3)), none]) (st' := [.inl 0]) rfl ?_
    exact z_iret hk he (z_row hL_maximum_0 16 rfl) rfl
  · refine z_cat0 (own := "LotSalesLaw") ?_
    refine z_catI hk htab (i := 0) (k1 := 1) (hp := 13) rfl (by decide) (by decide) rfl wd_482 wd_517 (by decide) (by decide) (fun q5 => ?_) ?_
    · refine z_run hk hL_maximum_0 9 2 (pc' := 16) (lv' := [some (.inr (.inl a0)), some (.inl a1), some (.inl a2), some (.inr (.inl a3)), some (.inr (.inr (.inr (.inr q5))))]) (st' := [.inl 1]) rfl ?_
      exact z_iret hk he (z_row hL_maximum_0 11 rfl) rfl
    refine z_catI hk htab (i := 1) (k1 := 4) (hp := 17) rfl (by decide) (by decide) rfl wd_680 wd_647 (by decide) (by decide) (fun q6 => ?_) ?_
    · refine z_run hk hL_maximum_0 12 2 (pc' := 20) (lv' := [some (.inr (.inl a0)), some (.inl a1), some (.inl a2), some (.inr (.inl a3)), some (.inr (.inr (.inr (.inr q6))))]) (st' := [.inl 2]) rfl ?_
      exact z_iret hk he (z_row hL_maximum_0 14 rfl) rfl
    exact z_catN
theorem kL_maximum {n : Nat} {own : String} {cc : ByteArray} {nL h index : Nat} {α : Type} {fin : α → zO} {σ : zW} {pc : Nat} {lv : zLV} {st : List zV} {a0 : Nat} {a1 : Int32} {a2 : Int32} {a3 : Nat} {c : Int32 → zW → Option α} (F : zFx E) (hk : zk E K own cc nL h) (hd : decode cc pc = .ok (.invokestatic index, 3)) (hl : Cond.methodLink own index qL_maximum ∈ lw_tbl) (hh : 8 + 1 ≤ h) (hs : zcat st ≤ 8) (k : ∀ v s, zG E K fin (c v s) s (pc + 3) lv (.inl v :: st)) : zG E K fin (zb2 (fL_maximum n a0 a1 a2 a3 σ) c) σ pc lv (.inr (.inl a3) :: .inl a2 :: .inl a1 :: .inr (.inl a0) :: st) :=
  z_hW (n := 4) (y := qL_maximum) (As := [.inr (.inl a0), .inl a1, .inl a2, .inr (.inl a3)]) hk hd hl wd_690 wd_0 wd_691 ⟨by decide, by decide, by decide +kernel⟩ ⟨hh, by decide⟩ rfl (fun o ho => mL_maximum F n a0 a1 a2 a3 σ o ho) hs k
abbrev qL_orders : MethodName := { cls := "LotSalesLaw", name := "orders", desc := "(LLotSales;I[J)I" }
def fL_orders (n : Nat) (a0 : Nat) (a1 : Int32) (a2 : Nat) (σ : zW) : Option (Int32 × zW) := zck σ 8 a0 (zbx (fX7_orders n a0 a1 σ) (fun x1 σ2 => zsL σ2 a2 0 x1 fun σ6 => some (0, σ6)) (fun e3 σ4 => if e3 = 1 then some (1, σ4) else none))
theorem mL_orders (F : zFx E) (n : Nat) (a0 : Nat) (a1 : Int32) (a2 : Nat) (σ : zW) (o : Int32 × zW) (hf : fL_orders n a0 a1 a2 σ = some o) : zMX E qL_orders (.codeWith qL_orders cL_orders 4 (some .int) [(0, 9, 12, 21)]) 8 [.inr (.inl a0), .inl a1, .inr (.inl a2)] σ (.inl (some (.int o.1)), o.2) := by
  refine zMX_ofH (fin := zfW) F (by decide +kernel) rfl (Nat.le_of_ble_eq_true rfl) (lv0 := [some (.inr (.inl a0)), some (.inl a1), some (.inr (.inl a2)), none]) rfl hf rfl (fun K hk he htab => ?_)
  have hk : zk E K "LotSalesLaw" cL_orders 4 8 := hk
  unfold fL_orders
  refine z_run hk hL_orders_0 0 4 (pc' := 4) (lv' := [some (.inr (.inl a0)), some (.inl a1), some (.inr (.inl a2)), none]) (st' := [.inl a1, .inr (.inl a0), .inl 0, .inr (.inl a2)]) rfl ?_
  refine kX7_orders F hk (z_row hL_orders_0 4 rfl) wd_699 (by decide) (Nat.le_of_ble_eq_true rfl) (fun x1 σ2 => ?_) (fun e3 σ4 => ?_)
  · refine z_run hk hL_orders_0 5 1 (pc' := 8) (lv' := [some (.inr (.inl a0)), some (.inl a1), some (.inr (.inl a2)), none]) (st' := [.inr (.inr (.inl (x1.toInt64))), .inl 0, .inr (.inl a2)]) rfl ?_
    refine z_sL hk (z_row hL_orders_0 6 rfl) (fun σ6 => ?_)
    refine z_goto hk (z_row hL_orders_0 7 rfl) (tgt := 15) rfl ?_
    refine z_run hk hL_orders_0 11 1 (pc' := 16) (lv' := [some (.inr (.inl a0)), some (.inl a1), some (.inr (.inl a2)), none]) (st' := [.inl 0]) rfl ?_
    exact z_iret hk he (z_row hL_orders_0 12 rfl) rfl
  · refine z_cat0 (own := "LotSalesLaw") ?_
    refine z_catI hk htab (i := 0) (k1 := 1) (hp := 12) rfl (by decide) (by decide) rfl wd_482 wd_517 (by decide) (by decide) (fun q5 => ?_) ?_
    · refine z_run hk hL_orders_0 8 2 (pc' := 14) (lv' := [some (.inr (.inl a0)), some (.inl a1), some (.inr (.inl a2)), some (.inr (.inr (.inr (.inr q5))))]) (st' := [.inl 1]) rfl ?_
      exact z_iret hk he (z_row hL_orders_0 10 rfl) rfl
    exact z_catN
theorem kL_orders {n : Nat} {own : String} {cc : ByteArray} {nL h index : Nat} {α : Type} {fin : α → zO} {σ : zW} {pc : Nat} {lv : zLV} {st : List zV} {a0 : Nat} {a1 : Int32} {a2 : Nat} {c : Int32 → zW → Option α} (F : zFx E) (hk : zk E K own cc nL h) (hd : decode cc pc = .ok (.invokestatic index, 3)) (hl : Cond.methodLink own index qL_orders ∈ lw_tbl) (hh : 8 + 1 ≤ h) (hs : zcat st ≤ 8) (k : ∀ v s, zG E K fin (c v s) s (pc + 3) lv (.inl v :: st)) : zG E K fin (zb2 (fL_orders n a0 a1 a2 σ) c) σ pc lv (.inr (.inl a2) :: .inl a1 :: .inr (.inl a0) :: st) :=
  z_hW (n := 3) (y := qL_orders) (As := [.inr (.inl a0), .inl a1, .inr (.inl a2)]) hk hd hl wd_697 wd_0 wd_698 ⟨by decide, by decide, by decide +kernel⟩ ⟨hh, by decide⟩ rfl (fun o ho => mL_orders F n a0 a1 a2 σ o ho) hs k
end
