section
variable {E : zE} {K : zC}

abbrev qX8_standing : MethodName := { cls := "LotSalesModel", name := "standing", desc := "(II)I" }
def sX8_standing_132 (n : Nat) (y0 : Int32) (σ : zW) : Option (Int32 × zW) := some (y0, σ)
def sX8_standing_42 (n : Nat) (v0 : Nat) (v1 : Int32) (v2 : Int32) (y0 : Nat) (y1 : Int32) (σ : zW) : Option (Int32 × zW) := zpI σ 9 y0 0 y1 fun σ1 => zgI σ1 9 v0 0 fun x2 => if x2 = 0 then zck σ1 9 v0 (zb (fX8_stand n v0 v1 σ1) fun σ3 => if v2 = 0 then zgI σ3 9 v0 10 fun x4 => some (x4, σ3) else if v2 = 1 then zgI σ3 9 v0 7 fun x5 => some (x5, σ3) else if v2 = 2 then zgI σ3 9 v0 10 fun x6 => zck σ3 9 v0 (zb (fX8_stepAbove n v0 x6 σ3) fun x7 => some (x7, σ3)) else if v2 = 3 then zck σ3 9 v0 (zb (fX8_isMet n v0 v1 σ3) fun x8 => if x8 = 0 then sX8_standing_132 n 0 σ3 else sX8_standing_132 n 1 σ3) else if v2 = 4 then zgI σ3 9 v0 8 fun x9 => some (x9, σ3) else if v2 = 5 then zgI σ3 9 v0 9 fun x10 => some (x10, σ3) else zck σ3 9 v0 (zb (fX8_countingLimits n v0 v1 σ3) fun x11 => some (x11, σ3))) else some (0, σ1)
def fX8_standing (n : Nat) (a0 : Nat) (a1 : Int32) (a2 : Int32) (σ : zW) : Option (Int32 × zW) := zck σ 9 a0 (zb (fX8_isLot n a0 a1 σ) fun x12 => if x12 = 0 then sX8_standing_42 n a0 a1 a2 a0 1 σ else zb (fX8_isIn n a2 0 6 σ) fun x13 => if x13 = 0 then sX8_standing_42 n a0 a1 a2 a0 2 σ else zck σ 9 a0 (zb (fX8_at n a0 a1 3 σ) fun x14 => if x14 = 1 then sX8_standing_42 n a0 a1 a2 a0 0 σ else sX8_standing_42 n a0 a1 a2 a0 3 σ))
theorem gsX8_standing_132 (F : zFx E) (n : Nat) (hk : zk E K "LotSalesModel" cX8_standing 3 7) (he : zend E K (some .int) "standing") (y0 : Int32) (σ : zW) : zG E K zfW (sX8_standing_132 n y0 σ) σ 132 [none, none, none] [.inl y0] := by
  unfold sX8_standing_132
  exact z_iret hk he (z_row hX8_standing_0 52 rfl) rfl
theorem gsX8_standing_42 (F : zFx E) (n : Nat) (hk : zk E K "LotSalesModel" cX8_standing 3 7) (he : zend E K (some .int) "standing") (v0 : Nat) (v1 : Int32) (v2 : Int32) (y0 : Nat) (y1 : Int32) (σ : zW) : zG E K zfW (sX8_standing_42 n v0 v1 v2 y0 y1 σ) σ 42 [some (.inr (.inl v0)), some (.inl v1), some (.inl v2)] [.inl y1, .inr (.inl y0)] := by
  unfold sX8_standing_42
  refine z_pI hk 0 (z_row hX8_standing_0 23 rfl) (ci := 8) rfl rfl wd_1122 rfl rfl rfl (fun σ1 => ?_)
  refine z_run hk hX8_standing_0 24 1 (pc' := 46) (lv' := [some (.inr (.inl v0)), some (.inl v1), some (.inl v2)]) (st' := [.inr (.inl v0)]) rfl ?_
  refine z_gI hk 0 (z_row hX8_standing_0 25 rfl) (ci := 8) rfl rfl wd_1122 (fun x2 => ?_)
  refine z_eq hk (z_row hX8_standing_0 26 rfl) (tgt := 54) rfl ?_ ?_
  · refine z_run hk hX8_standing_0 29 2 (pc' := 56) (lv' := [some (.inr (.inl v0)), some (.inl v1), some (.inl v2)]) (st' := [.inl v1, .inr (.inl v0)]) rfl ?_
    refine kX8_stand F hk (z_row hX8_standing_0 31 rfl) wd_1311 (by decide) (Nat.le_of_ble_eq_true rfl) (fun σ3 => ?_)
    refine z_run hk hX8_standing_0 32 1 (pc' := 60) (lv' := [some (.inr (.inl v0)), some (.inl v1), some (.inl v2)]) (st' := [.inl v2]) rfl ?_
    refine z_tabI hk (z_row hX8_standing_0 33 rfl) (c := 0) (tgt := 100) (by decide) (by decide) rfl rfl ?_ (fun hn0 => ?_)
    · refine z_run hk hX8_standing_0 34 1 (pc' := 101) (lv' := [some (.inr (.inl v0)), some (.inl v1), some (.inl v2)]) (st' := [.inr (.inl v0)]) rfl ?_
      refine z_gI hk 10 (z_row hX8_standing_0 35 rfl) (ci := 8) rfl rfl wd_1132 (fun x4 => ?_)
      exact z_iret hk he (z_row hX8_standing_0 36 rfl) rfl
    refine z_tabI hk (z_row hX8_standing_0 33 rfl) (c := 1) (tgt := 105) (by decide) (by decide) rfl rfl ?_ (fun hn1 => ?_)
    · refine z_run hk hX8_standing_0 37 1 (pc' := 106) (lv' := [some (.inr (.inl v0)), some (.inl v1), some (.inl v2)]) (st' := [.inr (.inl v0)]) rfl ?_
      refine z_gI hk 7 (z_row hX8_standing_0 38 rfl) (ci := 8) rfl rfl wd_1129 (fun x5 => ?_)
      exact z_iret hk he (z_row hX8_standing_0 39 rfl) rfl
    refine z_tabI hk (z_row hX8_standing_0 33 rfl) (c := 2) (tgt := 110) (by decide) (by decide) rfl rfl ?_ (fun hn2 => ?_)
    · refine z_run hk hX8_standing_0 40 2 (pc' := 112) (lv' := [some (.inr (.inl v0)), some (.inl v1), some (.inl v2)]) (st' := [.inr (.inl v0), .inr (.inl v0)]) rfl ?_
      refine z_gI hk 10 (z_row hX8_standing_0 42 rfl) (ci := 8) rfl rfl wd_1132 (fun x6 => ?_)
      refine kX8_stepAbove F hk (z_row hX8_standing_0 43 rfl) wd_1255 (by decide) (Nat.le_of_ble_eq_true rfl) (fun x7 => ?_)
      exact z_iret hk he (z_row hX8_standing_0 44 rfl) rfl
    refine z_tabI hk (z_row hX8_standing_0 33 rfl) (c := 3) (tgt := 119) (by decide) (by decide) rfl rfl ?_ (fun hn3 => ?_)
    · refine z_run hk hX8_standing_0 45 2 (pc' := 121) (lv' := [some (.inr (.inl v0)), some (.inl v1), some (.inl v2)]) (st' := [.inl v1, .inr (.inl v0)]) rfl ?_
      refine kX8_isMet F hk (z_row hX8_standing_0 47 rfl) wd_1376 (by decide) (Nat.le_of_ble_eq_true rfl) (fun x8 => ?_)
      refine z_eq hk (z_row hX8_standing_0 48 rfl) (tgt := 131) rfl ?_ ?_
      · refine z_run hk hX8_standing_0 51 1 (pc' := 132) (lv' := [some (.inr (.inl v0)), some (.inl v1), some (.inl v2)]) (st' := [.inl 0]) rfl ?_
        refine z_mask [false, false, false] rfl ?_
        exact gsX8_standing_132 F n hk he 0 σ3
      · refine z_run hk hX8_standing_0 49 1 (pc' := 128) (lv' := [some (.inr (.inl v0)), some (.inl v1), some (.inl v2)]) (st' := [.inl 1]) rfl ?_
        refine z_goto hk (z_row hX8_standing_0 50 rfl) (tgt := 132) rfl ?_
        refine z_mask [false, false, false] rfl ?_
        exact gsX8_standing_132 F n hk he 1 σ3
    refine z_tabI hk (z_row hX8_standing_0 33 rfl) (c := 4) (tgt := 133) (by decide) (by decide) rfl rfl ?_ (fun hn4 => ?_)
    · refine z_run hk hX8_standing_0 53 1 (pc' := 134) (lv' := [some (.inr (.inl v0)), some (.inl v1), some (.inl v2)]) (st' := [.inr (.inl v0)]) rfl ?_
      refine z_gI hk 8 (z_row hX8_standing_0 54 rfl) (ci := 8) rfl rfl wd_1130 (fun x9 => ?_)
      exact z_iret hk he (z_row hX8_standing_0 55 rfl) rfl
    refine z_tabI hk (z_row hX8_standing_0 33 rfl) (c := 5) (tgt := 138) (by decide) (by decide) rfl rfl ?_ (fun hn5 => ?_)
    · refine z_run hk hX8_standing_0 56 1 (pc' := 139) (lv' := [some (.inr (.inl v0)), some (.inl v1), some (.inl v2)]) (st' := [.inr (.inl v0)]) rfl ?_
      refine z_gI hk 9 (z_row hX8_standing_0 57 rfl) (ci := 8) rfl rfl wd_1131 (fun x10 => ?_)
      exact z_iret hk he (z_row hX8_standing_0 58 rfl) rfl
    have hi0 := z_ne_toInt hn0 (n := 0) (by decide)
    have hi1 := z_ne_toInt hn1 (n := 1) (by decide)
    have hi2 := z_ne_toInt hn2 (n := 2) (by decide)
    have hi3 := z_ne_toInt hn3 (n := 3) (by decide)
    have hi4 := z_ne_toInt hn4 (n := 4) (by decide)
    have hi5 := z_ne_toInt hn5 (n := 5) (by decide)
    refine z_tabO hk (z_row hX8_standing_0 33 rfl) (tgt := 143) (by omega) rfl ?_
    refine z_run hk hX8_standing_0 59 1 (pc' := 144) (lv' := [some (.inr (.inl v0)), some (.inl v1), some (.inl v2)]) (st' := [.inr (.inl v0)]) rfl ?_
    refine z_run hk hX8_standing_1 0 1 (pc' := 145) (lv' := [some (.inr (.inl v0)), some (.inl v1), some (.inl v2)]) (st' := [.inl v1, .inr (.inl v0)]) rfl ?_
    refine kX8_countingLimits F hk (z_row hX8_standing_1 1 rfl) wd_1380 (by decide) (Nat.le_of_ble_eq_true rfl) (fun x11 => ?_)
    exact z_iret hk he (z_row hX8_standing_1 2 rfl) rfl
  · refine z_run hk hX8_standing_0 27 1 (pc' := 53) (lv' := [some (.inr (.inl v0)), some (.inl v1), some (.inl v2)]) (st' := [.inl 0]) rfl ?_
    exact z_iret hk he (z_row hX8_standing_0 28 rfl) rfl
theorem mX8_standing (F : zFx E) (n : Nat) (a0 : Nat) (a1 : Int32) (a2 : Int32) (σ : zW) (o : Int32 × zW) (hf : fX8_standing n a0 a1 a2 σ = some o) : zM E qX8_standing cX8_standing 3 (some .int) 7 [.inr (.inl a0), .inl a1, .inl a2] σ (some (.int o.1)) o.2 := by
  refine zM_of (fin := zfW) F (by decide +kernel) rfl (Nat.le_of_ble_eq_true rfl) (lv0 := [some (.inr (.inl a0)), some (.inl a1), some (.inl a2)]) rfl hf rfl (fun K hk he => ?_)
  have hk : zk E K "LotSalesModel" cX8_standing 3 7 := hk
  unfold fX8_standing
  refine z_run hk hX8_standing_0 0 3 (pc' := 3) (lv' := [some (.inr (.inl a0)), some (.inl a1), some (.inl a2)]) (st' := [.inl a1, .inr (.inl a0), .inr (.inl a0)]) rfl ?_
  refine kX8_isLot F hk (z_row hX8_standing_0 3 rfl) wd_1209 (by decide) (Nat.le_of_ble_eq_true rfl) (fun x12 => ?_)
  refine z_ne hk (z_row hX8_standing_0 4 rfl) (tgt := 13) rfl ?_ ?_
  · refine z_run hk hX8_standing_0 7 3 (pc' := 17) (lv' := [some (.inr (.inl a0)), some (.inl a1), some (.inl a2)]) (st' := [.inl 6, .inl 0, .inl a2, .inr (.inl a0)]) rfl ?_
    refine kX8_isIn F hk (z_row hX8_standing_0 10 rfl) wd_1181 (by decide) (Nat.le_of_ble_eq_true rfl) (fun x13 => ?_)
    refine z_ne hk (z_row hX8_standing_0 11 rfl) (tgt := 27) rfl ?_ ?_
    · refine z_run hk hX8_standing_0 14 3 (pc' := 30) (lv' := [some (.inr (.inl a0)), some (.inl a1), some (.inl a2)]) (st' := [.inl 3, .inl a1, .inr (.inl a0), .inr (.inl a0)]) rfl ?_
      refine kX8_at F hk (z_row hX8_standing_0 17 rfl) wd_1213 (by decide) (Nat.le_of_ble_eq_true rfl) (fun x14 => ?_)
      refine z_run hk hX8_standing_0 18 1 (pc' := 34) (lv' := [some (.inr (.inl a0)), some (.inl a1), some (.inl a2)]) (st' := [.inl 1, .inl x14, .inr (.inl a0)]) rfl ?_
      refine z_ceq hk (z_row hX8_standing_0 19 rfl) (tgt := 41) rfl ?_ ?_
      · refine z_run hk hX8_standing_0 22 1 (pc' := 42) (lv' := [some (.inr (.inl a0)), some (.inl a1), some (.inl a2)]) (st' := [.inl 0, .inr (.inl a0)]) rfl ?_
        exact gsX8_standing_42 F n hk he a0 a1 a2 a0 0 σ
      · refine z_run hk hX8_standing_0 20 1 (pc' := 38) (lv' := [some (.inr (.inl a0)), some (.inl a1), some (.inl a2)]) (st' := [.inl 3, .inr (.inl a0)]) rfl ?_
        refine z_goto hk (z_row hX8_standing_0 21 rfl) (tgt := 42) rfl ?_
        exact gsX8_standing_42 F n hk he a0 a1 a2 a0 3 σ
    · refine z_run hk hX8_standing_0 12 1 (pc' := 24) (lv' := [some (.inr (.inl a0)), some (.inl a1), some (.inl a2)]) (st' := [.inl 2, .inr (.inl a0)]) rfl ?_
      refine z_goto hk (z_row hX8_standing_0 13 rfl) (tgt := 42) rfl ?_
      exact gsX8_standing_42 F n hk he a0 a1 a2 a0 2 σ
  · refine z_run hk hX8_standing_0 5 1 (pc' := 10) (lv' := [some (.inr (.inl a0)), some (.inl a1), some (.inl a2)]) (st' := [.inl 1, .inr (.inl a0)]) rfl ?_
    refine z_goto hk (z_row hX8_standing_0 6 rfl) (tgt := 42) rfl ?_
    exact gsX8_standing_42 F n hk he a0 a1 a2 a0 1 σ
theorem kX8_standing {n : Nat} {own : String} {cc : ByteArray} {nL h index : Nat} {α : Type} {fin : α → zO} {σ : zW} {pc : Nat} {lv : zLV} {st : List zV} {a0 : Nat} {a1 : Int32} {a2 : Int32} {c : Int32 → zW → Option α} (F : zFx E) (hk : zk E K own cc nL h) (hd : decode cc pc = .ok (.invokevirtual index, 3)) (hl : Cond.methodLink own index qX8_standing ∈ lw_tbl) (hh : 7 + 1 ≤ h) (hs : zcat st ≤ 8) (k : ∀ v s, zG E K fin (c v s) s (pc + 3) lv (.inl v :: st)) : zG E K fin (zck σ 9 a0 (zb2 (fX8_standing n a0 a1 a2 σ) c)) σ pc lv (.inl a2 :: .inl a1 :: .inr (.inl a0) :: st) :=
  z_vW (n := 2) (y := qX8_standing) (As := [.inl a1, .inl a2]) hk hd hl wd_1373 wd_1374 wd_10 wd_1375 ⟨by decide, by decide, by decide +kernel⟩ ⟨hh, by decide⟩ (ci := 8) rfl rfl rfl (fun o ho => mX8_standing F n a0 a1 a2 σ o ho) hs k
abbrev qX8_limit : MethodName := { cls := "LotSalesModel", name := "limit", desc := "(III)I" }
def sX8_limit_104 (n : Nat) (y0 : Int32) (σ : zW) : Option (Int32 × zW) := some (y0, σ)
def sX8_limit_41 (n : Nat) (v0 : Nat) (v1 : Int32) (v2 : Int32) (v3 : Int32) (y0 : Nat) (y1 : Int32) (σ : zW) : Option (Int32 × zW) := zpI σ 9 y0 0 y1 fun σ1 => zgI σ1 9 v0 0 fun x2 => if x2 = 0 then zck σ1 9 v0 (zb (fX8_ranked n v0 v1 v2 σ1) fun x3 => if x3 = (-1) then zck σ1 9 v0 (zb2 (fX8_fail n v0 4 σ1) fun x6 σ7 => some (x6, σ7)) else if v3 = 0 then sX8_limit_104 n x3 σ1 else if v3 = 1 then zck σ1 9 v0 (zb (fX8_limitOf n v0 v1 x3 σ1) fun x5 => sX8_limit_104 n x5 σ1) else zck σ1 9 v0 (zb (fX8_timeOf n v0 v1 x3 σ1) fun x4 => sX8_limit_104 n x4 σ1)) else some (0, σ1)
def fX8_limit (n : Nat) (a0 : Nat) (a1 : Int32) (a2 : Int32) (a3 : Int32) (σ : zW) : Option (Int32 × zW) := zck σ 9 a0 (zb (fX8_isLot n a0 a1 σ) fun x8 => if x8 = 0 then sX8_limit_41 n a0 a1 a2 a3 a0 1 σ else zb (fX8_isIn n a3 0 2 σ) fun x9 => if x9 = 0 then sX8_limit_41 n a0 a1 a2 a3 a0 2 σ else zck σ 9 a0 (zb (fX8_at n a0 a1 3 σ) fun x10 => if x10 = 1 then sX8_limit_41 n a0 a1 a2 a3 a0 0 σ else sX8_limit_41 n a0 a1 a2 a3 a0 3 σ))
theorem gsX8_limit_104 (F : zFx E) (n : Nat) (hk : zk E K "LotSalesModel" cX8_limit 5 6) (he : zend E K (some .int) "limit") (y0 : Int32) (σ : zW) : zG E K zfW (sX8_limit_104 n y0 σ) σ 104 [none, none, none, none, none] [.inl y0] := by
  unfold sX8_limit_104
  exact z_iret hk he (z_row hX8_limit_0 57 rfl) rfl
theorem gsX8_limit_41 (F : zFx E) (n : Nat) (hk : zk E K "LotSalesModel" cX8_limit 5 6) (he : zend E K (some .int) "limit") (v0 : Nat) (v1 : Int32) (v2 : Int32) (v3 : Int32) (y0 : Nat) (y1 : Int32) (σ : zW) : zG E K zfW (sX8_limit_41 n v0 v1 v2 v3 y0 y1 σ) σ 41 [some (.inr (.inl v0)), some (.inl v1), some (.inl v2), some (.inl v3), none] [.inl y1, .inr (.inl y0)] := by
  unfold sX8_limit_41
  refine z_pI hk 0 (z_row hX8_limit_0 23 rfl) (ci := 8) rfl rfl wd_1122 rfl rfl rfl (fun σ1 => ?_)
  refine z_run hk hX8_limit_0 24 1 (pc' := 45) (lv' := [some (.inr (.inl v0)), some (.inl v1), some (.inl v2), some (.inl v3), none]) (st' := [.inr (.inl v0)]) rfl ?_
  refine z_gI hk 0 (z_row hX8_limit_0 25 rfl) (ci := 8) rfl rfl wd_1122 (fun x2 => ?_)
  refine z_eq hk (z_row hX8_limit_0 26 rfl) (tgt := 53) rfl ?_ ?_
  · refine z_run hk hX8_limit_0 29 3 (pc' := 56) (lv' := [some (.inr (.inl v0)), some (.inl v1), some (.inl v2), some (.inl v3), none]) (st' := [.inl v2, .inl v1, .inr (.inl v0)]) rfl ?_
    refine kX8_ranked F hk (z_row hX8_limit_0 32 rfl) wd_1319 (by decide) (Nat.le_of_ble_eq_true rfl) (fun x3 => ?_)
    refine z_run hk hX8_limit_0 33 3 (pc' := 64) (lv' := [some (.inr (.inl v0)), some (.inl v1), some (.inl v2), some (.inl v3), some (.inl x3)]) (st' := [.inl (-1), .inl x3]) rfl ?_
    refine z_cne hk (z_row hX8_limit_0 36 rfl) (tgt := 73) rfl ?_ ?_
    · refine z_run hk hX8_limit_0 41 1 (pc' := 74) (lv' := [some (.inr (.inl v0)), some (.inl v1), some (.inl v2), some (.inl v3), some (.inl x3)]) (st' := [.inl v3]) rfl ?_
      refine z_ne hk (z_row hX8_limit_0 42 rfl) (tgt := 82) rfl ?_ ?_
      · refine z_run hk hX8_limit_0 45 2 (pc' := 84) (lv' := [some (.inr (.inl v0)), some (.inl v1), some (.inl v2), some (.inl v3), some (.inl x3)]) (st' := [.inl 1, .inl v3]) rfl ?_
        refine z_cne hk (z_row hX8_limit_0 47 rfl) (tgt := 97) rfl ?_ ?_
        · refine z_run hk hX8_limit_0 53 3 (pc' := 101) (lv' := [some (.inr (.inl v0)), some (.inl v1), some (.inl v2), some (.inl v3), some (.inl x3)]) (st' := [.inl x3, .inl v1, .inr (.inl v0)]) rfl ?_
          refine kX8_timeOf F hk (z_row hX8_limit_0 56 rfl) wd_1332 (by decide) (Nat.le_of_ble_eq_true rfl) (fun x4 => ?_)
          refine z_mask [false, false, false, false, false] rfl ?_
          exact gsX8_limit_104 F n hk he x4 σ1
        · refine z_run hk hX8_limit_0 48 3 (pc' := 91) (lv' := [some (.inr (.inl v0)), some (.inl v1), some (.inl v2), some (.inl v3), some (.inl x3)]) (st' := [.inl x3, .inl v1, .inr (.inl v0)]) rfl ?_
          refine kX8_limitOf F hk (z_row hX8_limit_0 51 rfl) wd_1323 (by decide) (Nat.le_of_ble_eq_true rfl) (fun x5 => ?_)
          refine z_goto hk (z_row hX8_limit_0 52 rfl) (tgt := 104) rfl ?_
          refine z_mask [false, false, false, false, false] rfl ?_
          exact gsX8_limit_104 F n hk he x5 σ1
      · refine z_run hk hX8_limit_0 43 1 (pc' := 79) (lv' := [some (.inr (.inl v0)), some (.inl v1), some (.inl v2), some (.inl v3), some (.inl x3)]) (st' := [.inl x3]) rfl ?_
        refine z_goto hk (z_row hX8_limit_0 44 rfl) (tgt := 104) rfl ?_
        refine z_mask [false, false, false, false, false] rfl ?_
        exact gsX8_limit_104 F n hk he x3 σ1
    · refine z_run hk hX8_limit_0 37 2 (pc' := 69) (lv' := [some (.inr (.inl v0)), some (.inl v1), some (.inl v2), some (.inl v3), some (.inl x3)]) (st' := [.inl 4, .inr (.inl v0)]) rfl ?_
      refine kX8_fail F hk (z_row hX8_limit_0 39 rfl) wd_1221 (by decide) (Nat.le_of_ble_eq_true rfl) (fun x6 σ7 => ?_)
      exact z_iret hk he (z_row hX8_limit_0 40 rfl) rfl
  · refine z_run hk hX8_limit_0 27 1 (pc' := 52) (lv' := [some (.inr (.inl v0)), some (.inl v1), some (.inl v2), some (.inl v3), none]) (st' := [.inl 0]) rfl ?_
    exact z_iret hk he (z_row hX8_limit_0 28 rfl) rfl
theorem mX8_limit (F : zFx E) (n : Nat) (a0 : Nat) (a1 : Int32) (a2 : Int32) (a3 : Int32) (σ : zW) (o : Int32 × zW) (hf : fX8_limit n a0 a1 a2 a3 σ = some o) : zM E qX8_limit cX8_limit 5 (some .int) 6 [.inr (.inl a0), .inl a1, .inl a2, .inl a3] σ (some (.int o.1)) o.2 := by
  refine zM_of (fin := zfW) F (by decide +kernel) rfl (Nat.le_of_ble_eq_true rfl) (lv0 := [some (.inr (.inl a0)), some (.inl a1), some (.inl a2), some (.inl a3), none]) rfl hf rfl (fun K hk he => ?_)
  have hk : zk E K "LotSalesModel" cX8_limit 5 6 := hk
  unfold fX8_limit
  refine z_run hk hX8_limit_0 0 3 (pc' := 3) (lv' := [some (.inr (.inl a0)), some (.inl a1), some (.inl a2), some (.inl a3), none]) (st' := [.inl a1, .inr (.inl a0), .inr (.inl a0)]) rfl ?_
  refine kX8_isLot F hk (z_row hX8_limit_0 3 rfl) wd_1209 (by decide) (Nat.le_of_ble_eq_true rfl) (fun x8 => ?_)
  refine z_ne hk (z_row hX8_limit_0 4 rfl) (tgt := 13) rfl ?_ ?_
  · refine z_run hk hX8_limit_0 7 3 (pc' := 16) (lv' := [some (.inr (.inl a0)), some (.inl a1), some (.inl a2), some (.inl a3), none]) (st' := [.inl 2, .inl 0, .inl a3, .inr (.inl a0)]) rfl ?_
    refine kX8_isIn F hk (z_row hX8_limit_0 10 rfl) wd_1181 (by decide) (Nat.le_of_ble_eq_true rfl) (fun x9 => ?_)
    refine z_ne hk (z_row hX8_limit_0 11 rfl) (tgt := 26) rfl ?_ ?_
    · refine z_run hk hX8_limit_0 14 3 (pc' := 29) (lv' := [some (.inr (.inl a0)), some (.inl a1), some (.inl a2), some (.inl a3), none]) (st' := [.inl 3, .inl a1, .inr (.inl a0), .inr (.inl a0)]) rfl ?_
      refine kX8_at F hk (z_row hX8_limit_0 17 rfl) wd_1213 (by decide) (Nat.le_of_ble_eq_true rfl) (fun x10 => ?_)
      refine z_run hk hX8_limit_0 18 1 (pc' := 33) (lv' := [some (.inr (.inl a0)), some (.inl a1), some (.inl a2), some (.inl a3), none]) (st' := [.inl 1, .inl x10, .inr (.inl a0)]) rfl ?_
      refine z_ceq hk (z_row hX8_limit_0 19 rfl) (tgt := 40) rfl ?_ ?_
      · refine z_run hk hX8_limit_0 22 1 (pc' := 41) (lv' := [some (.inr (.inl a0)), some (.inl a1), some (.inl a2), some (.inl a3), none]) (st' := [.inl 0, .inr (.inl a0)]) rfl ?_
        exact gsX8_limit_41 F n hk he a0 a1 a2 a3 a0 0 σ
      · refine z_run hk hX8_limit_0 20 1 (pc' := 37) (lv' := [some (.inr (.inl a0)), some (.inl a1), some (.inl a2), some (.inl a3), none]) (st' := [.inl 3, .inr (.inl a0)]) rfl ?_
        refine z_goto hk (z_row hX8_limit_0 21 rfl) (tgt := 41) rfl ?_
        exact gsX8_limit_41 F n hk he a0 a1 a2 a3 a0 3 σ
    · refine z_run hk hX8_limit_0 12 1 (pc' := 23) (lv' := [some (.inr (.inl a0)), some (.inl a1), some (.inl a2), some (.inl a3), none]) (st' := [.inl 2, .inr (.inl a0)]) rfl ?_
      refine z_goto hk (z_row hX8_limit_0 13 rfl) (tgt := 41) rfl ?_
      exact gsX8_limit_41 F n hk he a0 a1 a2 a3 a0 2 σ
  · refine z_run hk hX8_limit_0 5 1 (pc' := 10) (lv' := [some (.inr (.inl a0)), some (.inl a1), some (.inl a2), some (.inl a3), none]) (st' := [.inl 1, .inr (.inl a0)]) rfl ?_
    refine z_goto hk (z_row hX8_limit_0 6 rfl) (tgt := 41) rfl ?_
    exact gsX8_limit_41 F n hk he a0 a1 a2 a3 a0 1 σ
theorem kX8_limit {n : Nat} {own : String} {cc : ByteArray} {nL h index : Nat} {α : Type} {fin : α → zO} {σ : zW} {pc : Nat} {lv : zLV} {st : List zV} {a0 : Nat} {a1 : Int32} {a2 : Int32} {a3 : Int32} {c : Int32 → zW → Option α} (F : zFx E) (hk : zk E K own cc nL h) (hd : decode cc pc = .ok (.invokevirtual index, 3)) (hl : Cond.methodLink own index qX8_limit ∈ lw_tbl) (hh : 6 + 1 ≤ h) (hs : zcat st ≤ 8) (k : ∀ v s, zG E K fin (c v s) s (pc + 3) lv (.inl v :: st)) : zG E K fin (zck σ 9 a0 (zb2 (fX8_limit n a0 a1 a2 a3 σ) c)) σ pc lv (.inl a3 :: .inl a2 :: .inl a1 :: .inr (.inl a0) :: st) :=
  z_vW (n := 3) (y := qX8_limit) (As := [.inl a1, .inl a2, .inl a3]) hk hd hl wd_1385 wd_1386 wd_10 wd_1387 ⟨by decide, by decide, by decide +kernel⟩ ⟨hh, by decide⟩ (ci := 8) rfl rfl rfl (fun o ho => mX8_limit F n a0 a1 a2 a3 σ o ho) hs k
abbrev qX8_priceIf : MethodName := { cls := "LotSalesModel", name := "priceIf", desc := "(III)I" }
def sX8_priceIf_130 (n : Nat) (v0 : Nat) (v1 : Int32) (v2 : Int32) (v5 : Int32) (v6 : Int32) (σ : zW) : Option (Int32 × zW) := zck σ 9 v0 (zb (fX8_stand n v0 v1 σ) fun σ1 => zgI σ1 9 v0 10 fun x2 => zck σ1 9 v0 (zb (fX8_putBid n v0 v1 v2 v5 v6 σ1) fun σ3 => some (x2, σ3)))
def sX8_priceIf_57 (n : Nat) (v0 : Nat) (v1 : Int32) (v2 : Int32) (v3 : Int32) (y0 : Nat) (y1 : Int32) (σ : zW) : Option (Int32 × zW) := zpI σ 9 y0 0 y1 fun σ4 => zgI σ4 9 v0 0 fun x5 => if x5 = 0 then zgR σ4 9 v0 1 fun x6 => zaI σ4 x6 (584 + ((10 * v1) + v2)) fun x7 => zgR σ4 9 v0 1 fun x8 => zaI σ4 x8 (784 + ((10 * v1) + v2)) fun x9 => zck σ4 9 v0 (zb (fX8_limitOf n v0 v1 v2 σ4) fun x10 => if x10 < v3 then zgR σ4 9 v0 1 fun x11 => zaI σ4 x11 984 fun x12 => zck σ4 9 v0 (zb (fX8_putBid n v0 v1 v2 v3 (x12 + 1) σ4) fun σ13 => sX8_priceIf_130 n v0 v1 v2 x7 x9 σ13) else sX8_priceIf_130 n v0 v1 v2 x7 x9 σ4) else some (0, σ4)
def sX8_priceIf_16 (n : Nat) (v0 : Nat) (v1 : Int32) (v2 : Int32) (v3 : Int32) (y0 : Nat) (σ : zW) : Option (Int32 × zW) := sX8_priceIf_57 n v0 v1 v2 v3 y0 1 σ
def sX8_priceIf_38 (n : Nat) (v0 : Nat) (v1 : Int32) (v2 : Int32) (v3 : Int32) (y0 : Nat) (σ : zW) : Option (Int32 × zW) := sX8_priceIf_57 n v0 v1 v2 v3 y0 2 σ
def fX8_priceIf (n : Nat) (a0 : Nat) (a1 : Int32) (a2 : Int32) (a3 : Int32) (σ : zW) : Option (Int32 × zW) := zck σ 9 a0 (zb (fX8_isLot n a0 a1 σ) fun x14 => if x14 = 0 then sX8_priceIf_16 n a0 a1 a2 a3 a0 σ else zb (fX8_isBidder n a2 σ) fun x15 => if x15 = 0 then sX8_priceIf_16 n a0 a1 a2 a3 a0 σ else zb (fX8_isIn n a3 1 99999 σ) fun x16 => if x16 = 0 then sX8_priceIf_38 n a0 a1 a2 a3 a0 σ else zck σ 9 a0 (zb (fX8_isStep n a0 a3 σ) fun x17 => if x17 = 0 then sX8_priceIf_38 n a0 a1 a2 a3 a0 σ else zck σ 9 a0 (zb (fX8_at n a0 a1 3 σ) fun x18 => if x18 = 1 then sX8_priceIf_57 n a0 a1 a2 a3 a0 0 σ else sX8_priceIf_57 n a0 a1 a2 a3 a0 3 σ)))
theorem gsX8_priceIf_130 (F : zFx E) (n : Nat) (hk : zk E K "LotSalesModel" cX8_priceIf 8 7) (he : zend E K (some .int) "priceIf") (v0 : Nat) (v1 : Int32) (v2 : Int32) (v5 : Int32) (v6 : Int32) (σ : zW) : zG E K zfW (sX8_priceIf_130 n v0 v1 v2 v5 v6 σ) σ 130 [some (.inr (.inl v0)), some (.inl v1), some (.inl v2), none, none, some (.inl v5), some (.inl v6), none] [] := by
  unfold sX8_priceIf_130
  refine z_run hk hX8_priceIf_1 13 2 (pc' := 132) (lv' := [some (.inr (.inl v0)), some (.inl v1), some (.inl v2), none, none, some (.inl v5), some (.inl v6), none]) (st' := [.inl v1, .inr (.inl v0)]) rfl ?_
  refine kX8_stand F hk (z_row hX8_priceIf_1 15 rfl) wd_1311 (by decide) (Nat.le_of_ble_eq_true rfl) (fun σ1 => ?_)
  refine z_run hk hX8_priceIf_1 16 1 (pc' := 136) (lv' := [some (.inr (.inl v0)), some (.inl v1), some (.inl v2), none, none, some (.inl v5), some (.inl v6), none]) (st' := [.inr (.inl v0)]) rfl ?_
  refine z_gI hk 10 (z_row hX8_priceIf_1 17 rfl) (ci := 8) rfl rfl wd_1132 (fun x2 => ?_)
  refine z_run hk hX8_priceIf_1 18 6 (pc' := 148) (lv' := [some (.inr (.inl v0)), some (.inl v1), some (.inl v2), none, none, some (.inl v5), some (.inl v6), some (.inl x2)]) (st' := [.inl v6, .inl v5, .inl v2, .inl v1, .inr (.inl v0)]) rfl ?_
  refine kX8_putBid F hk (z_row hX8_priceIf_1 24 rfl) wd_1201 (by decide) (Nat.le_of_ble_eq_true rfl) (fun σ3 => ?_)
  refine z_run hk hX8_priceIf_1 25 1 (pc' := 153) (lv' := [some (.inr (.inl v0)), some (.inl v1), some (.inl v2), none, none, some (.inl v5), some (.inl v6), some (.inl x2)]) (st' := [.inl x2]) rfl ?_
  exact z_iret hk he (z_row hX8_priceIf_1 26 rfl) rfl
theorem gsX8_priceIf_57 (F : zFx E) (n : Nat) (hk : zk E K "LotSalesModel" cX8_priceIf 8 7) (he : zend E K (some .int) "priceIf") (v0 : Nat) (v1 : Int32) (v2 : Int32) (v3 : Int32) (y0 : Nat) (y1 : Int32) (σ : zW) : zG E K zfW (sX8_priceIf_57 n v0 v1 v2 v3 y0 y1 σ) σ 57 [some (.inr (.inl v0)), some (.inl v1), some (.inl v2), some (.inl v3), none, none, none, none] [.inl y1, .inr (.inl y0)] := by
  unfold sX8_priceIf_57
  refine z_pI hk 0 (z_row hX8_priceIf_0 30 rfl) (ci := 8) rfl rfl wd_1122 rfl rfl rfl (fun σ4 => ?_)
  refine z_run hk hX8_priceIf_0 31 1 (pc' := 61) (lv' := [some (.inr (.inl v0)), some (.inl v1), some (.inl v2), some (.inl v3), none, none, none, none]) (st' := [.inr (.inl v0)]) rfl ?_
  refine z_gI hk 0 (z_row hX8_priceIf_0 32 rfl) (ci := 8) rfl rfl wd_1122 (fun x5 => ?_)
  refine z_eq hk (z_row hX8_priceIf_0 33 rfl) (tgt := 69) rfl ?_ ?_
  · refine z_run hk hX8_priceIf_0 36 7 (pc' := 78) (lv' := [some (.inr (.inl v0)), some (.inl v1), some (.inl v2), some (.inl v3), some (.inl ((10 * v1) + v2)), none, none, none]) (st' := [.inr (.inl v0)]) rfl ?_
    refine z_gR hk 1 (z_row hX8_priceIf_0 43 rfl) (ci := 8) rfl rfl wd_1123 (fun x6 => ?_)
    refine z_run hk hX8_priceIf_0 44 3 (pc' := 87) (lv' := [some (.inr (.inl v0)), some (.inl v1), some (.inl v2), some (.inl v3), some (.inl ((10 * v1) + v2)), none, none, none]) (st' := [.inl (584 + ((10 * v1) + v2)), .inr (.inl x6)]) rfl ?_
    refine z_aI hk (z_row hX8_priceIf_0 47 rfl) (fun x7 => ?_)
    refine z_run hk hX8_priceIf_0 48 2 (pc' := 91) (lv' := [some (.inr (.inl v0)), some (.inl v1), some (.inl v2), some (.inl v3), some (.inl ((10 * v1) + v2)), some (.inl x7), none, none]) (st' := [.inr (.inl v0)]) rfl ?_
    refine z_gR hk 1 (z_row hX8_priceIf_0 50 rfl) (ci := 8) rfl rfl wd_1123 (fun x8 => ?_)
    refine z_run hk hX8_priceIf_0 51 3 (pc' := 100) (lv' := [some (.inr (.inl v0)), some (.inl v1), some (.inl v2), some (.inl v3), some (.inl ((10 * v1) + v2)), some (.inl x7), none, none]) (st' := [.inl (784 + ((10 * v1) + v2)), .inr (.inl x8)]) rfl ?_
    refine z_aI hk (z_row hX8_priceIf_0 54 rfl) (fun x9 => ?_)
    refine z_run hk hX8_priceIf_0 55 5 (pc' := 107) (lv' := [some (.inr (.inl v0)), some (.inl v1), some (.inl v2), some (.inl v3), some (.inl ((10 * v1) + v2)), some (.inl x7), some (.inl x9), none]) (st' := [.inl v2, .inl v1, .inr (.inl v0), .inl v3]) rfl ?_
    refine kX8_limitOf F hk (z_row hX8_priceIf_1 0 rfl) wd_1323 (by decide) (Nat.le_of_ble_eq_true rfl) (fun x10 => ?_)
    refine z_cle hk (z_row hX8_priceIf_1 1 rfl) (tgt := 130) rfl ?_ ?_
    · refine z_mask [true, true, true, false, false, true, true, false] rfl ?_
      exact gsX8_priceIf_130 F n hk he v0 v1 v2 x7 x9 σ4
    · refine z_run hk hX8_priceIf_1 2 5 (pc' := 118) (lv' := [some (.inr (.inl v0)), some (.inl v1), some (.inl v2), some (.inl v3), some (.inl ((10 * v1) + v2)), some (.inl x7), some (.inl x9), none]) (st' := [.inr (.inl v0), .inl v3, .inl v2, .inl v1, .inr (.inl v0)]) rfl ?_
      refine z_gR hk 1 (z_row hX8_priceIf_1 7 rfl) (ci := 8) rfl rfl wd_1123 (fun x11 => ?_)
      refine z_run hk hX8_priceIf_1 8 1 (pc' := 124) (lv' := [some (.inr (.inl v0)), some (.inl v1), some (.inl v2), some (.inl v3), some (.inl ((10 * v1) + v2)), some (.inl x7), some (.inl x9), none]) (st' := [.inl 984, .inr (.inl x11), .inl v3, .inl v2, .inl v1, .inr (.inl v0)]) rfl ?_
      refine z_aI hk (z_row hX8_priceIf_1 9 rfl) (fun x12 => ?_)
      refine z_run hk hX8_priceIf_1 10 2 (pc' := 127) (lv' := [some (.inr (.inl v0)), some (.inl v1), some (.inl v2), some (.inl v3), some (.inl ((10 * v1) + v2)), some (.inl x7), some (.inl x9), none]) (st' := [.inl (x12 + 1), .inl v3, .inl v2, .inl v1, .inr (.inl v0)]) rfl ?_
      refine kX8_putBid F hk (z_row hX8_priceIf_1 12 rfl) wd_1201 (by decide) (Nat.le_of_ble_eq_true rfl) (fun σ13 => ?_)
      refine z_mask [true, true, true, false, false, true, true, false] rfl ?_
      exact gsX8_priceIf_130 F n hk he v0 v1 v2 x7 x9 σ13
  · refine z_run hk hX8_priceIf_0 34 1 (pc' := 68) (lv' := [some (.inr (.inl v0)), some (.inl v1), some (.inl v2), some (.inl v3), none, none, none, none]) (st' := [.inl 0]) rfl ?_
    exact z_iret hk he (z_row hX8_priceIf_0 35 rfl) rfl
theorem gsX8_priceIf_16 (F : zFx E) (n : Nat) (hk : zk E K "LotSalesModel" cX8_priceIf 8 7) (he : zend E K (some .int) "priceIf") (v0 : Nat) (v1 : Int32) (v2 : Int32) (v3 : Int32) (y0 : Nat) (σ : zW) : zG E K zfW (sX8_priceIf_16 n v0 v1 v2 v3 y0 σ) σ 16 [some (.inr (.inl v0)), some (.inl v1), some (.inl v2), some (.inl v3), none, none, none, none] [.inr (.inl y0)] := by
  unfold sX8_priceIf_16
  refine z_run hk hX8_priceIf_0 8 1 (pc' := 17) (lv' := [some (.inr (.inl v0)), some (.inl v1), some (.inl v2), some (.inl v3), none, none, none, none]) (st' := [.inl 1, .inr (.inl y0)]) rfl ?_
  refine z_goto hk (z_row hX8_priceIf_0 9 rfl) (tgt := 57) rfl ?_
  exact gsX8_priceIf_57 F n hk he v0 v1 v2 v3 y0 1 σ
theorem gsX8_priceIf_38 (F : zFx E) (n : Nat) (hk : zk E K "LotSalesModel" cX8_priceIf 8 7) (he : zend E K (some .int) "priceIf") (v0 : Nat) (v1 : Int32) (v2 : Int32) (v3 : Int32) (y0 : Nat) (σ : zW) : zG E K zfW (sX8_priceIf_38 n v0 v1 v2 v3 y0 σ) σ 38 [some (.inr (.inl v0)), some (.inl v1), some (.inl v2), some (.inl v3), none, none, none, none] [.inr (.inl y0)] := by
  unfold sX8_priceIf_38
  refine z_run hk hX8_priceIf_0 19 1 (pc' := 39) (lv' := [some (.inr (.inl v0)), some (.inl v1), some (.inl v2), some (.inl v3), none, none, none, none]) (st' := [.inl 2, .inr (.inl y0)]) rfl ?_
  refine z_goto hk (z_row hX8_priceIf_0 20 rfl) (tgt := 57) rfl ?_
  exact gsX8_priceIf_57 F n hk he v0 v1 v2 v3 y0 2 σ
theorem mX8_priceIf (F : zFx E) (n : Nat) (a0 : Nat) (a1 : Int32) (a2 : Int32) (a3 : Int32) (σ : zW) (o : Int32 × zW) (hf : fX8_priceIf n a0 a1 a2 a3 σ = some o) : zM E qX8_priceIf cX8_priceIf 8 (some .int) 7 [.inr (.inl a0), .inl a1, .inl a2, .inl a3] σ (some (.int o.1)) o.2 := by
  refine zM_of (fin := zfW) F (by decide +kernel) rfl (Nat.le_of_ble_eq_true rfl) (lv0 := [some (.inr (.inl a0)), some (.inl a1), some (.inl a2), some (.inl a3), none, none, none, none]) rfl hf rfl (fun K hk he => ?_)
  have hk : zk E K "LotSalesModel" cX8_priceIf 8 7 := hk
  unfold fX8_priceIf
  refine z_run hk hX8_priceIf_0 0 3 (pc' := 3) (lv' := [some (.inr (.inl a0)), some (.inl a1), some (.inl a2), some (.inl a3), none, none, none, none]) (st' := [.inl a1, .inr (.inl a0), .inr (.inl a0)]) rfl ?_
  refine kX8_isLot F hk (z_row hX8_priceIf_0 3 rfl) wd_1209 (by decide) (Nat.le_of_ble_eq_true rfl) (fun x14 => ?_)
  refine z_eq hk (z_row hX8_priceIf_0 4 rfl) (tgt := 16) rfl ?_ ?_
  · exact gsX8_priceIf_16 F n hk he a0 a1 a2 a3 a0 σ
  · refine z_run hk hX8_priceIf_0 5 1 (pc' := 10) (lv' := [some (.inr (.inl a0)), some (.inl a1), some (.inl a2), some (.inl a3), none, none, none, none]) (st' := [.inl a2, .inr (.inl a0)]) rfl ?_
    refine kX8_isBidder F hk (z_row hX8_priceIf_0 6 rfl) wd_1263 (by decide) (Nat.le_of_ble_eq_true rfl) (fun x15 => ?_)
    refine z_ne hk (z_row hX8_priceIf_0 7 rfl) (tgt := 20) rfl ?_ ?_
    · refine z_run hk hX8_priceIf_0 10 2 (pc' := 22) (lv' := [some (.inr (.inl a0)), some (.inl a1), some (.inl a2), some (.inl a3), none, none, none, none]) (st' := [.inl 1, .inl a3, .inr (.inl a0)]) rfl ?_
      refine z_ldc hk (z_row hX8_priceIf_0 12 rfl) wd_1241 ?_
      refine kX8_isIn F hk (z_row hX8_priceIf_0 13 rfl) wd_1181 (by decide) (Nat.le_of_ble_eq_true rfl) (fun x16 => ?_)
      refine z_eq hk (z_row hX8_priceIf_0 14 rfl) (tgt := 38) rfl ?_ ?_
      · exact gsX8_priceIf_38 F n hk he a0 a1 a2 a3 a0 σ
      · refine z_run hk hX8_priceIf_0 15 2 (pc' := 32) (lv' := [some (.inr (.inl a0)), some (.inl a1), some (.inl a2), some (.inl a3), none, none, none, none]) (st' := [.inl a3, .inr (.inl a0), .inr (.inl a0)]) rfl ?_
        refine kX8_isStep F hk (z_row hX8_priceIf_0 17 rfl) wd_1349 (by decide) (Nat.le_of_ble_eq_true rfl) (fun x17 => ?_)
        refine z_ne hk (z_row hX8_priceIf_0 18 rfl) (tgt := 42) rfl ?_ ?_
        · refine z_run hk hX8_priceIf_0 21 3 (pc' := 45) (lv' := [some (.inr (.inl a0)), some (.inl a1), some (.inl a2), some (.inl a3), none, none, none, none]) (st' := [.inl 3, .inl a1, .inr (.inl a0), .inr (.inl a0)]) rfl ?_
          refine kX8_at F hk (z_row hX8_priceIf_0 24 rfl) wd_1213 (by decide) (Nat.le_of_ble_eq_true rfl) (fun x18 => ?_)
          refine z_run hk hX8_priceIf_0 25 1 (pc' := 49) (lv' := [some (.inr (.inl a0)), some (.inl a1), some (.inl a2), some (.inl a3), none, none, none, none]) (st' := [.inl 1, .inl x18, .inr (.inl a0)]) rfl ?_
          refine z_ceq hk (z_row hX8_priceIf_0 26 rfl) (tgt := 56) rfl ?_ ?_
          · refine z_run hk hX8_priceIf_0 29 1 (pc' := 57) (lv' := [some (.inr (.inl a0)), some (.inl a1), some (.inl a2), some (.inl a3), none, none, none, none]) (st' := [.inl 0, .inr (.inl a0)]) rfl ?_
            exact gsX8_priceIf_57 F n hk he a0 a1 a2 a3 a0 0 σ
          · refine z_run hk hX8_priceIf_0 27 1 (pc' := 53) (lv' := [some (.inr (.inl a0)), some (.inl a1), some (.inl a2), some (.inl a3), none, none, none, none]) (st' := [.inl 3, .inr (.inl a0)]) rfl ?_
            refine z_goto hk (z_row hX8_priceIf_0 28 rfl) (tgt := 57) rfl ?_
            exact gsX8_priceIf_57 F n hk he a0 a1 a2 a3 a0 3 σ
        · exact gsX8_priceIf_38 F n hk he a0 a1 a2 a3 a0 σ
    · exact gsX8_priceIf_16 F n hk he a0 a1 a2 a3 a0 σ
theorem kX8_priceIf {n : Nat} {own : String} {cc : ByteArray} {nL h index : Nat} {α : Type} {fin : α → zO} {σ : zW} {pc : Nat} {lv : zLV} {st : List zV} {a0 : Nat} {a1 : Int32} {a2 : Int32} {a3 : Int32} {c : Int32 → zW → Option α} (F : zFx E) (hk : zk E K own cc nL h) (hd : decode cc pc = .ok (.invokevirtual index, 3)) (hl : Cond.methodLink own index qX8_priceIf ∈ lw_tbl) (hh : 7 + 1 ≤ h) (hs : zcat st ≤ 8) (k : ∀ v s, zG E K fin (c v s) s (pc + 3) lv (.inl v :: st)) : zG E K fin (zck σ 9 a0 (zb2 (fX8_priceIf n a0 a1 a2 a3 σ) c)) σ pc lv (.inl a3 :: .inl a2 :: .inl a1 :: .inr (.inl a0) :: st) :=
  z_vW (n := 3) (y := qX8_priceIf) (As := [.inl a1, .inl a2, .inl a3]) hk hd hl wd_1389 wd_1390 wd_10 wd_1391 ⟨by decide, by decide, by decide +kernel⟩ ⟨hh, by decide⟩ (ci := 8) rfl rfl rfl (fun o ho => mX8_priceIf F n a0 a1 a2 a3 σ o ho) hs k
abbrev qX8_close : MethodName := { cls := "LotSalesModel", name := "close", desc := "(I)I" }
def sX8_close_195 (n : Nat) (v0 : Nat) (v1 : Int32) (v2 : Int32) (σ : zW) : Option (Int32 × zW) := zck σ 9 v0 (zb2 (fX8_removeOrders n v0 v1 σ) fun x1 σ2 => some (v2, σ2))
def sX8_close_165 (n : Nat) (v0 : Nat) (v1 : Int32) (v2 : Int32) (v3 : Int32) (y0 : Nat) (y1 : Int32) (y2 : Int32) (y3 : Int32) (σ : zW) : Option (Int32 × zW) := zck σ 9 y0 (zb (fX8_set n y0 y1 y2 y3 σ) fun σ3 => zgR σ3 9 v0 1 fun x4 => zck σ3 9 v0 (zb (fX8_at n v0 v1 0 σ3) fun x5 => zaI σ3 x4 (985 + x5) fun x6 => zsI σ3 x4 (985 + x5) (x6 + v3) fun σ7 => zck σ7 9 v0 (zb (fX8_note n v0 4 v1 (-1) v3 σ7) fun σ8 => sX8_close_195 n v0 v1 v2 σ8)))
def sX8_close_28 (n : Nat) (v0 : Nat) (v1 : Int32) (y0 : Nat) (y1 : Int32) (σ : zW) : Option (Int32 × zW) := zpI σ 9 y0 0 y1 fun σ9 => zgI σ9 9 v0 0 fun x10 => if x10 = 0 then zck σ9 9 v0 (zb (fX8_keep n v0 σ9) fun σ11 => zck σ11 9 v0 (zb (fX8_stand n v0 v1 σ11) fun σ12 => zck σ12 9 v0 (zb (fX8_isMet n v0 v1 σ12) fun x13 => if x13 = 0 then zck σ12 9 v0 (zb (fX8_at n v0 v1 2 σ12) fun x14 => zdv 100 (zck σ12 9 v0 (zb (fX8_set n v0 v1 3 3 σ12) fun σ15 => zgI σ15 9 v0 7 fun x16 => if x16 = (-1) then sX8_close_165 n v0 v1 0 ((x14 * 2) / 100) v0 v1 5 1 σ15 else zgI σ15 9 v0 7 fun x17 => if x17 = 10 then sX8_close_165 n v0 v1 0 ((x14 * 2) / 100) v0 v1 5 2 σ15 else sX8_close_165 n v0 v1 0 ((x14 * 2) / 100) v0 v1 5 3 σ15))) else zgI σ12 9 v0 10 fun x18 => zck σ12 9 v0 (zb (fX8_set n v0 v1 3 2 σ12) fun σ19 => zck σ19 9 v0 (zb (fX8_set n v0 v1 5 0 σ19) fun σ20 => zgI σ20 9 v0 7 fun x21 => zck σ20 9 v0 (zb (fX8_set n v0 v1 6 x21 σ20) fun σ22 => zgI σ22 9 v0 10 fun x23 => zck σ22 9 v0 (zb (fX8_set n v0 v1 7 x23 σ22) fun σ24 => zgI σ24 9 v0 7 fun x25 => zgI σ24 9 v0 10 fun x26 => zck σ24 9 v0 (zb (fX8_note n v0 3 v1 x25 x26 σ24) fun σ27 => sX8_close_195 n v0 v1 x18 σ27)))))))) else some (0, σ9)
def fX8_close (n : Nat) (a0 : Nat) (a1 : Int32) (σ : zW) : Option (Int32 × zW) := zck σ 9 a0 (zb (fX8_isLot n a0 a1 σ) fun x28 => if x28 = 0 then sX8_close_28 n a0 a1 a0 1 σ else zck σ 9 a0 (zb (fX8_at n a0 a1 3 σ) fun x29 => if x29 = 1 then sX8_close_28 n a0 a1 a0 0 σ else sX8_close_28 n a0 a1 a0 2 σ))
theorem gsX8_close_195 (F : zFx E) (n : Nat) (hk : zk E K "LotSalesModel" cX8_close 4 7) (he : zend E K (some .int) "close") (v0 : Nat) (v1 : Int32) (v2 : Int32) (σ : zW) : zG E K zfW (sX8_close_195 n v0 v1 v2 σ) σ 195 [some (.inr (.inl v0)), some (.inl v1), some (.inl v2), none] [] := by
  unfold sX8_close_195
  refine z_run hk hX8_close_1 57 2 (pc' := 197) (lv' := [some (.inr (.inl v0)), some (.inl v1), some (.inl v2), none]) (st' := [.inl v1, .inr (.inl v0)]) rfl ?_
  refine kX8_removeOrders F hk (z_row hX8_close_1 59 rfl) wd_1396 (by decide) (Nat.le_of_ble_eq_true rfl) (fun x1 σ2 => ?_)
  refine z_run hk hX8_close_2 0 2 (pc' := 202) (lv' := [some (.inr (.inl v0)), some (.inl v1), some (.inl v2), some (.inl x1)]) (st' := [.inl v2]) rfl ?_
  exact z_iret hk he (z_row hX8_close_2 2 rfl) rfl
theorem gsX8_close_165 (F : zFx E) (n : Nat) (hk : zk E K "LotSalesModel" cX8_close 4 7) (he : zend E K (some .int) "close") (v0 : Nat) (v1 : Int32) (v2 : Int32) (v3 : Int32) (y0 : Nat) (y1 : Int32) (y2 : Int32) (y3 : Int32) (σ : zW) : zG E K zfW (sX8_close_165 n v0 v1 v2 v3 y0 y1 y2 y3 σ) σ 165 [some (.inr (.inl v0)), some (.inl v1), some (.inl v2), some (.inl v3)] [.inl y3, .inl y2, .inl y1, .inr (.inl y0)] := by
  unfold sX8_close_165
  refine kX8_set F hk (z_row hX8_close_1 37 rfl) wd_1193 (by decide) (Nat.le_of_ble_eq_true rfl) (fun σ3 => ?_)
  refine z_run hk hX8_close_1 38 1 (pc' := 169) (lv' := [some (.inr (.inl v0)), some (.inl v1), some (.inl v2), some (.inl v3)]) (st' := [.inr (.inl v0)]) rfl ?_
  refine z_gR hk 1 (z_row hX8_close_1 39 rfl) (ci := 8) rfl rfl wd_1123 (fun x4 => ?_)
  refine z_run hk hX8_close_1 40 4 (pc' := 178) (lv' := [some (.inr (.inl v0)), some (.inl v1), some (.inl v2), some (.inl v3)]) (st' := [.inl 0, .inl v1, .inr (.inl v0), .inl 985, .inr (.inl x4)]) rfl ?_
  refine kX8_at F hk (z_row hX8_close_1 44 rfl) wd_1213 (by decide) (Nat.le_of_ble_eq_true rfl) (fun x5 => ?_)
  refine z_run hk hX8_close_1 45 2 (pc' := 183) (lv' := [some (.inr (.inl v0)), some (.inl v1), some (.inl v2), some (.inl v3)]) (st' := [.inl (985 + x5), .inr (.inl x4), .inl (985 + x5), .inr (.inl x4)]) rfl ?_
  refine z_aI hk (z_row hX8_close_1 47 rfl) (fun x6 => ?_)
  refine z_run hk hX8_close_1 48 2 (pc' := 186) (lv' := [some (.inr (.inl v0)), some (.inl v1), some (.inl v2), some (.inl v3)]) (st' := [.inl (x6 + v3), .inl (985 + x5), .inr (.inl x4)]) rfl ?_
  refine z_sI hk (z_row hX8_close_1 50 rfl) (fun σ7 => ?_)
  refine z_run hk hX8_close_1 51 5 (pc' := 192) (lv' := [some (.inr (.inl v0)), some (.inl v1), some (.inl v2), some (.inl v3)]) (st' := [.inl v3, .inl (-1), .inl v1, .inl 4, .inr (.inl v0)]) rfl ?_
  refine kX8_note F hk (z_row hX8_close_1 56 rfl) wd_1291 (by decide) (Nat.le_of_ble_eq_true rfl) (fun σ8 => ?_)
  refine z_mask [true, true, true, false] rfl ?_
  exact gsX8_close_195 F n hk he v0 v1 v2 σ8
theorem gsX8_close_28 (F : zFx E) (n : Nat) (hk : zk E K "LotSalesModel" cX8_close 4 7) (he : zend E K (some .int) "close") (v0 : Nat) (v1 : Int32) (y0 : Nat) (y1 : Int32) (σ : zW) : zG E K zfW (sX8_close_28 n v0 v1 y0 y1 σ) σ 28 [some (.inr (.inl v0)), some (.inl v1), none, none] [.inl y1, .inr (.inl y0)] := by
  unfold sX8_close_28
  refine z_pI hk 0 (z_row hX8_close_0 16 rfl) (ci := 8) rfl rfl wd_1122 rfl rfl rfl (fun σ9 => ?_)
  refine z_run hk hX8_close_0 17 1 (pc' := 32) (lv' := [some (.inr (.inl v0)), some (.inl v1), none, none]) (st' := [.inr (.inl v0)]) rfl ?_
  refine z_gI hk 0 (z_row hX8_close_0 18 rfl) (ci := 8) rfl rfl wd_1122 (fun x10 => ?_)
  refine z_eq hk (z_row hX8_close_0 19 rfl) (tgt := 40) rfl ?_ ?_
  · refine z_run hk hX8_close_0 22 1 (pc' := 41) (lv' := [some (.inr (.inl v0)), some (.inl v1), none, none]) (st' := [.inr (.inl v0)]) rfl ?_
    refine kX8_keep F hk (z_row hX8_close_0 23 rfl) wd_1185 (by decide) (Nat.le_of_ble_eq_true rfl) (fun σ11 => ?_)
    refine z_run hk hX8_close_0 24 2 (pc' := 46) (lv' := [some (.inr (.inl v0)), some (.inl v1), none, none]) (st' := [.inl v1, .inr (.inl v0)]) rfl ?_
    refine kX8_stand F hk (z_row hX8_close_0 26 rfl) wd_1311 (by decide) (Nat.le_of_ble_eq_true rfl) (fun σ12 => ?_)
    refine z_run hk hX8_close_0 27 4 (pc' := 53) (lv' := [some (.inr (.inl v0)), some (.inl v1), some (.inl 0), none]) (st' := [.inl v1, .inr (.inl v0)]) rfl ?_
    refine kX8_isMet F hk (z_row hX8_close_0 31 rfl) wd_1376 (by decide) (Nat.le_of_ble_eq_true rfl) (fun x13 => ?_)
    refine z_eq hk (z_row hX8_close_0 32 rfl) (tgt := 117) rfl ?_ ?_
    · refine z_run hk hX8_close_1 7 3 (pc' := 120) (lv' := [some (.inr (.inl v0)), some (.inl v1), some (.inl 0), none]) (st' := [.inl 2, .inl v1, .inr (.inl v0)]) rfl ?_
      refine kX8_at F hk (z_row hX8_close_1 10 rfl) wd_1213 (by decide) (Nat.le_of_ble_eq_true rfl) (fun x14 => ?_)
      refine z_run hk hX8_close_1 11 3 (pc' := 127) (lv' := [some (.inr (.inl v0)), some (.inl v1), some (.inl 0), none]) (st' := [.inl 100, .inl (x14 * 2)]) rfl ?_
      refine z_idiv hk (z_row hX8_close_1 14 rfl) ?_
      refine z_run hk hX8_close_1 15 5 (pc' := 133) (lv' := [some (.inr (.inl v0)), some (.inl v1), some (.inl 0), some (.inl ((x14 * 2) / 100))]) (st' := [.inl 3, .inl 3, .inl v1, .inr (.inl v0)]) rfl ?_
      refine kX8_set F hk (z_row hX8_close_1 20 rfl) wd_1193 (by decide) (Nat.le_of_ble_eq_true rfl) (fun σ15 => ?_)
      refine z_run hk hX8_close_1 21 4 (pc' := 140) (lv' := [some (.inr (.inl v0)), some (.inl v1), some (.inl 0), some (.inl ((x14 * 2) / 100))]) (st' := [.inr (.inl v0), .inl 5, .inl v1, .inr (.inl v0)]) rfl ?_
      refine z_gI hk 7 (z_row hX8_close_1 25 rfl) (ci := 8) rfl rfl wd_1129 (fun x16 => ?_)
      refine z_run hk hX8_close_1 26 1 (pc' := 144) (lv' := [some (.inr (.inl v0)), some (.inl v1), some (.inl 0), some (.inl ((x14 * 2) / 100))]) (st' := [.inl (-1), .inl x16, .inl 5, .inl v1, .inr (.inl v0)]) rfl ?_
      refine z_cne hk (z_row hX8_close_1 27 rfl) (tgt := 151) rfl ?_ ?_
      · refine z_run hk hX8_close_1 30 1 (pc' := 152) (lv' := [some (.inr (.inl v0)), some (.inl v1), some (.inl 0), some (.inl ((x14 * 2) / 100))]) (st' := [.inr (.inl v0), .inl 5, .inl v1, .inr (.inl v0)]) rfl ?_
        refine z_gI hk 7 (z_row hX8_close_1 31 rfl) (ci := 8) rfl rfl wd_1129 (fun x17 => ?_)
        refine z_run hk hX8_close_1 32 1 (pc' := 157) (lv' := [some (.inr (.inl v0)), some (.inl v1), some (.inl 0), some (.inl ((x14 * 2) / 100))]) (st' := [.inl 10, .inl x17, .inl 5, .inl v1, .inr (.inl v0)]) rfl ?_
        refine z_cne hk (z_row hX8_close_1 33 rfl) (tgt := 164) rfl ?_ ?_
        · refine z_run hk hX8_close_1 36 1 (pc' := 165) (lv' := [some (.inr (.inl v0)), some (.inl v1), some (.inl 0), some (.inl ((x14 * 2) / 100))]) (st' := [.inl 3, .inl 5, .inl v1, .inr (.inl v0)]) rfl ?_
          exact gsX8_close_165 F n hk he v0 v1 0 ((x14 * 2) / 100) v0 v1 5 3 σ15
        · refine z_run hk hX8_close_1 34 1 (pc' := 161) (lv' := [some (.inr (.inl v0)), some (.inl v1), some (.inl 0), some (.inl ((x14 * 2) / 100))]) (st' := [.inl 2, .inl 5, .inl v1, .inr (.inl v0)]) rfl ?_
          refine z_goto hk (z_row hX8_close_1 35 rfl) (tgt := 165) rfl ?_
          exact gsX8_close_165 F n hk he v0 v1 0 ((x14 * 2) / 100) v0 v1 5 2 σ15
      · refine z_run hk hX8_close_1 28 1 (pc' := 148) (lv' := [some (.inr (.inl v0)), some (.inl v1), some (.inl 0), some (.inl ((x14 * 2) / 100))]) (st' := [.inl 1, .inl 5, .inl v1, .inr (.inl v0)]) rfl ?_
        refine z_goto hk (z_row hX8_close_1 29 rfl) (tgt := 165) rfl ?_
        exact gsX8_close_165 F n hk he v0 v1 0 ((x14 * 2) / 100) v0 v1 5 1 σ15
    · refine z_run hk hX8_close_0 33 1 (pc' := 60) (lv' := [some (.inr (.inl v0)), some (.inl v1), some (.inl 0), none]) (st' := [.inr (.inl v0)]) rfl ?_
      refine z_gI hk 10 (z_row hX8_close_0 34 rfl) (ci := 8) rfl rfl wd_1132 (fun x18 => ?_)
      refine z_run hk hX8_close_0 35 5 (pc' := 68) (lv' := [some (.inr (.inl v0)), some (.inl v1), some (.inl x18), none]) (st' := [.inl 2, .inl 3, .inl v1, .inr (.inl v0)]) rfl ?_
      refine kX8_set F hk (z_row hX8_close_0 40 rfl) wd_1193 (by decide) (Nat.le_of_ble_eq_true rfl) (fun σ19 => ?_)
      refine z_run hk hX8_close_0 41 4 (pc' := 75) (lv' := [some (.inr (.inl v0)), some (.inl v1), some (.inl x18), none]) (st' := [.inl 0, .inl 5, .inl v1, .inr (.inl v0)]) rfl ?_
      refine kX8_set F hk (z_row hX8_close_0 45 rfl) wd_1193 (by decide) (Nat.le_of_ble_eq_true rfl) (fun σ20 => ?_)
      refine z_run hk hX8_close_0 46 4 (pc' := 83) (lv' := [some (.inr (.inl v0)), some (.inl v1), some (.inl x18), none]) (st' := [.inr (.inl v0), .inl 6, .inl v1, .inr (.inl v0)]) rfl ?_
      refine z_gI hk 7 (z_row hX8_close_0 50 rfl) (ci := 8) rfl rfl wd_1129 (fun x21 => ?_)
      refine kX8_set F hk (z_row hX8_close_0 51 rfl) wd_1193 (by decide) (Nat.le_of_ble_eq_true rfl) (fun σ22 => ?_)
      refine z_run hk hX8_close_0 52 4 (pc' := 94) (lv' := [some (.inr (.inl v0)), some (.inl v1), some (.inl x18), none]) (st' := [.inr (.inl v0), .inl 7, .inl v1, .inr (.inl v0)]) rfl ?_
      refine z_gI hk 10 (z_row hX8_close_0 56 rfl) (ci := 8) rfl rfl wd_1132 (fun x23 => ?_)
      refine kX8_set F hk (z_row hX8_close_0 57 rfl) wd_1193 (by decide) (Nat.le_of_ble_eq_true rfl) (fun σ24 => ?_)
      refine z_run hk hX8_close_0 58 2 (pc' := 102) (lv' := [some (.inr (.inl v0)), some (.inl v1), some (.inl x18), none]) (st' := [.inl 3, .inr (.inl v0)]) rfl ?_
      refine z_run hk hX8_close_1 0 2 (pc' := 104) (lv' := [some (.inr (.inl v0)), some (.inl v1), some (.inl x18), none]) (st' := [.inr (.inl v0), .inl v1, .inl 3, .inr (.inl v0)]) rfl ?_
      refine z_gI hk 7 (z_row hX8_close_1 2 rfl) (ci := 8) rfl rfl wd_1129 (fun x25 => ?_)
      refine z_run hk hX8_close_1 3 1 (pc' := 108) (lv' := [some (.inr (.inl v0)), some (.inl v1), some (.inl x18), none]) (st' := [.inr (.inl v0), .inl x25, .inl v1, .inl 3, .inr (.inl v0)]) rfl ?_
      refine z_gI hk 10 (z_row hX8_close_1 4 rfl) (ci := 8) rfl rfl wd_1132 (fun x26 => ?_)
      refine kX8_note F hk (z_row hX8_close_1 5 rfl) wd_1291 (by decide) (Nat.le_of_ble_eq_true rfl) (fun σ27 => ?_)
      refine z_goto hk (z_row hX8_close_1 6 rfl) (tgt := 195) rfl ?_
      exact gsX8_close_195 F n hk he v0 v1 x18 σ27
  · refine z_run hk hX8_close_0 20 1 (pc' := 39) (lv' := [some (.inr (.inl v0)), some (.inl v1), none, none]) (st' := [.inl 0]) rfl ?_
    exact z_iret hk he (z_row hX8_close_0 21 rfl) rfl
theorem mX8_close (F : zFx E) (n : Nat) (a0 : Nat) (a1 : Int32) (σ : zW) (o : Int32 × zW) (hf : fX8_close n a0 a1 σ = some o) : zM E qX8_close cX8_close 4 (some .int) 7 [.inr (.inl a0), .inl a1] σ (some (.int o.1)) o.2 := by
  refine zM_of (fin := zfW) F (by decide +kernel) rfl (Nat.le_of_ble_eq_true rfl) (lv0 := [some (.inr (.inl a0)), some (.inl a1), none, none]) rfl hf rfl (fun K hk he => ?_)
  have hk : zk E K "LotSalesModel" cX8_close 4 7 := hk
  unfold fX8_close
  refine z_run hk hX8_close_0 0 3 (pc' := 3) (lv' := [some (.inr (.inl a0)), some (.inl a1), none, none]) (st' := [.inl a1, .inr (.inl a0), .inr (.inl a0)]) rfl ?_
  refine kX8_isLot F hk (z_row hX8_close_0 3 rfl) wd_1209 (by decide) (Nat.le_of_ble_eq_true rfl) (fun x28 => ?_)
  refine z_ne hk (z_row hX8_close_0 4 rfl) (tgt := 13) rfl ?_ ?_
  · refine z_run hk hX8_close_0 7 3 (pc' := 16) (lv' := [some (.inr (.inl a0)), some (.inl a1), none, none]) (st' := [.inl 3, .inl a1, .inr (.inl a0), .inr (.inl a0)]) rfl ?_
    refine kX8_at F hk (z_row hX8_close_0 10 rfl) wd_1213 (by decide) (Nat.le_of_ble_eq_true rfl) (fun x29 => ?_)
    refine z_run hk hX8_close_0 11 1 (pc' := 20) (lv' := [some (.inr (.inl a0)), some (.inl a1), none, none]) (st' := [.inl 1, .inl x29, .inr (.inl a0)]) rfl ?_
    refine z_ceq hk (z_row hX8_close_0 12 rfl) (tgt := 27) rfl ?_ ?_
    · refine z_run hk hX8_close_0 15 1 (pc' := 28) (lv' := [some (.inr (.inl a0)), some (.inl a1), none, none]) (st' := [.inl 0, .inr (.inl a0)]) rfl ?_
      exact gsX8_close_28 F n hk he a0 a1 a0 0 σ
    · refine z_run hk hX8_close_0 13 1 (pc' := 24) (lv' := [some (.inr (.inl a0)), some (.inl a1), none, none]) (st' := [.inl 2, .inr (.inl a0)]) rfl ?_
      refine z_goto hk (z_row hX8_close_0 14 rfl) (tgt := 28) rfl ?_
      exact gsX8_close_28 F n hk he a0 a1 a0 2 σ
  · refine z_run hk hX8_close_0 5 1 (pc' := 10) (lv' := [some (.inr (.inl a0)), some (.inl a1), none, none]) (st' := [.inl 1, .inr (.inl a0)]) rfl ?_
    refine z_goto hk (z_row hX8_close_0 6 rfl) (tgt := 28) rfl ?_
    exact gsX8_close_28 F n hk he a0 a1 a0 1 σ
theorem kX8_close {n : Nat} {own : String} {cc : ByteArray} {nL h index : Nat} {α : Type} {fin : α → zO} {σ : zW} {pc : Nat} {lv : zLV} {st : List zV} {a0 : Nat} {a1 : Int32} {c : Int32 → zW → Option α} (F : zFx E) (hk : zk E K own cc nL h) (hd : decode cc pc = .ok (.invokevirtual index, 3)) (hl : Cond.methodLink own index qX8_close ∈ lw_tbl) (hh : 7 + 1 ≤ h) (hs : zcat st ≤ 8) (k : ∀ v s, zG E K fin (c v s) s (pc + 3) lv (.inl v :: st)) : zG E K fin (zck σ 9 a0 (zb2 (fX8_close n a0 a1 σ) c)) σ pc lv (.inl a1 :: .inr (.inl a0) :: st) :=
  z_vW (n := 1) (y := qX8_close) (As := [.inl a1]) hk hd hl wd_1393 wd_1394 wd_10 wd_1395 ⟨by decide, by decide, by decide +kernel⟩ ⟨hh, by decide⟩ (ci := 8) rfl rfl rfl (fun o ho => mX8_close F n a0 a1 σ o ho) hs k
abbrev qX8_withdraw : MethodName := { cls := "LotSalesModel", name := "withdraw", desc := "(I)I" }
def sX8_withdraw_27 (n : Nat) (v0 : Nat) (v1 : Int32) (y0 : Nat) (y1 : Int32) (σ : zW) : Option (Int32 × zW) := zpI σ 9 y0 0 y1 fun σ1 => zgI σ1 9 v0 0 fun x2 => if x2 = 0 then zck σ1 9 v0 (zb (fX8_keep n v0 σ1) fun σ3 => zck σ3 9 v0 (zb (fX8_set n v0 v1 3 4 σ3) fun σ4 => zck σ4 9 v0 (zb (fX8_note n v0 5 v1 (-1) 0 σ4) fun σ5 => zck σ5 9 v0 (zb2 (fX8_removeOrders n v0 v1 σ5) fun x6 σ7 => some (x6, σ7))))) else some (0, σ1)
def fX8_withdraw (n : Nat) (a0 : Nat) (a1 : Int32) (σ : zW) : Option (Int32 × zW) := zck σ 9 a0 (zb (fX8_isLot n a0 a1 σ) fun x8 => if x8 = 0 then sX8_withdraw_27 n a0 a1 a0 1 σ else zck σ 9 a0 (zb (fX8_at n a0 a1 3 σ) fun x9 => if x9 = 0 then sX8_withdraw_27 n a0 a1 a0 0 σ else sX8_withdraw_27 n a0 a1 a0 2 σ))
theorem gsX8_withdraw_27 (F : zFx E) (n : Nat) (hk : zk E K "LotSalesModel" cX8_withdraw 2 3) (he : zend E K (some .int) "withdraw") (v0 : Nat) (v1 : Int32) (y0 : Nat) (y1 : Int32) (σ : zW) : zG E K zfW (sX8_withdraw_27 n v0 v1 y0 y1 σ) σ 27 [some (.inr (.inl v0)), some (.inl v1)] [.inl y1, .inr (.inl y0)] := by
  unfold sX8_withdraw_27
  refine z_pI hk 0 (z_row hX8_withdraw_0 15 rfl) (ci := 8) rfl rfl wd_1122 rfl rfl rfl (fun σ1 => ?_)
  refine z_run hk hX8_withdraw_0 16 1 (pc' := 31) (lv' := [some (.inr (.inl v0)), some (.inl v1)]) (st' := [.inr (.inl v0)]) rfl ?_
  refine z_gI hk 0 (z_row hX8_withdraw_0 17 rfl) (ci := 8) rfl rfl wd_1122 (fun x2 => ?_)
  refine z_eq hk (z_row hX8_withdraw_0 18 rfl) (tgt := 39) rfl ?_ ?_
  · refine z_run hk hX8_withdraw_0 21 1 (pc' := 40) (lv' := [some (.inr (.inl v0)), some (.inl v1)]) (st' := [.inr (.inl v0)]) rfl ?_
    refine kX8_keep F hk (z_row hX8_withdraw_0 22 rfl) wd_1185 (by decide) (Nat.le_of_ble_eq_true rfl) (fun σ3 => ?_)
    refine z_run hk hX8_withdraw_0 23 4 (pc' := 47) (lv' := [some (.inr (.inl v0)), some (.inl v1)]) (st' := [.inl 4, .inl 3, .inl v1, .inr (.inl v0)]) rfl ?_
    refine kX8_set F hk (z_row hX8_withdraw_0 27 rfl) wd_1193 (by decide) (Nat.le_of_ble_eq_true rfl) (fun σ4 => ?_)
    refine z_run hk hX8_withdraw_0 28 5 (pc' := 55) (lv' := [some (.inr (.inl v0)), some (.inl v1)]) (st' := [.inl 0, .inl (-1), .inl v1, .inl 5, .inr (.inl v0)]) rfl ?_
    refine kX8_note F hk (z_row hX8_withdraw_0 33 rfl) wd_1291 (by decide) (Nat.le_of_ble_eq_true rfl) (fun σ5 => ?_)
    refine z_run hk hX8_withdraw_0 34 2 (pc' := 60) (lv' := [some (.inr (.inl v0)), some (.inl v1)]) (st' := [.inl v1, .inr (.inl v0)]) rfl ?_
    refine kX8_removeOrders F hk (z_row hX8_withdraw_0 36 rfl) wd_1396 (by decide) (Nat.le_of_ble_eq_true rfl) (fun x6 σ7 => ?_)
    exact z_iret hk he (z_row hX8_withdraw_0 37 rfl) rfl
  · refine z_run hk hX8_withdraw_0 19 1 (pc' := 38) (lv' := [some (.inr (.inl v0)), some (.inl v1)]) (st' := [.inl 0]) rfl ?_
    exact z_iret hk he (z_row hX8_withdraw_0 20 rfl) rfl
theorem mX8_withdraw (F : zFx E) (n : Nat) (a0 : Nat) (a1 : Int32) (σ : zW) (o : Int32 × zW) (hf : fX8_withdraw n a0 a1 σ = some o) : zM E qX8_withdraw cX8_withdraw 2 (some .int) 3 [.inr (.inl a0), .inl a1] σ (some (.int o.1)) o.2 := by
  refine zM_of (fin := zfW) F (by decide +kernel) rfl (Nat.le_of_ble_eq_true rfl) (lv0 := [some (.inr (.inl a0)), some (.inl a1)]) rfl hf rfl (fun K hk he => ?_)
  have hk : zk E K "LotSalesModel" cX8_withdraw 2 3 := hk
  unfold fX8_withdraw
  refine z_run hk hX8_withdraw_0 0 3 (pc' := 3) (lv' := [some (.inr (.inl a0)), some (.inl a1)]) (st' := [.inl a1, .inr (.inl a0), .inr (.inl a0)]) rfl ?_
  refine kX8_isLot F hk (z_row hX8_withdraw_0 3 rfl) wd_1209 (by decide) (Nat.le_of_ble_eq_true rfl) (fun x8 => ?_)
  refine z_ne hk (z_row hX8_withdraw_0 4 rfl) (tgt := 13) rfl ?_ ?_
  · refine z_run hk hX8_withdraw_0 7 3 (pc' := 16) (lv' := [some (.inr (.inl a0)), some (.inl a1)]) (st' := [.inl 3, .inl a1, .inr (.inl a0), .inr (.inl a0)]) rfl ?_
    refine kX8_at F hk (z_row hX8_withdraw_0 10 rfl) wd_1213 (by decide) (Nat.le_of_ble_eq_true rfl) (fun x9 => ?_)
    refine z_eq hk (z_row hX8_withdraw_0 11 rfl) (tgt := 26) rfl ?_ ?_
    · refine z_run hk hX8_withdraw_0 14 1 (pc' := 27) (lv' := [some (.inr (.inl a0)), some (.inl a1)]) (st' := [.inl 0, .inr (.inl a0)]) rfl ?_
      exact gsX8_withdraw_27 F n hk he a0 a1 a0 0 σ
    · refine z_run hk hX8_withdraw_0 12 1 (pc' := 23) (lv' := [some (.inr (.inl a0)), some (.inl a1)]) (st' := [.inl 2, .inr (.inl a0)]) rfl ?_
      refine z_goto hk (z_row hX8_withdraw_0 13 rfl) (tgt := 27) rfl ?_
      exact gsX8_withdraw_27 F n hk he a0 a1 a0 2 σ
  · refine z_run hk hX8_withdraw_0 5 1 (pc' := 10) (lv' := [some (.inr (.inl a0)), some (.inl a1)]) (st' := [.inl 1, .inr (.inl a0)]) rfl ?_
    refine z_goto hk (z_row hX8_withdraw_0 6 rfl) (tgt := 27) rfl ?_
    exact gsX8_withdraw_27 F n hk he a0 a1 a0 1 σ
theorem kX8_withdraw {n : Nat} {own : String} {cc : ByteArray} {nL h index : Nat} {α : Type} {fin : α → zO} {σ : zW} {pc : Nat} {lv : zLV} {st : List zV} {a0 : Nat} {a1 : Int32} {c : Int32 → zW → Option α} (F : zFx E) (hk : zk E K own cc nL h) (hd : decode cc pc = .ok (.invokevirtual index, 3)) (hl : Cond.methodLink own index qX8_withdraw ∈ lw_tbl) (hh : 3 + 1 ≤ h) (hs : zcat st ≤ 8) (k : ∀ v s, zG E K fin (c v s) s (pc + 3) lv (.inl v :: st)) : zG E K fin (zck σ 9 a0 (zb2 (fX8_withdraw n a0 a1 σ) c)) σ pc lv (.inl a1 :: .inr (.inl a0) :: st) :=
  z_vW (n := 1) (y := qX8_withdraw) (As := [.inl a1]) hk hd hl wd_1401 wd_1402 wd_10 wd_1403 ⟨by decide, by decide, by decide +kernel⟩ ⟨hh, by decide⟩ (ci := 8) rfl rfl rfl (fun o ho => mX8_withdraw F n a0 a1 σ o ho) hs k
abbrev qX8_offer : MethodName := { cls := "LotSalesModel", name := "offer", desc := "(II)I" }
def sX8_offer_46 (n : Nat) (v0 : Nat) (v1 : Int32) (v2 : Int32) (y0 : Nat) (y1 : Int32) (σ : zW) : Option (Int32 × zW) := zpI σ 9 y0 0 y1 fun σ1 => zgI σ1 9 v0 0 fun x2 => if x2 = 0 then zck σ1 9 v0 (zb (fX8_keep n v0 σ1) fun σ3 => zck σ3 9 v0 (zb (fX8_at n v0 v1 2 σ3) fun x4 => zck σ3 9 v0 (zb (fX8_set n v0 v1 2 v2 σ3) fun σ5 => zck σ5 9 v0 (zb (fX8_set n v0 v1 3 0 σ5) fun σ6 => zck σ6 9 v0 (zb (fX8_note n v0 8 v1 (-1) v2 σ6) fun σ7 => some (x4, σ7)))))) else some (0, σ1)
def sX8_offer_27 (n : Nat) (v0 : Nat) (v1 : Int32) (v2 : Int32) (y0 : Nat) (σ : zW) : Option (Int32 × zW) := sX8_offer_46 n v0 v1 v2 y0 2 σ
def fX8_offer (n : Nat) (a0 : Nat) (a1 : Int32) (a2 : Int32) (σ : zW) : Option (Int32 × zW) := zck σ 9 a0 (zb (fX8_isLot n a0 a1 σ) fun x8 => if x8 = 0 then sX8_offer_46 n a0 a1 a2 a0 1 σ else if a2 < 0 then sX8_offer_27 n a0 a1 a2 a0 σ else zck σ 9 a0 (zb (fX8_at n a0 a1 2 σ) fun x9 => if a2 < x9 then zck σ 9 a0 (zb (fX8_at n a0 a1 3 σ) fun x10 => if x10 = 3 then sX8_offer_46 n a0 a1 a2 a0 0 σ else sX8_offer_46 n a0 a1 a2 a0 3 σ) else sX8_offer_27 n a0 a1 a2 a0 σ))
theorem gsX8_offer_46 (F : zFx E) (n : Nat) (hk : zk E K "LotSalesModel" cX8_offer 4 2) (he : zend E K (some .int) "offer") (v0 : Nat) (v1 : Int32) (v2 : Int32) (y0 : Nat) (y1 : Int32) (σ : zW) : zG E K zfW (sX8_offer_46 n v0 v1 v2 y0 y1 σ) σ 46 [some (.inr (.inl v0)), some (.inl v1), some (.inl v2), none] [.inl y1, .inr (.inl y0)] := by
  unfold sX8_offer_46
  refine z_pI hk 0 (z_row hX8_offer_0 26 rfl) (ci := 8) rfl rfl wd_1122 rfl rfl rfl (fun σ1 => ?_)
  refine z_run hk hX8_offer_0 27 1 (pc' := 50) (lv' := [some (.inr (.inl v0)), some (.inl v1), some (.inl v2), none]) (st' := [.inr (.inl v0)]) rfl ?_
  refine z_gI hk 0 (z_row hX8_offer_0 28 rfl) (ci := 8) rfl rfl wd_1122 (fun x2 => ?_)
  refine z_eq hk (z_row hX8_offer_0 29 rfl) (tgt := 58) rfl ?_ ?_
  · refine z_run hk hX8_offer_0 32 1 (pc' := 59) (lv' := [some (.inr (.inl v0)), some (.inl v1), some (.inl v2), none]) (st' := [.inr (.inl v0)]) rfl ?_
    refine kX8_keep F hk (z_row hX8_offer_0 33 rfl) wd_1185 (by decide) (Nat.le_of_ble_eq_true rfl) (fun σ3 => ?_)
    refine z_run hk hX8_offer_0 34 3 (pc' := 65) (lv' := [some (.inr (.inl v0)), some (.inl v1), some (.inl v2), none]) (st' := [.inl 2, .inl v1, .inr (.inl v0)]) rfl ?_
    refine kX8_at F hk (z_row hX8_offer_0 37 rfl) wd_1213 (by decide) (Nat.le_of_ble_eq_true rfl) (fun x4 => ?_)
    refine z_run hk hX8_offer_0 38 5 (pc' := 73) (lv' := [some (.inr (.inl v0)), some (.inl v1), some (.inl v2), some (.inl x4)]) (st' := [.inl v2, .inl 2, .inl v1, .inr (.inl v0)]) rfl ?_
    refine kX8_set F hk (z_row hX8_offer_0 43 rfl) wd_1193 (by decide) (Nat.le_of_ble_eq_true rfl) (fun σ5 => ?_)
    refine z_run hk hX8_offer_0 44 4 (pc' := 80) (lv' := [some (.inr (.inl v0)), some (.inl v1), some (.inl v2), some (.inl x4)]) (st' := [.inl 0, .inl 3, .inl v1, .inr (.inl v0)]) rfl ?_
    refine kX8_set F hk (z_row hX8_offer_0 48 rfl) wd_1193 (by decide) (Nat.le_of_ble_eq_true rfl) (fun σ6 => ?_)
    refine z_run hk hX8_offer_0 49 5 (pc' := 89) (lv' := [some (.inr (.inl v0)), some (.inl v1), some (.inl v2), some (.inl x4)]) (st' := [.inl v2, .inl (-1), .inl v1, .inl 8, .inr (.inl v0)]) rfl ?_
    refine kX8_note F hk (z_row hX8_offer_0 54 rfl) wd_1291 (by decide) (Nat.le_of_ble_eq_true rfl) (fun σ7 => ?_)
    refine z_run hk hX8_offer_0 55 1 (pc' := 93) (lv' := [some (.inr (.inl v0)), some (.inl v1), some (.inl v2), some (.inl x4)]) (st' := [.inl x4]) rfl ?_
    exact z_iret hk he (z_row hX8_offer_0 56 rfl) rfl
  · refine z_run hk hX8_offer_0 30 1 (pc' := 57) (lv' := [some (.inr (.inl v0)), some (.inl v1), some (.inl v2), none]) (st' := [.inl 0]) rfl ?_
    exact z_iret hk he (z_row hX8_offer_0 31 rfl) rfl
theorem gsX8_offer_27 (F : zFx E) (n : Nat) (hk : zk E K "LotSalesModel" cX8_offer 4 2) (he : zend E K (some .int) "offer") (v0 : Nat) (v1 : Int32) (v2 : Int32) (y0 : Nat) (σ : zW) : zG E K zfW (sX8_offer_27 n v0 v1 v2 y0 σ) σ 27 [some (.inr (.inl v0)), some (.inl v1), some (.inl v2), none] [.inr (.inl y0)] := by
  unfold sX8_offer_27
  refine z_run hk hX8_offer_0 15 1 (pc' := 28) (lv' := [some (.inr (.inl v0)), some (.inl v1), some (.inl v2), none]) (st' := [.inl 2, .inr (.inl y0)]) rfl ?_
  refine z_goto hk (z_row hX8_offer_0 16 rfl) (tgt := 46) rfl ?_
  exact gsX8_offer_46 F n hk he v0 v1 v2 y0 2 σ
theorem mX8_offer (F : zFx E) (n : Nat) (a0 : Nat) (a1 : Int32) (a2 : Int32) (σ : zW) (o : Int32 × zW) (hf : fX8_offer n a0 a1 a2 σ = some o) : zM E qX8_offer cX8_offer 4 (some .int) 2 [.inr (.inl a0), .inl a1, .inl a2] σ (some (.int o.1)) o.2 := by
  refine zM_of (fin := zfW) F (by decide +kernel) rfl (Nat.le_of_ble_eq_true rfl) (lv0 := [some (.inr (.inl a0)), some (.inl a1), some (.inl a2), none]) rfl hf rfl (fun K hk he => ?_)
  have hk : zk E K "LotSalesModel" cX8_offer 4 2 := hk
  unfold fX8_offer
  refine z_run hk hX8_offer_0 0 3 (pc' := 3) (lv' := [some (.inr (.inl a0)), some (.inl a1), some (.inl a2), none]) (st' := [.inl a1, .inr (.inl a0), .inr (.inl a0)]) rfl ?_
  refine kX8_isLot F hk (z_row hX8_offer_0 3 rfl) wd_1209 (by decide) (Nat.le_of_ble_eq_true rfl) (fun x8 => ?_)
  refine z_ne hk (z_row hX8_offer_0 4 rfl) (tgt := 13) rfl ?_ ?_
  · refine z_run hk hX8_offer_0 7 1 (pc' := 14) (lv' := [some (.inr (.inl a0)), some (.inl a1), some (.inl a2), none]) (st' := [.inl a2, .inr (.inl a0)]) rfl ?_
    refine z_lt hk (z_row hX8_offer_0 8 rfl) (tgt := 27) rfl ?_ ?_
    · exact gsX8_offer_27 F n hk he a0 a1 a2 a0 σ
    · refine z_run hk hX8_offer_0 9 4 (pc' := 21) (lv' := [some (.inr (.inl a0)), some (.inl a1), some (.inl a2), none]) (st' := [.inl 2, .inl a1, .inr (.inl a0), .inl a2, .inr (.inl a0)]) rfl ?_
      refine kX8_at F hk (z_row hX8_offer_0 13 rfl) wd_1213 (by decide) (Nat.le_of_ble_eq_true rfl) (fun x9 => ?_)
      refine z_clt hk (z_row hX8_offer_0 14 rfl) (tgt := 31) rfl ?_ ?_
      · refine z_run hk hX8_offer_0 17 3 (pc' := 34) (lv' := [some (.inr (.inl a0)), some (.inl a1), some (.inl a2), none]) (st' := [.inl 3, .inl a1, .inr (.inl a0), .inr (.inl a0)]) rfl ?_
        refine kX8_at F hk (z_row hX8_offer_0 20 rfl) wd_1213 (by decide) (Nat.le_of_ble_eq_true rfl) (fun x10 => ?_)
        refine z_run hk hX8_offer_0 21 1 (pc' := 38) (lv' := [some (.inr (.inl a0)), some (.inl a1), some (.inl a2), none]) (st' := [.inl 3, .inl x10, .inr (.inl a0)]) rfl ?_
        refine z_ceq hk (z_row hX8_offer_0 22 rfl) (tgt := 45) rfl ?_ ?_
        · refine z_run hk hX8_offer_0 25 1 (pc' := 46) (lv' := [some (.inr (.inl a0)), some (.inl a1), some (.inl a2), none]) (st' := [.inl 0, .inr (.inl a0)]) rfl ?_
          exact gsX8_offer_46 F n hk he a0 a1 a2 a0 0 σ
        · refine z_run hk hX8_offer_0 23 1 (pc' := 42) (lv' := [some (.inr (.inl a0)), some (.inl a1), some (.inl a2), none]) (st' := [.inl 3, .inr (.inl a0)]) rfl ?_
          refine z_goto hk (z_row hX8_offer_0 24 rfl) (tgt := 46) rfl ?_
          exact gsX8_offer_46 F n hk he a0 a1 a2 a0 3 σ
      · exact gsX8_offer_27 F n hk he a0 a1 a2 a0 σ
  · refine z_run hk hX8_offer_0 5 1 (pc' := 10) (lv' := [some (.inr (.inl a0)), some (.inl a1), some (.inl a2), none]) (st' := [.inl 1, .inr (.inl a0)]) rfl ?_
    refine z_goto hk (z_row hX8_offer_0 6 rfl) (tgt := 46) rfl ?_
    exact gsX8_offer_46 F n hk he a0 a1 a2 a0 1 σ
theorem kX8_offer {n : Nat} {own : String} {cc : ByteArray} {nL h index : Nat} {α : Type} {fin : α → zO} {σ : zW} {pc : Nat} {lv : zLV} {st : List zV} {a0 : Nat} {a1 : Int32} {a2 : Int32} {c : Int32 → zW → Option α} (F : zFx E) (hk : zk E K own cc nL h) (hd : decode cc pc = .ok (.invokevirtual index, 3)) (hl : Cond.methodLink own index qX8_offer ∈ lw_tbl) (hh : 2 + 1 ≤ h) (hs : zcat st ≤ 8) (k : ∀ v s, zG E K fin (c v s) s (pc + 3) lv (.inl v :: st)) : zG E K fin (zck σ 9 a0 (zb2 (fX8_offer n a0 a1 a2 σ) c)) σ pc lv (.inl a2 :: .inl a1 :: .inr (.inl a0) :: st) :=
  z_vW (n := 2) (y := qX8_offer) (As := [.inl a1, .inl a2]) hk hd hl wd_1405 wd_1406 wd_10 wd_1407 ⟨by decide, by decide, by decide +kernel⟩ ⟨hh, by decide⟩ (ci := 8) rfl rfl rfl (fun o ho => mX8_offer F n a0 a1 a2 σ o ho) hs k
abbrev qX8_share : MethodName := { cls := "LotSalesModel", name := "share", desc := "(III)I" }
def fX8_share (n : Nat) (a0 : Int32) (a1 : Int32) (a2 : Int32) (σ : zW) : Option (Int32) := zdl (a2.toInt64) (some ((((a0.toInt64) * (a1.toInt64)) / (a2.toInt64)).toInt32))
theorem mX8_share (F : zFx E) (n : Nat) (a0 : Int32) (a1 : Int32) (a2 : Int32) (σ : zW) (o : Int32) (hf : fX8_share n a0 a1 a2 σ = some o) : zM E qX8_share cX8_share 3 (some .int) 0 [.inl a0, .inl a1, .inl a2] σ (some (.int o)) σ := by
  refine zM_of (fin := (zfR σ)) F (by decide +kernel) rfl (Nat.le_of_ble_eq_true rfl) (lv0 := [some (.inl a0), some (.inl a1), some (.inl a2)]) rfl hf rfl (fun K hk he => ?_)
  have hk : zk E K "LotSalesModel" cX8_share 3 0 := hk
  unfold fX8_share
  refine z_run hk hX8_share_0 0 7 (pc' := 7) (lv' := [some (.inl a0), some (.inl a1), some (.inl a2)]) (st' := [.inr (.inr (.inl (a2.toInt64))), .inr (.inr (.inl ((a0.toInt64) * (a1.toInt64))))]) rfl ?_
  refine z_ldiv hk (z_row hX8_share_0 7 rfl) ?_
  refine z_run hk hX8_share_0 8 1 (pc' := 9) (lv' := [some (.inl a0), some (.inl a1), some (.inl a2)]) (st' := [.inl ((((a0.toInt64) * (a1.toInt64)) / (a2.toInt64)).toInt32)]) rfl ?_
  exact z_iret hk he (z_row hX8_share_0 9 rfl) rfl
theorem kX8_share {n : Nat} {own : String} {cc : ByteArray} {nL h index : Nat} {α : Type} {fin : α → zO} {σ : zW} {pc : Nat} {lv : zLV} {st : List zV} {a0 : Int32} {a1 : Int32} {a2 : Int32} {c : Int32 → Option α} (F : zFx E) (hk : zk E K own cc nL h) (hd : decode cc pc = .ok (.invokestatic index, 3)) (hl : Cond.methodLink own index qX8_share ∈ lw_tbl) (hh : 0 + 1 ≤ h) (hs : zcat st ≤ 8) (k : ∀ v, zG E K fin (c v) σ (pc + 3) lv (.inl v :: st)) : zG E K fin (zb (fX8_share n a0 a1 a2 σ) c) σ pc lv (.inl a2 :: .inl a1 :: .inl a0 :: st) :=
  z_qR (n := 3) (y := qX8_share) (As := [.inl a0, .inl a1, .inl a2]) hk hd hl wd_1420 wd_10 wd_1421 ⟨by decide, by decide, by decide +kernel⟩ ⟨hh, by decide⟩ rfl (fun o ho => mX8_share F n a0 a1 a2 σ o ho) hs k
abbrev qX8_quantityOf : MethodName := { cls := "LotSalesModel", name := "quantityOf", desc := "(III)I" }
def sX8_quantityOf_15 (n : Nat) (σ : zW) (y0 : Int32) (y1 : Int32) : Option (Int32) := some (y0 + y1)
def fX8_quantityOf (n : Nat) (a0 : Int32) (a1 : Int32) (a2 : Int32) (σ : zW) : Option (Int32) := zdv a1 (zdv a1 (if a2 < (a0 - a0 / a1 * a1) then sX8_quantityOf_15 n σ (a0 / a1) 1 else sX8_quantityOf_15 n σ (a0 / a1) 0))
theorem gsX8_quantityOf_15 (F : zFx E) (n : Nat) (σ : zW) (hk : zk E K "LotSalesModel" cX8_quantityOf 3 0) (he : zend E K (some .int) "quantityOf") (y0 : Int32) (y1 : Int32) : zG E K (zfR σ) (sX8_quantityOf_15 n σ y0 y1) σ 15 [none, none, none] [.inl y1, .inl y0] := by
  unfold sX8_quantityOf_15
  refine z_run hk hX8_quantityOf_0 11 1 (pc' := 16) (lv' := [none, none, none]) (st' := [.inl (y0 + y1)]) rfl ?_
  exact z_iret hk he (z_row hX8_quantityOf_0 12 rfl) rfl
theorem mX8_quantityOf (F : zFx E) (n : Nat) (a0 : Int32) (a1 : Int32) (a2 : Int32) (σ : zW) (o : Int32) (hf : fX8_quantityOf n a0 a1 a2 σ = some o) : zM E qX8_quantityOf cX8_quantityOf 3 (some .int) 0 [.inl a0, .inl a1, .inl a2] σ (some (.int o)) σ := by
  refine zM_of (fin := (zfR σ)) F (by decide +kernel) rfl (Nat.le_of_ble_eq_true rfl) (lv0 := [some (.inl a0), some (.inl a1), some (.inl a2)]) rfl hf rfl (fun K hk he => ?_)
  have hk : zk E K "LotSalesModel" cX8_quantityOf 3 0 := hk
  unfold fX8_quantityOf
  refine z_run hk hX8_quantityOf_0 0 2 (pc' := 2) (lv' := [some (.inl a0), some (.inl a1), some (.inl a2)]) (st' := [.inl a1, .inl a0]) rfl ?_
  refine z_idiv hk (z_row hX8_quantityOf_0 2 rfl) ?_
  refine z_run hk hX8_quantityOf_0 3 3 (pc' := 6) (lv' := [some (.inl a0), some (.inl a1), some (.inl a2)]) (st' := [.inl a1, .inl a0, .inl a2, .inl (a0 / a1)]) rfl ?_
  refine z_irem hk (z_row hX8_quantityOf_0 6 rfl) ?_
  refine z_cge hk (z_row hX8_quantityOf_0 7 rfl) (tgt := 14) rfl ?_ ?_
  · refine z_run hk hX8_quantityOf_0 10 1 (pc' := 15) (lv' := [some (.inl a0), some (.inl a1), some (.inl a2)]) (st' := [.inl 0, .inl (a0 / a1)]) rfl ?_
    refine z_mask [false, false, false] rfl ?_
    exact gsX8_quantityOf_15 F n σ hk he (a0 / a1) 0
  · refine z_run hk hX8_quantityOf_0 8 1 (pc' := 11) (lv' := [some (.inl a0), some (.inl a1), some (.inl a2)]) (st' := [.inl 1, .inl (a0 / a1)]) rfl ?_
    refine z_goto hk (z_row hX8_quantityOf_0 9 rfl) (tgt := 15) rfl ?_
    refine z_mask [false, false, false] rfl ?_
    exact gsX8_quantityOf_15 F n σ hk he (a0 / a1) 1
theorem kX8_quantityOf {n : Nat} {own : String} {cc : ByteArray} {nL h index : Nat} {α : Type} {fin : α → zO} {σ : zW} {pc : Nat} {lv : zLV} {st : List zV} {a0 : Int32} {a1 : Int32} {a2 : Int32} {c : Int32 → Option α} (F : zFx E) (hk : zk E K own cc nL h) (hd : decode cc pc = .ok (.invokestatic index, 3)) (hl : Cond.methodLink own index qX8_quantityOf ∈ lw_tbl) (hh : 0 + 1 ≤ h) (hs : zcat st ≤ 8) (k : ∀ v, zG E K fin (c v) σ (pc + 3) lv (.inl v :: st)) : zG E K fin (zb (fX8_quantityOf n a0 a1 a2 σ) c) σ pc lv (.inl a2 :: .inl a1 :: .inl a0 :: st) :=
  z_qR (n := 3) (y := qX8_quantityOf) (As := [.inl a0, .inl a1, .inl a2]) hk hd hl wd_1417 wd_10 wd_1418 ⟨by decide, by decide, by decide +kernel⟩ ⟨hh, by decide⟩ rfl (fun o ho => mX8_quantityOf F n a0 a1 a2 σ o ho) hs k
abbrev qX8_splitOrders : MethodName := { cls := "LotSalesModel", name := "splitOrders", desc := "(II)I" }
def sX8_splitOrders_58 (n : Nat) (σ : zW) (r13 : Nat → Int32 → Int32 → Int32 → Int32 → Int32 → Option (Int32)) (r22 : Nat → Int32 → Int32 → Int32 → Int32 → Int32 → Int32 → Option (Int32)) (v0 : Nat) (v1 : Int32) (v2 : Int32) (v4 : Int32) (v5 : Int32) (v6 : Int32) (y0 : Int32) (y1 : Int32) : Option (Int32) := r22 v0 v1 v2 (y0 + y1) v4 v5 (v6 + 1)
def sX8_splitOrders_22 (n : Nat) (σ : zW) (r13 : Nat → Int32 → Int32 → Int32 → Int32 → Int32 → Option (Int32)) : Nat → Nat → Int32 → Int32 → Int32 → Int32 → Int32 → Int32 → Option (Int32)
  | 0, _, _, _, _, _, _, _ => none
  | k + 1, v0, v1, v2, v3, v4, v5, v6 => if v6 < 10 then zck σ 9 v0 (zb (fX8_orderOf n v0 v1 v6 σ) fun x1 => zb (fX8_quantityOf n v4 v2 v5 σ) fun x2 => zb (fX8_share n x1 x2 v4 σ) fun x3 => if 0 < x3 then sX8_splitOrders_58 n σ r13 (sX8_splitOrders_22 n σ r13 k) v0 v1 v2 v4 v5 v6 v3 1 else sX8_splitOrders_58 n σ r13 (sX8_splitOrders_22 n σ r13 k) v0 v1 v2 v4 v5 v6 v3 0) else r13 v0 v1 v2 v3 v4 (v5 + 1)
def sX8_splitOrders_13 (n : Nat) (σ : zW) : Nat → Nat → Int32 → Int32 → Int32 → Int32 → Int32 → Option (Int32)
  | 0, _, _, _, _, _, _ => none
  | k + 1, v0, v1, v2, v3, v4, v5 => if v5 < v2 then sX8_splitOrders_22 n σ (sX8_splitOrders_13 n σ k) n v0 v1 v2 v3 v4 v5 0 else some v3
def fX8_splitOrders (n : Nat) (a0 : Nat) (a1 : Int32) (a2 : Int32) (σ : zW) : Option (Int32) := zck σ 9 a0 (zb (fX8_at n a0 a1 1 σ) fun x4 => sX8_splitOrders_13 n σ n a0 a1 a2 0 x4 0)
theorem gsX8_splitOrders_58 (F : zFx E) (n : Nat) (σ : zW) (hk : zk E K "LotSalesModel" cX8_splitOrders 7 1) (he : zend E K (some .int) "splitOrders") (r13 : Nat → Int32 → Int32 → Int32 → Int32 → Int32 → Option (Int32)) (r22 : Nat → Int32 → Int32 → Int32 → Int32 → Int32 → Int32 → Option (Int32)) (hr13 : ∀ (v0 : Nat) (v1 : Int32) (v2 : Int32) (v3 : Int32) (v4 : Int32) (v5 : Int32), zG E K (zfR σ) (r13 v0 v1 v2 v3 v4 v5) σ 13 [some (.inr (.inl v0)), some (.inl v1), some (.inl v2), some (.inl v3), some (.inl v4), some (.inl v5), none] []) (hr22 : ∀ (v0 : Nat) (v1 : Int32) (v2 : Int32) (v3 : Int32) (v4 : Int32) (v5 : Int32) (v6 : Int32), zG E K (zfR σ) (r22 v0 v1 v2 v3 v4 v5 v6) σ 22 [some (.inr (.inl v0)), some (.inl v1), some (.inl v2), some (.inl v3), some (.inl v4), some (.inl v5), some (.inl v6)] []) (v0 : Nat) (v1 : Int32) (v2 : Int32) (v4 : Int32) (v5 : Int32) (v6 : Int32) (y0 : Int32) (y1 : Int32) : zG E K (zfR σ) (sX8_splitOrders_58 n σ r13 r22 v0 v1 v2 v4 v5 v6 y0 y1) σ 58 [some (.inr (.inl v0)), some (.inl v1), some (.inl v2), none, some (.inl v4), some (.inl v5), some (.inl v6)] [.inl y1, .inl y0] := by
  unfold sX8_splitOrders_58
  refine z_run hk hX8_splitOrders_0 32 3 (pc' := 63) (lv' := [some (.inr (.inl v0)), some (.inl v1), some (.inl v2), some (.inl (y0 + y1)), some (.inl v4), some (.inl v5), some (.inl (v6 + 1))]) (st' := []) rfl ?_
  refine z_goto hk (z_row hX8_splitOrders_0 35 rfl) (tgt := 22) rfl ?_
  exact hr22 v0 v1 v2 (y0 + y1) v4 v5 (v6 + 1)
theorem gsX8_splitOrders_22 (F : zFx E) (n : Nat) (σ : zW) (hk : zk E K "LotSalesModel" cX8_splitOrders 7 1) (he : zend E K (some .int) "splitOrders") (r13 : Nat → Int32 → Int32 → Int32 → Int32 → Int32 → Option (Int32)) (hr13 : ∀ (v0 : Nat) (v1 : Int32) (v2 : Int32) (v3 : Int32) (v4 : Int32) (v5 : Int32), zG E K (zfR σ) (r13 v0 v1 v2 v3 v4 v5) σ 13 [some (.inr (.inl v0)), some (.inl v1), some (.inl v2), some (.inl v3), some (.inl v4), some (.inl v5), none] []) : ∀ (k : Nat) (v0 : Nat) (v1 : Int32) (v2 : Int32) (v3 : Int32) (v4 : Int32) (v5 : Int32) (v6 : Int32), zG E K (zfR σ) (sX8_splitOrders_22 n σ r13 k v0 v1 v2 v3 v4 v5 v6) σ 22 [some (.inr (.inl v0)), some (.inl v1), some (.inl v2), some (.inl v3), some (.inl v4), some (.inl v5), some (.inl v6)] [] := by
  intro k
  induction k with
  | zero =>
    intro v0 v1 v2 v3 v4 v5 v6
    intro hX
    exact z_none hX
  | succ k ih =>
    intro v0 v1 v2 v3 v4 v5 v6
    rw [sX8_splitOrders_22]
    refine z_run hk hX8_splitOrders_0 14 2 (pc' := 26) (lv' := [some (.inr (.inl v0)), some (.inl v1), some (.inl v2), some (.inl v3), some (.inl v4), some (.inl v5), some (.inl v6)]) (st' := [.inl 10, .inl v6]) rfl ?_
    refine z_cge hk (z_row hX8_splitOrders_0 16 rfl) (tgt := 66) rfl ?_ ?_
    · refine z_run hk hX8_splitOrders_0 36 1 (pc' := 69) (lv' := [some (.inr (.inl v0)), some (.inl v1), some (.inl v2), some (.inl v3), some (.inl v4), some (.inl (v5 + 1)), some (.inl v6)]) (st' := []) rfl ?_
      refine z_goto hk (z_row hX8_splitOrders_0 37 rfl) (tgt := 13) rfl ?_
      refine z_mask [true, true, true, true, true, true, false] rfl ?_
      exact hr13 v0 v1 v2 v3 v4 (v5 + 1)
    · refine z_run hk hX8_splitOrders_0 17 4 (pc' := 34) (lv' := [some (.inr (.inl v0)), some (.inl v1), some (.inl v2), some (.inl v3), some (.inl v4), some (.inl v5), some (.inl v6)]) (st' := [.inl v6, .inl v1, .inr (.inl v0), .inl v3]) rfl ?_
      refine kX8_orderOf F hk (z_row hX8_splitOrders_0 21 rfl) wd_1283 (by decide) (Nat.le_of_ble_eq_true rfl) (fun x1 => ?_)
      refine z_run hk hX8_splitOrders_0 22 3 (pc' := 42) (lv' := [some (.inr (.inl v0)), some (.inl v1), some (.inl v2), some (.inl v3), some (.inl v4), some (.inl v5), some (.inl v6)]) (st' := [.inl v5, .inl v2, .inl v4, .inl x1, .inl v3]) rfl ?_
      refine kX8_quantityOf F hk (z_row hX8_splitOrders_0 25 rfl) wd_1416 (by decide) (Nat.le_of_ble_eq_true rfl) (fun x2 => ?_)
      refine z_run hk hX8_splitOrders_0 26 1 (pc' := 47) (lv' := [some (.inr (.inl v0)), some (.inl v1), some (.inl v2), some (.inl v3), some (.inl v4), some (.inl v5), some (.inl v6)]) (st' := [.inl v4, .inl x2, .inl x1, .inl v3]) rfl ?_
      refine kX8_share F hk (z_row hX8_splitOrders_0 27 rfl) wd_1419 (by decide) (Nat.le_of_ble_eq_true rfl) (fun x3 => ?_)
      refine z_le hk (z_row hX8_splitOrders_0 28 rfl) (tgt := 57) rfl ?_ ?_
      · refine z_run hk hX8_splitOrders_0 31 1 (pc' := 58) (lv' := [some (.inr (.inl v0)), some (.inl v1), some (.inl v2), some (.inl v3), some (.inl v4), some (.inl v5), some (.inl v6)]) (st' := [.inl 0, .inl v3]) rfl ?_
        refine z_mask [true, true, true, false, true, true, true] rfl ?_
        exact gsX8_splitOrders_58 F n σ hk he r13 (sX8_splitOrders_22 n σ r13 k) hr13 ih v0 v1 v2 v4 v5 v6 v3 0
      · refine z_run hk hX8_splitOrders_0 29 1 (pc' := 54) (lv' := [some (.inr (.inl v0)), some (.inl v1), some (.inl v2), some (.inl v3), some (.inl v4), some (.inl v5), some (.inl v6)]) (st' := [.inl 1, .inl v3]) rfl ?_
        refine z_goto hk (z_row hX8_splitOrders_0 30 rfl) (tgt := 58) rfl ?_
        refine z_mask [true, true, true, false, true, true, true] rfl ?_
        exact gsX8_splitOrders_58 F n σ hk he r13 (sX8_splitOrders_22 n σ r13 k) hr13 ih v0 v1 v2 v4 v5 v6 v3 1
theorem gsX8_splitOrders_13 (F : zFx E) (n : Nat) (σ : zW) (hk : zk E K "LotSalesModel" cX8_splitOrders 7 1) (he : zend E K (some .int) "splitOrders") : ∀ (k : Nat) (v0 : Nat) (v1 : Int32) (v2 : Int32) (v3 : Int32) (v4 : Int32) (v5 : Int32), zG E K (zfR σ) (sX8_splitOrders_13 n σ k v0 v1 v2 v3 v4 v5) σ 13 [some (.inr (.inl v0)), some (.inl v1), some (.inl v2), some (.inl v3), some (.inl v4), some (.inl v5), none] [] := by
  intro k
  induction k with
  | zero =>
    intro v0 v1 v2 v3 v4 v5
    intro hX
    exact z_none hX
  | succ k ih =>
    intro v0 v1 v2 v3 v4 v5
    rw [sX8_splitOrders_13]
    refine z_run hk hX8_splitOrders_0 9 2 (pc' := 16) (lv' := [some (.inr (.inl v0)), some (.inl v1), some (.inl v2), some (.inl v3), some (.inl v4), some (.inl v5), none]) (st' := [.inl v2, .inl v5]) rfl ?_
    refine z_cge hk (z_row hX8_splitOrders_0 11 rfl) (tgt := 72) rfl ?_ ?_
    · refine z_run hk hX8_splitOrders_0 38 1 (pc' := 73) (lv' := [some (.inr (.inl v0)), some (.inl v1), some (.inl v2), some (.inl v3), some (.inl v4), some (.inl v5), none]) (st' := [.inl v3]) rfl ?_
      exact z_iret hk he (z_row hX8_splitOrders_0 39 rfl) rfl
    · refine z_run hk hX8_splitOrders_0 12 2 (pc' := 22) (lv' := [some (.inr (.inl v0)), some (.inl v1), some (.inl v2), some (.inl v3), some (.inl v4), some (.inl v5), some (.inl 0)]) (st' := []) rfl ?_
      exact gsX8_splitOrders_22 F n σ hk he (sX8_splitOrders_13 n σ k) ih n v0 v1 v2 v3 v4 v5 0
theorem mX8_splitOrders (F : zFx E) (n : Nat) (a0 : Nat) (a1 : Int32) (a2 : Int32) (σ : zW) (o : Int32) (hf : fX8_splitOrders n a0 a1 a2 σ = some o) : zM E qX8_splitOrders cX8_splitOrders 7 (some .int) 1 [.inr (.inl a0), .inl a1, .inl a2] σ (some (.int o)) σ := by
  refine zM_of (fin := (zfR σ)) F (by decide +kernel) rfl (Nat.le_of_ble_eq_true rfl) (lv0 := [some (.inr (.inl a0)), some (.inl a1), some (.inl a2), none, none, none, none]) rfl hf rfl (fun K hk he => ?_)
  have hk : zk E K "LotSalesModel" cX8_splitOrders 7 1 := hk
  unfold fX8_splitOrders
  refine z_run hk hX8_splitOrders_0 0 5 (pc' := 5) (lv' := [some (.inr (.inl a0)), some (.inl a1), some (.inl a2), some (.inl 0), none, none, none]) (st' := [.inl 1, .inl a1, .inr (.inl a0)]) rfl ?_
  refine kX8_at F hk (z_row hX8_splitOrders_0 5 rfl) wd_1213 (by decide) (Nat.le_of_ble_eq_true rfl) (fun x4 => ?_)
  refine z_run hk hX8_splitOrders_0 6 3 (pc' := 13) (lv' := [some (.inr (.inl a0)), some (.inl a1), some (.inl a2), some (.inl 0), some (.inl x4), some (.inl 0), none]) (st' := []) rfl ?_
  exact gsX8_splitOrders_13 F n σ hk he n a0 a1 a2 0 x4 0
theorem kX8_splitOrders {n : Nat} {own : String} {cc : ByteArray} {nL h index : Nat} {α : Type} {fin : α → zO} {σ : zW} {pc : Nat} {lv : zLV} {st : List zV} {a0 : Nat} {a1 : Int32} {a2 : Int32} {c : Int32 → Option α} (F : zFx E) (hk : zk E K own cc nL h) (hd : decode cc pc = .ok (.invokevirtual index, 3)) (hl : Cond.methodLink own index qX8_splitOrders ∈ lw_tbl) (hh : 1 + 1 ≤ h) (hs : zcat st ≤ 8) (k : ∀ v, zG E K fin (c v) σ (pc + 3) lv (.inl v :: st)) : zG E K fin (zck σ 9 a0 (zb (fX8_splitOrders n a0 a1 a2 σ) c)) σ pc lv (.inl a2 :: .inl a1 :: .inr (.inl a0) :: st) :=
  z_vR (n := 2) (y := qX8_splitOrders) (As := [.inl a1, .inl a2]) hk hd hl wd_1414 ws_47 wd_10 wd_1415 ⟨by decide, by decide, by decide +kernel⟩ ⟨hh, by decide⟩ (ci := 8) rfl rfl rfl (fun o ho => mX8_splitOrders F n a0 a1 a2 σ o ho) hs k
abbrev qX8_split : MethodName := { cls := "LotSalesModel", name := "split", desc := "(II)I" }
def sX8_split_40 (n : Nat) (v0 : Nat) (σ : zW) : Option (Int32 × zW) := zck σ 9 v0 (zb2 (fX8_fail n v0 2 σ) fun x1 σ2 => some (x1, σ2))
def sX8_split_91 (n : Nat) (v0 : Nat) (σ : zW) : Option (Int32 × zW) := zck σ 9 v0 (zb2 (fX8_fail n v0 3 σ) fun x3 σ4 => some (x3, σ4))
def sX8_split_198 (n : Nat) (r113 : Nat → Int32 → Int32 → Int32 → Int32 → Int32 → zW → Option (Int32 × zW)) (r157 : Nat → Int32 → Int32 → Int32 → Int32 → Int32 → Int32 → Int32 → Int32 → zW → Option (Int32 × zW)) (v0 : Nat) (v1 : Int32) (v2 : Int32) (v3 : Int32) (v4 : Int32) (v5 : Int32) (v6 : Int32) (v7 : Int32) (v8 : Int32) (σ : zW) : Option (Int32 × zW) := r157 v0 v1 v2 v3 v4 v5 v6 v7 (v8 + 1) σ
def sX8_split_157 (n : Nat) (r113 : Nat → Int32 → Int32 → Int32 → Int32 → Int32 → zW → Option (Int32 × zW)) : Nat → Nat → Int32 → Int32 → Int32 → Int32 → Int32 → Int32 → Int32 → Int32 → zW → Option (Int32 × zW)
  | 0, _, _, _, _, _, _, _, _, _, _ => none
  | k + 1, v0, v1, v2, v3, v4, v5, v6, v7, v8, σ => if v8 < 10 then zck σ 9 v0 (zb (fX8_orderOf n v0 v1 v8 σ) fun x5 => zb (fX8_share n x5 v6 v3 σ) fun x6 => if 0 < x6 then zck σ 9 v0 (zb2 (fX8_nextNumber n v0 σ) fun x7 σ8 => zck σ8 9 v0 (zb (fX8_putOrder n v0 v7 v8 x6 x7 σ8) fun σ9 => sX8_split_198 n r113 (sX8_split_157 n r113 k) v0 v1 v2 v3 v4 v5 v6 v7 v8 σ9)) else sX8_split_198 n r113 (sX8_split_157 n r113 k) v0 v1 v2 v3 v4 v5 v6 v7 v8 σ) else r113 v0 v1 v2 v3 v4 (v5 + 1) σ
def sX8_split_113 (n : Nat) : Nat → Nat → Int32 → Int32 → Int32 → Int32 → Int32 → zW → Option (Int32 × zW)
  | 0, _, _, _, _, _, _, _ => none
  | k + 1, v0, v1, v2, v3, v4, v5, σ => if v5 < v2 then zb (fX8_quantityOf n v3 v2 v5 σ) fun x14 => zck σ 9 v0 (zb (fX8_at n v0 v1 0 σ) fun x15 => zck σ 9 v0 (zb (fX8_at n v0 v1 2 σ) fun x16 => zb (fX8_share n x16 x14 v3 σ) fun x17 => zck σ 9 v0 (zb2 (fX8_makeLot n v0 x15 x14 x17 σ) fun x18 σ19 => sX8_split_157 n (sX8_split_113 n k) n v0 v1 v2 v3 v4 v5 x14 x18 0 σ19))) else zck σ 9 v0 (zb2 (fX8_removeOrders n v0 v1 σ) fun x10 σ11 => zck σ11 9 v0 (zb (fX8_set n v0 v1 3 5 σ11) fun σ12 => zck σ12 9 v0 (zb (fX8_note n v0 6 v1 (-1) v4 σ12) fun σ13 => some (v4, σ13))))
def fX8_split (n : Nat) (a0 : Nat) (a1 : Int32) (a2 : Int32) (σ : zW) : Option (Int32 × zW) := zpI σ 9 a0 0 0 fun σ20 => zck σ20 9 a0 (zb (fX8_isLot n a0 a1 σ20) fun x21 => if x21 = 0 then zck σ20 9 a0 (zb2 (fX8_fail n a0 1 σ20) fun x33 σ34 => some (x33, σ34)) else zck σ20 9 a0 (zb (fX8_at n a0 a1 1 σ20) fun x22 => zb (fX8_isIn n a2 2 4 σ20) fun x23 => if x23 = 0 then sX8_split_40 n a0 σ20 else if x22 < a2 then sX8_split_40 n a0 σ20 else zck σ20 9 a0 (zb (fX8_at n a0 a1 3 σ20) fun x24 => if x24 = 0 then zgR σ20 9 a0 1 fun x25 => zaI σ20 x25 23 fun x26 => if 20 < (x26 + a2) then sX8_split_91 n a0 σ20 else zck σ20 9 a0 (zb (fX8_allOrders n a0 σ20) fun x27 => zck σ20 9 a0 (zb (fX8_ordersOf n a0 a1 σ20) fun x28 => zck σ20 9 a0 (zb (fX8_splitOrders n a0 a1 a2 σ20) fun x29 => if 40 < ((x27 - x28) + x29) then sX8_split_91 n a0 σ20 else zck σ20 9 a0 (zb (fX8_keep n a0 σ20) fun σ30 => zgR σ30 9 a0 1 fun x31 => zaI σ30 x31 23 fun x32 => sX8_split_113 n n a0 a1 a2 x22 x32 0 σ30)))) else sX8_split_91 n a0 σ20)))
theorem gsX8_split_40 (F : zFx E) (n : Nat) (hk : zk E K "LotSalesModel" cX8_split 10 3) (he : zend E K (some .int) "split") (v0 : Nat) (σ : zW) : zG E K zfW (sX8_split_40 n v0 σ) σ 40 [some (.inr (.inl v0)), none, none, none, none, none, none, none, none, none] [] := by
  unfold sX8_split_40
  refine z_run hk hX8_split_0 24 2 (pc' := 42) (lv' := [some (.inr (.inl v0)), none, none, none, none, none, none, none, none, none]) (st' := [.inl 2, .inr (.inl v0)]) rfl ?_
  refine kX8_fail F hk (z_row hX8_split_0 26 rfl) wd_1221 (by decide) (Nat.le_of_ble_eq_true rfl) (fun x1 σ2 => ?_)
  exact z_iret hk he (z_row hX8_split_0 27 rfl) rfl
theorem gsX8_split_91 (F : zFx E) (n : Nat) (hk : zk E K "LotSalesModel" cX8_split 10 3) (he : zend E K (some .int) "split") (v0 : Nat) (σ : zW) : zG E K zfW (sX8_split_91 n v0 σ) σ 91 [some (.inr (.inl v0)), none, none, none, none, none, none, none, none, none] [] := by
  unfold sX8_split_91
  refine z_run hk hX8_split_0 54 2 (pc' := 93) (lv' := [some (.inr (.inl v0)), none, none, none, none, none, none, none, none, none]) (st' := [.inl 3, .inr (.inl v0)]) rfl ?_
  refine kX8_fail F hk (z_row hX8_split_0 56 rfl) wd_1221 (by decide) (Nat.le_of_ble_eq_true rfl) (fun x3 σ4 => ?_)
  exact z_iret hk he (z_row hX8_split_0 57 rfl) rfl
theorem gsX8_split_198 (F : zFx E) (n : Nat) (hk : zk E K "LotSalesModel" cX8_split 10 3) (he : zend E K (some .int) "split") (r113 : Nat → Int32 → Int32 → Int32 → Int32 → Int32 → zW → Option (Int32 × zW)) (r157 : Nat → Int32 → Int32 → Int32 → Int32 → Int32 → Int32 → Int32 → Int32 → zW → Option (Int32 × zW)) (hr113 : ∀ (v0 : Nat) (v1 : Int32) (v2 : Int32) (v3 : Int32) (v4 : Int32) (v5 : Int32) (σ : zW), zG E K zfW (r113 v0 v1 v2 v3 v4 v5 σ) σ 113 [some (.inr (.inl v0)), some (.inl v1), some (.inl v2), some (.inl v3), some (.inl v4), some (.inl v5), none, none, none, none] []) (hr157 : ∀ (v0 : Nat) (v1 : Int32) (v2 : Int32) (v3 : Int32) (v4 : Int32) (v5 : Int32) (v6 : Int32) (v7 : Int32) (v8 : Int32) (σ : zW), zG E K zfW (r157 v0 v1 v2 v3 v4 v5 v6 v7 v8 σ) σ 157 [some (.inr (.inl v0)), some (.inl v1), some (.inl v2), some (.inl v3), some (.inl v4), some (.inl v5), some (.inl v6), some (.inl v7), some (.inl v8), none] []) (v0 : Nat) (v1 : Int32) (v2 : Int32) (v3 : Int32) (v4 : Int32) (v5 : Int32) (v6 : Int32) (v7 : Int32) (v8 : Int32) (σ : zW) : zG E K zfW (sX8_split_198 n r113 r157 v0 v1 v2 v3 v4 v5 v6 v7 v8 σ) σ 198 [some (.inr (.inl v0)), some (.inl v1), some (.inl v2), some (.inl v3), some (.inl v4), some (.inl v5), some (.inl v6), some (.inl v7), some (.inl v8), none] [] := by
  unfold sX8_split_198
  refine z_run hk hX8_split_1 52 1 (pc' := 201) (lv' := [some (.inr (.inl v0)), some (.inl v1), some (.inl v2), some (.inl v3), some (.inl v4), some (.inl v5), some (.inl v6), some (.inl v7), some (.inl (v8 + 1)), none]) (st' := []) rfl ?_
  refine z_goto hk (z_row hX8_split_1 53 rfl) (tgt := 157) rfl ?_
  exact hr157 v0 v1 v2 v3 v4 v5 v6 v7 (v8 + 1) σ
theorem gsX8_split_157 (F : zFx E) (n : Nat) (hk : zk E K "LotSalesModel" cX8_split 10 3) (he : zend E K (some .int) "split") (r113 : Nat → Int32 → Int32 → Int32 → Int32 → Int32 → zW → Option (Int32 × zW)) (hr113 : ∀ (v0 : Nat) (v1 : Int32) (v2 : Int32) (v3 : Int32) (v4 : Int32) (v5 : Int32) (σ : zW), zG E K zfW (r113 v0 v1 v2 v3 v4 v5 σ) σ 113 [some (.inr (.inl v0)), some (.inl v1), some (.inl v2), some (.inl v3), some (.inl v4), some (.inl v5), none, none, none, none] []) : ∀ (k : Nat) (v0 : Nat) (v1 : Int32) (v2 : Int32) (v3 : Int32) (v4 : Int32) (v5 : Int32) (v6 : Int32) (v7 : Int32) (v8 : Int32) (σ : zW), zG E K zfW (sX8_split_157 n r113 k v0 v1 v2 v3 v4 v5 v6 v7 v8 σ) σ 157 [some (.inr (.inl v0)), some (.inl v1), some (.inl v2), some (.inl v3), some (.inl v4), some (.inl v5), some (.inl v6), some (.inl v7), some (.inl v8), none] [] := by
  intro k
  induction k with
  | zero =>
    intro v0 v1 v2 v3 v4 v5 v6 v7 v8 σ
    intro hX
    exact z_none hX
  | succ k ih =>
    intro v0 v1 v2 v3 v4 v5 v6 v7 v8 σ
    rw [sX8_split_157]
    refine z_run hk hX8_split_1 32 2 (pc' := 161) (lv' := [some (.inr (.inl v0)), some (.inl v1), some (.inl v2), some (.inl v3), some (.inl v4), some (.inl v5), some (.inl v6), some (.inl v7), some (.inl v8), none]) (st' := [.inl 10, .inl v8]) rfl ?_
    refine z_cge hk (z_row hX8_split_1 34 rfl) (tgt := 204) rfl ?_ ?_
    · refine z_run hk hX8_split_1 54 1 (pc' := 207) (lv' := [some (.inr (.inl v0)), some (.inl v1), some (.inl v2), some (.inl v3), some (.inl v4), some (.inl (v5 + 1)), some (.inl v6), some (.inl v7), some (.inl v8), none]) (st' := []) rfl ?_
      refine z_goto hk (z_row hX8_split_1 55 rfl) (tgt := 113) rfl ?_
      refine z_mask [true, true, true, true, true, true, false, false, false, false] rfl ?_
      exact hr113 v0 v1 v2 v3 v4 (v5 + 1) σ
    · refine z_run hk hX8_split_1 35 3 (pc' := 168) (lv' := [some (.inr (.inl v0)), some (.inl v1), some (.inl v2), some (.inl v3), some (.inl v4), some (.inl v5), some (.inl v6), some (.inl v7), some (.inl v8), none]) (st' := [.inl v8, .inl v1, .inr (.inl v0)]) rfl ?_
      refine kX8_orderOf F hk (z_row hX8_split_1 38 rfl) wd_1283 (by decide) (Nat.le_of_ble_eq_true rfl) (fun x5 => ?_)
      refine z_run hk hX8_split_1 39 2 (pc' := 174) (lv' := [some (.inr (.inl v0)), some (.inl v1), some (.inl v2), some (.inl v3), some (.inl v4), some (.inl v5), some (.inl v6), some (.inl v7), some (.inl v8), none]) (st' := [.inl v3, .inl v6, .inl x5]) rfl ?_
      refine kX8_share F hk (z_row hX8_split_1 41 rfl) wd_1419 (by decide) (Nat.le_of_ble_eq_true rfl) (fun x6 => ?_)
      refine z_run hk hX8_split_1 42 2 (pc' := 181) (lv' := [some (.inr (.inl v0)), some (.inl v1), some (.inl v2), some (.inl v3), some (.inl v4), some (.inl v5), some (.inl v6), some (.inl v7), some (.inl v8), some (.inl x6)]) (st' := [.inl x6]) rfl ?_
      refine z_le hk (z_row hX8_split_1 44 rfl) (tgt := 198) rfl ?_ ?_
      · refine z_mask [true, true, true, true, true, true, true, true, true, false] rfl ?_
        exact gsX8_split_198 F n hk he r113 (sX8_split_157 n r113 k) hr113 ih v0 v1 v2 v3 v4 v5 v6 v7 v8 σ
      · refine z_run hk hX8_split_1 45 5 (pc' := 192) (lv' := [some (.inr (.inl v0)), some (.inl v1), some (.inl v2), some (.inl v3), some (.inl v4), some (.inl v5), some (.inl v6), some (.inl v7), some (.inl v8), some (.inl x6)]) (st' := [.inr (.inl v0), .inl x6, .inl v8, .inl v7, .inr (.inl v0)]) rfl ?_
        refine kX8_nextNumber F hk (z_row hX8_split_1 50 rfl) wd_1287 (by decide) (Nat.le_of_ble_eq_true rfl) (fun x7 σ8 => ?_)
        refine kX8_putOrder F hk (z_row hX8_split_1 51 rfl) wd_1197 (by decide) (Nat.le_of_ble_eq_true rfl) (fun σ9 => ?_)
        refine z_mask [true, true, true, true, true, true, true, true, true, false] rfl ?_
        exact gsX8_split_198 F n hk he r113 (sX8_split_157 n r113 k) hr113 ih v0 v1 v2 v3 v4 v5 v6 v7 v8 σ9
theorem gsX8_split_113 (F : zFx E) (n : Nat) (hk : zk E K "LotSalesModel" cX8_split 10 3) (he : zend E K (some .int) "split") : ∀ (k : Nat) (v0 : Nat) (v1 : Int32) (v2 : Int32) (v3 : Int32) (v4 : Int32) (v5 : Int32) (σ : zW), zG E K zfW (sX8_split_113 n k v0 v1 v2 v3 v4 v5 σ) σ 113 [some (.inr (.inl v0)), some (.inl v1), some (.inl v2), some (.inl v3), some (.inl v4), some (.inl v5), none, none, none, none] [] := by
  intro k
  induction k with
  | zero =>
    intro v0 v1 v2 v3 v4 v5 σ
    intro hX
    exact z_none hX
  | succ k ih =>
    intro v0 v1 v2 v3 v4 v5 σ
    rw [sX8_split_113]
    refine z_run hk hX8_split_1 7 2 (pc' := 116) (lv' := [some (.inr (.inl v0)), some (.inl v1), some (.inl v2), some (.inl v3), some (.inl v4), some (.inl v5), none, none, none, none]) (st' := [.inl v2, .inl v5]) rfl ?_
    refine z_cge hk (z_row hX8_split_1 9 rfl) (tgt := 210) rfl ?_ ?_
    · refine z_run hk hX8_split_1 56 2 (pc' := 212) (lv' := [some (.inr (.inl v0)), some (.inl v1), some (.inl v2), some (.inl v3), some (.inl v4), some (.inl v5), none, none, none, none]) (st' := [.inl v1, .inr (.inl v0)]) rfl ?_
      refine kX8_removeOrders F hk (z_row hX8_split_1 58 rfl) wd_1396 (by decide) (Nat.le_of_ble_eq_true rfl) (fun x10 σ11 => ?_)
      refine z_run hk hX8_split_1 59 1 (pc' := 217) (lv' := [some (.inr (.inl v0)), some (.inl v1), some (.inl v2), some (.inl v3), some (.inl v4), some (.inl x10), none, none, none, none]) (st' := []) rfl ?_
      refine z_run hk hX8_split_2 0 4 (pc' := 221) (lv' := [some (.inr (.inl v0)), some (.inl v1), some (.inl v2), some (.inl v3), some (.inl v4), some (.inl x10), none, none, none, none]) (st' := [.inl 5, .inl 3, .inl v1, .inr (.inl v0)]) rfl ?_
      refine kX8_set F hk (z_row hX8_split_2 4 rfl) wd_1193 (by decide) (Nat.le_of_ble_eq_true rfl) (fun σ12 => ?_)
      refine z_run hk hX8_split_2 5 5 (pc' := 231) (lv' := [some (.inr (.inl v0)), some (.inl v1), some (.inl v2), some (.inl v3), some (.inl v4), some (.inl x10), none, none, none, none]) (st' := [.inl v4, .inl (-1), .inl v1, .inl 6, .inr (.inl v0)]) rfl ?_
      refine kX8_note F hk (z_row hX8_split_2 10 rfl) wd_1291 (by decide) (Nat.le_of_ble_eq_true rfl) (fun σ13 => ?_)
      refine z_run hk hX8_split_2 11 1 (pc' := 236) (lv' := [some (.inr (.inl v0)), some (.inl v1), some (.inl v2), some (.inl v3), some (.inl v4), some (.inl x10), none, none, none, none]) (st' := [.inl v4]) rfl ?_
      exact z_iret hk he (z_row hX8_split_2 12 rfl) rfl
    · refine z_run hk hX8_split_1 10 3 (pc' := 123) (lv' := [some (.inr (.inl v0)), some (.inl v1), some (.inl v2), some (.inl v3), some (.inl v4), some (.inl v5), none, none, none, none]) (st' := [.inl v5, .inl v2, .inl v3]) rfl ?_
      refine kX8_quantityOf F hk (z_row hX8_split_1 13 rfl) wd_1416 (by decide) (Nat.le_of_ble_eq_true rfl) (fun x14 => ?_)
      refine z_run hk hX8_split_1 14 5 (pc' := 132) (lv' := [some (.inr (.inl v0)), some (.inl v1), some (.inl v2), some (.inl v3), some (.inl v4), some (.inl v5), some (.inl x14), none, none, none]) (st' := [.inl 0, .inl v1, .inr (.inl v0), .inr (.inl v0)]) rfl ?_
      refine kX8_at F hk (z_row hX8_split_1 19 rfl) wd_1213 (by decide) (Nat.le_of_ble_eq_true rfl) (fun x15 => ?_)
      refine z_run hk hX8_split_1 20 4 (pc' := 140) (lv' := [some (.inr (.inl v0)), some (.inl v1), some (.inl v2), some (.inl v3), some (.inl v4), some (.inl v5), some (.inl x14), none, none, none]) (st' := [.inl 2, .inl v1, .inr (.inl v0), .inl x14, .inl x15, .inr (.inl v0)]) rfl ?_
      refine kX8_at F hk (z_row hX8_split_1 24 rfl) wd_1213 (by decide) (Nat.le_of_ble_eq_true rfl) (fun x16 => ?_)
      refine z_run hk hX8_split_1 25 2 (pc' := 146) (lv' := [some (.inr (.inl v0)), some (.inl v1), some (.inl v2), some (.inl v3), some (.inl v4), some (.inl v5), some (.inl x14), none, none, none]) (st' := [.inl v3, .inl x14, .inl x16, .inl x14, .inl x15, .inr (.inl v0)]) rfl ?_
      refine kX8_share F hk (z_row hX8_split_1 27 rfl) wd_1419 (by decide) (Nat.le_of_ble_eq_true rfl) (fun x17 => ?_)
      refine kX8_makeLot F hk (z_row hX8_split_1 28 rfl) wd_1189 (by decide) (Nat.le_of_ble_eq_true rfl) (fun x18 σ19 => ?_)
      refine z_run hk hX8_split_1 29 3 (pc' := 157) (lv' := [some (.inr (.inl v0)), some (.inl v1), some (.inl v2), some (.inl v3), some (.inl v4), some (.inl v5), some (.inl x14), some (.inl x18), some (.inl 0), none]) (st' := []) rfl ?_
      exact gsX8_split_157 F n hk he (sX8_split_113 n k) ih n v0 v1 v2 v3 v4 v5 x14 x18 0 σ19
theorem mX8_split (F : zFx E) (n : Nat) (a0 : Nat) (a1 : Int32) (a2 : Int32) (σ : zW) (o : Int32 × zW) (hf : fX8_split n a0 a1 a2 σ = some o) : zM E qX8_split cX8_split 10 (some .int) 3 [.inr (.inl a0), .inl a1, .inl a2] σ (some (.int o.1)) o.2 := by
  refine zM_of (fin := zfW) F (by decide +kernel) rfl (Nat.le_of_ble_eq_true rfl) (lv0 := [some (.inr (.inl a0)), some (.inl a1), some (.inl a2), none, none, none, none, none, none, none]) rfl hf rfl (fun K hk he => ?_)
  have hk : zk E K "LotSalesModel" cX8_split 10 3 := hk
  unfold fX8_split
  refine z_run hk hX8_split_0 0 2 (pc' := 2) (lv' := [some (.inr (.inl a0)), some (.inl a1), some (.inl a2), none, none, none, none, none, none, none]) (st' := [.inl 0, .inr (.inl a0)]) rfl ?_
  refine z_pI hk 0 (z_row hX8_split_0 2 rfl) (ci := 8) rfl rfl wd_1122 rfl rfl rfl (fun σ20 => ?_)
  refine z_run hk hX8_split_0 3 2 (pc' := 7) (lv' := [some (.inr (.inl a0)), some (.inl a1), some (.inl a2), none, none, none, none, none, none, none]) (st' := [.inl a1, .inr (.inl a0)]) rfl ?_
  refine kX8_isLot F hk (z_row hX8_split_0 5 rfl) wd_1209 (by decide) (Nat.le_of_ble_eq_true rfl) (fun x21 => ?_)
  refine z_ne hk (z_row hX8_split_0 6 rfl) (tgt := 19) rfl ?_ ?_
  · refine z_run hk hX8_split_0 11 3 (pc' := 22) (lv' := [some (.inr (.inl a0)), some (.inl a1), some (.inl a2), none, none, none, none, none, none, none]) (st' := [.inl 1, .inl a1, .inr (.inl a0)]) rfl ?_
    refine kX8_at F hk (z_row hX8_split_0 14 rfl) wd_1213 (by decide) (Nat.le_of_ble_eq_true rfl) (fun x22 => ?_)
    refine z_run hk hX8_split_0 15 4 (pc' := 29) (lv' := [some (.inr (.inl a0)), some (.inl a1), some (.inl a2), some (.inl x22), none, none, none, none, none, none]) (st' := [.inl 4, .inl 2, .inl a2]) rfl ?_
    refine kX8_isIn F hk (z_row hX8_split_0 19 rfl) wd_1181 (by decide) (Nat.le_of_ble_eq_true rfl) (fun x23 => ?_)
    refine z_eq hk (z_row hX8_split_0 20 rfl) (tgt := 40) rfl ?_ ?_
    · refine z_mask [true, false, false, false, false, false, false, false, false, false] rfl ?_
      exact gsX8_split_40 F n hk he a0 σ20
    · refine z_run hk hX8_split_0 21 2 (pc' := 37) (lv' := [some (.inr (.inl a0)), some (.inl a1), some (.inl a2), some (.inl x22), none, none, none, none, none, none]) (st' := [.inl x22, .inl a2]) rfl ?_
      refine z_cle hk (z_row hX8_split_0 23 rfl) (tgt := 46) rfl ?_ ?_
      · refine z_run hk hX8_split_0 28 3 (pc' := 49) (lv' := [some (.inr (.inl a0)), some (.inl a1), some (.inl a2), some (.inl x22), none, none, none, none, none, none]) (st' := [.inl 3, .inl a1, .inr (.inl a0)]) rfl ?_
        refine kX8_at F hk (z_row hX8_split_0 31 rfl) wd_1213 (by decide) (Nat.le_of_ble_eq_true rfl) (fun x24 => ?_)
        refine z_ne hk (z_row hX8_split_0 32 rfl) (tgt := 91) rfl ?_ ?_
        · refine z_mask [true, false, false, false, false, false, false, false, false, false] rfl ?_
          exact gsX8_split_91 F n hk he a0 σ20
        · refine z_run hk hX8_split_0 33 1 (pc' := 56) (lv' := [some (.inr (.inl a0)), some (.inl a1), some (.inl a2), some (.inl x22), none, none, none, none, none, none]) (st' := [.inr (.inl a0)]) rfl ?_
          refine z_gR hk 1 (z_row hX8_split_0 34 rfl) (ci := 8) rfl rfl wd_1123 (fun x25 => ?_)
          refine z_run hk hX8_split_0 35 1 (pc' := 61) (lv' := [some (.inr (.inl a0)), some (.inl a1), some (.inl a2), some (.inl x22), none, none, none, none, none, none]) (st' := [.inl 23, .inr (.inl x25)]) rfl ?_
          refine z_aI hk (z_row hX8_split_0 36 rfl) (fun x26 => ?_)
          refine z_run hk hX8_split_0 37 3 (pc' := 66) (lv' := [some (.inr (.inl a0)), some (.inl a1), some (.inl a2), some (.inl x22), none, none, none, none, none, none]) (st' := [.inl 20, .inl (x26 + a2)]) rfl ?_
          refine z_cgt hk (z_row hX8_split_0 40 rfl) (tgt := 91) rfl ?_ ?_
          · refine z_mask [true, false, false, false, false, false, false, false, false, false] rfl ?_
            exact gsX8_split_91 F n hk he a0 σ20
          · refine z_run hk hX8_split_0 41 1 (pc' := 70) (lv' := [some (.inr (.inl a0)), some (.inl a1), some (.inl a2), some (.inl x22), none, none, none, none, none, none]) (st' := [.inr (.inl a0)]) rfl ?_
            refine kX8_allOrders F hk (z_row hX8_split_0 42 rfl) wd_1275 (by decide) (Nat.le_of_ble_eq_true rfl) (fun x27 => ?_)
            refine z_run hk hX8_split_0 43 2 (pc' := 75) (lv' := [some (.inr (.inl a0)), some (.inl a1), some (.inl a2), some (.inl x22), none, none, none, none, none, none]) (st' := [.inl a1, .inr (.inl a0), .inl x27]) rfl ?_
            refine kX8_ordersOf F hk (z_row hX8_split_0 45 rfl) wd_1279 (by decide) (Nat.le_of_ble_eq_true rfl) (fun x28 => ?_)
            refine z_run hk hX8_split_0 46 4 (pc' := 82) (lv' := [some (.inr (.inl a0)), some (.inl a1), some (.inl a2), some (.inl x22), none, none, none, none, none, none]) (st' := [.inl a2, .inl a1, .inr (.inl a0), .inl (x27 - x28)]) rfl ?_
            refine kX8_splitOrders F hk (z_row hX8_split_0 50 rfl) wd_1412 (by decide) (Nat.le_of_ble_eq_true rfl) (fun x29 => ?_)
            refine z_run hk hX8_split_0 51 2 (pc' := 88) (lv' := [some (.inr (.inl a0)), some (.inl a1), some (.inl a2), some (.inl x22), none, none, none, none, none, none]) (st' := [.inl 40, .inl ((x27 - x28) + x29)]) rfl ?_
            refine z_cle hk (z_row hX8_split_0 53 rfl) (tgt := 97) rfl ?_ ?_
            · refine z_run hk hX8_split_0 58 1 (pc' := 98) (lv' := [some (.inr (.inl a0)), some (.inl a1), some (.inl a2), some (.inl x22), none, none, none, none, none, none]) (st' := [.inr (.inl a0)]) rfl ?_
              refine kX8_keep F hk (z_row hX8_split_0 59 rfl) wd_1185 (by decide) (Nat.le_of_ble_eq_true rfl) (fun σ30 => ?_)
              refine z_run hk hX8_split_1 0 1 (pc' := 102) (lv' := [some (.inr (.inl a0)), some (.inl a1), some (.inl a2), some (.inl x22), none, none, none, none, none, none]) (st' := [.inr (.inl a0)]) rfl ?_
              refine z_gR hk 1 (z_row hX8_split_1 1 rfl) (ci := 8) rfl rfl wd_1123 (fun x31 => ?_)
              refine z_run hk hX8_split_1 2 1 (pc' := 107) (lv' := [some (.inr (.inl a0)), some (.inl a1), some (.inl a2), some (.inl x22), none, none, none, none, none, none]) (st' := [.inl 23, .inr (.inl x31)]) rfl ?_
              refine z_aI hk (z_row hX8_split_1 3 rfl) (fun x32 => ?_)
              refine z_run hk hX8_split_1 4 3 (pc' := 113) (lv' := [some (.inr (.inl a0)), some (.inl a1), some (.inl a2), some (.inl x22), some (.inl x32), some (.inl 0), none, none, none, none]) (st' := []) rfl ?_
              exact gsX8_split_113 F n hk he n a0 a1 a2 x22 x32 0 σ30
            · refine z_mask [true, false, false, false, false, false, false, false, false, false] rfl ?_
              exact gsX8_split_91 F n hk he a0 σ20
      · refine z_mask [true, false, false, false, false, false, false, false, false, false] rfl ?_
        exact gsX8_split_40 F n hk he a0 σ20
  · refine z_run hk hX8_split_0 7 2 (pc' := 15) (lv' := [some (.inr (.inl a0)), some (.inl a1), some (.inl a2), none, none, none, none, none, none, none]) (st' := [.inl 1, .inr (.inl a0)]) rfl ?_
    refine kX8_fail F hk (z_row hX8_split_0 9 rfl) wd_1221 (by decide) (Nat.le_of_ble_eq_true rfl) (fun x33 σ34 => ?_)
    exact z_iret hk he (z_row hX8_split_0 10 rfl) rfl
theorem kX8_split {n : Nat} {own : String} {cc : ByteArray} {nL h index : Nat} {α : Type} {fin : α → zO} {σ : zW} {pc : Nat} {lv : zLV} {st : List zV} {a0 : Nat} {a1 : Int32} {a2 : Int32} {c : Int32 → zW → Option α} (F : zFx E) (hk : zk E K own cc nL h) (hd : decode cc pc = .ok (.invokevirtual index, 3)) (hl : Cond.methodLink own index qX8_split ∈ lw_tbl) (hh : 3 + 1 ≤ h) (hs : zcat st ≤ 8) (k : ∀ v s, zG E K fin (c v s) s (pc + 3) lv (.inl v :: st)) : zG E K fin (zck σ 9 a0 (zb2 (fX8_split n a0 a1 a2 σ) c)) σ pc lv (.inl a2 :: .inl a1 :: .inr (.inl a0) :: st) :=
  z_vW (n := 2) (y := qX8_split) (As := [.inl a1, .inl a2]) hk hd hl wd_1409 wd_1410 wd_10 wd_1411 ⟨by decide, by decide, by decide +kernel⟩ ⟨hh, by decide⟩ (ci := 8) rfl rfl rfl (fun o ho => mX8_split F n a0 a1 a2 σ o ho) hs k
abbrev qX8_group : MethodName := { cls := "LotSalesModel", name := "group", desc := "(II)I" }
def sX8_group_21 (n : Nat) (v0 : Nat) (σ : zW) : Option (Int32 × zW) := zck σ 9 v0 (zb2 (fX8_fail n v0 1 σ) fun x1 σ2 => some (x1, σ2))
def sX8_group_83 (n : Nat) (v0 : Nat) (σ : zW) : Option (Int32 × zW) := zck σ 9 v0 (zb2 (fX8_fail n v0 2 σ) fun x3 σ4 => some (x3, σ4))
def sX8_group_119 (n : Nat) (v0 : Nat) (σ : zW) : Option (Int32 × zW) := zck σ 9 v0 (zb2 (fX8_fail n v0 3 σ) fun x5 σ6 => some (x5, σ6))
def sX8_group_227 (n : Nat) (r169 : Nat → Int32 → Int32 → Int32 → Int32 → zW → Option (Int32 × zW)) (v0 : Nat) (v1 : Int32) (v2 : Int32) (v3 : Int32) (v4 : Int32) (σ : zW) : Option (Int32 × zW) := r169 v0 v1 v2 v3 (v4 + 1) σ
def sX8_group_169 (n : Nat) : Nat → Nat → Int32 → Int32 → Int32 → Int32 → zW → Option (Int32 × zW)
  | 0, _, _, _, _, _, _ => none
  | k + 1, v0, v1, v2, v3, v4, σ => if v4 < 10 then zck σ 9 v0 (zb (fX8_orderOf n v0 v1 v4 σ) fun x14 => if 0 < x14 then zck σ 9 v0 (zb (fX8_orderOf n v0 v2 v4 σ) fun x15 => if 0 < x15 then zck σ 9 v0 (zb (fX8_orderOf n v0 v1 v4 σ) fun x16 => zck σ 9 v0 (zb (fX8_orderOf n v0 v2 v4 σ) fun x17 => zck σ 9 v0 (zb2 (fX8_nextNumber n v0 σ) fun x18 σ19 => zck σ19 9 v0 (zb (fX8_putOrder n v0 v3 v4 (if (x16 + x17) < 90000 then (x16 + x17) else 90000) x18 σ19) fun σ20 => sX8_group_227 n (sX8_group_169 n k) v0 v1 v2 v3 v4 σ20)))) else sX8_group_227 n (sX8_group_169 n k) v0 v1 v2 v3 v4 σ) else sX8_group_227 n (sX8_group_169 n k) v0 v1 v2 v3 v4 σ) else zck σ 9 v0 (zb2 (fX8_removeOrders n v0 v1 σ) fun x7 σ8 => zck σ8 9 v0 (zb2 (fX8_removeOrders n v0 v2 σ8) fun x9 σ10 => zck σ10 9 v0 (zb (fX8_set n v0 v1 3 6 σ10) fun σ11 => zck σ11 9 v0 (zb (fX8_set n v0 v2 3 6 σ11) fun σ12 => zck σ12 9 v0 (zb (fX8_note n v0 7 v1 (-1) v3 σ12) fun σ13 => some (v3, σ13))))))
def fX8_group (n : Nat) (a0 : Nat) (a1 : Int32) (a2 : Int32) (σ : zW) : Option (Int32 × zW) := zpI σ 9 a0 0 0 fun σ21 => zck σ21 9 a0 (zb (fX8_isLot n a0 a1 σ21) fun x22 => if x22 = 0 then sX8_group_21 n a0 σ21 else zck σ21 9 a0 (zb (fX8_isLot n a0 a2 σ21) fun x23 => if x23 = 0 then sX8_group_21 n a0 σ21 else if a1 = a2 then sX8_group_83 n a0 σ21 else zck σ21 9 a0 (zb (fX8_at n a0 a1 0 σ21) fun x24 => zck σ21 9 a0 (zb (fX8_at n a0 a2 0 σ21) fun x25 => if x24 = x25 then zck σ21 9 a0 (zb (fX8_at n a0 a1 1 σ21) fun x26 => zck σ21 9 a0 (zb (fX8_at n a0 a2 1 σ21) fun x27 => if 20 < (x26 + x27) then sX8_group_83 n a0 σ21 else zck σ21 9 a0 (zb (fX8_at n a0 a1 2 σ21) fun x28 => zck σ21 9 a0 (zb (fX8_at n a0 a2 2 σ21) fun x29 => if 90000 < (x28 + x29) then sX8_group_83 n a0 σ21 else zck σ21 9 a0 (zb (fX8_at n a0 a1 3 σ21) fun x30 => if x30 = 0 then zck σ21 9 a0 (zb (fX8_at n a0 a2 3 σ21) fun x31 => if x31 = 0 then zgR σ21 9 a0 1 fun x32 => zaI σ21 x32 23 fun x33 => if x33 = 20 then sX8_group_119 n a0 σ21 else zck σ21 9 a0 (zb (fX8_keep n a0 σ21) fun σ34 => zck σ34 9 a0 (zb (fX8_at n a0 a1 0 σ34) fun x35 => zck σ34 9 a0 (zb (fX8_at n a0 a1 1 σ34) fun x36 => zck σ34 9 a0 (zb (fX8_at n a0 a2 1 σ34) fun x37 => zck σ34 9 a0 (zb (fX8_at n a0 a1 2 σ34) fun x38 => zck σ34 9 a0 (zb (fX8_at n a0 a2 2 σ34) fun x39 => zck σ34 9 a0 (zb2 (fX8_makeLot n a0 x35 (x36 + x37) (x38 + x39) σ34) fun x40 σ41 => sX8_group_169 n n a0 a1 a2 x40 0 σ41))))))) else sX8_group_119 n a0 σ21) else sX8_group_119 n a0 σ21))))) else sX8_group_83 n a0 σ21))))
theorem gsX8_group_21 (F : zFx E) (n : Nat) (hk : zk E K "LotSalesModel" cX8_group 5 3) (he : zend E K (some .int) "group") (v0 : Nat) (σ : zW) : zG E K zfW (sX8_group_21 n v0 σ) σ 21 [some (.inr (.inl v0)), none, none, none, none] [] := by
  unfold sX8_group_21
  refine z_run hk hX8_group_0 11 2 (pc' := 23) (lv' := [some (.inr (.inl v0)), none, none, none, none]) (st' := [.inl 1, .inr (.inl v0)]) rfl ?_
  refine kX8_fail F hk (z_row hX8_group_0 13 rfl) wd_1221 (by decide) (Nat.le_of_ble_eq_true rfl) (fun x1 σ2 => ?_)
  exact z_iret hk he (z_row hX8_group_0 14 rfl) rfl
theorem gsX8_group_83 (F : zFx E) (n : Nat) (hk : zk E K "LotSalesModel" cX8_group 5 3) (he : zend E K (some .int) "group") (v0 : Nat) (σ : zW) : zG E K zfW (sX8_group_83 n v0 σ) σ 83 [some (.inr (.inl v0)), none, none, none, none] [] := by
  unfold sX8_group_83
  refine z_run hk hX8_group_0 49 2 (pc' := 85) (lv' := [some (.inr (.inl v0)), none, none, none, none]) (st' := [.inl 2, .inr (.inl v0)]) rfl ?_
  refine kX8_fail F hk (z_row hX8_group_0 51 rfl) wd_1221 (by decide) (Nat.le_of_ble_eq_true rfl) (fun x3 σ4 => ?_)
  exact z_iret hk he (z_row hX8_group_0 52 rfl) rfl
theorem gsX8_group_119 (F : zFx E) (n : Nat) (hk : zk E K "LotSalesModel" cX8_group 5 3) (he : zend E K (some .int) "group") (v0 : Nat) (σ : zW) : zG E K zfW (sX8_group_119 n v0 σ) σ 119 [some (.inr (.inl v0)), none, none, none, none] [] := by
  unfold sX8_group_119
  refine z_run hk hX8_group_1 9 2 (pc' := 121) (lv' := [some (.inr (.inl v0)), none, none, none, none]) (st' := [.inl 3, .inr (.inl v0)]) rfl ?_
  refine kX8_fail F hk (z_row hX8_group_1 11 rfl) wd_1221 (by decide) (Nat.le_of_ble_eq_true rfl) (fun x5 σ6 => ?_)
  exact z_iret hk he (z_row hX8_group_1 12 rfl) rfl
theorem gsX8_group_227 (F : zFx E) (n : Nat) (hk : zk E K "LotSalesModel" cX8_group 5 3) (he : zend E K (some .int) "group") (r169 : Nat → Int32 → Int32 → Int32 → Int32 → zW → Option (Int32 × zW)) (hr169 : ∀ (v0 : Nat) (v1 : Int32) (v2 : Int32) (v3 : Int32) (v4 : Int32) (σ : zW), zG E K zfW (r169 v0 v1 v2 v3 v4 σ) σ 169 [some (.inr (.inl v0)), some (.inl v1), some (.inl v2), some (.inl v3), some (.inl v4)] []) (v0 : Nat) (v1 : Int32) (v2 : Int32) (v3 : Int32) (v4 : Int32) (σ : zW) : zG E K zfW (sX8_group_227 n r169 v0 v1 v2 v3 v4 σ) σ 227 [some (.inr (.inl v0)), some (.inl v1), some (.inl v2), some (.inl v3), some (.inl v4)] [] := by
  unfold sX8_group_227
  refine z_run hk hX8_group_2 12 1 (pc' := 230) (lv' := [some (.inr (.inl v0)), some (.inl v1), some (.inl v2), some (.inl v3), some (.inl (v4 + 1))]) (st' := []) rfl ?_
  refine z_goto hk (z_row hX8_group_2 13 rfl) (tgt := 169) rfl ?_
  exact hr169 v0 v1 v2 v3 (v4 + 1) σ
theorem gsX8_group_169 (F : zFx E) (n : Nat) (hk : zk E K "LotSalesModel" cX8_group 5 3) (he : zend E K (some .int) "group") : ∀ (k : Nat) (v0 : Nat) (v1 : Int32) (v2 : Int32) (v3 : Int32) (v4 : Int32) (σ : zW), zG E K zfW (sX8_group_169 n k v0 v1 v2 v3 v4 σ) σ 169 [some (.inr (.inl v0)), some (.inl v1), some (.inl v2), some (.inl v3), some (.inl v4)] [] := by
  intro k
  induction k with
  | zero =>
    intro v0 v1 v2 v3 v4 σ
    intro hX
    exact z_none hX
  | succ k ih =>
    intro v0 v1 v2 v3 v4 σ
    rw [sX8_group_169]
    refine z_run hk hX8_group_1 42 2 (pc' := 173) (lv' := [some (.inr (.inl v0)), some (.inl v1), some (.inl v2), some (.inl v3), some (.inl v4)]) (st' := [.inl 10, .inl v4]) rfl ?_
    refine z_cge hk (z_row hX8_group_1 44 rfl) (tgt := 233) rfl ?_ ?_
    · refine z_run hk hX8_group_2 14 2 (pc' := 235) (lv' := [some (.inr (.inl v0)), some (.inl v1), some (.inl v2), some (.inl v3), some (.inl v4)]) (st' := [.inl v1, .inr (.inl v0)]) rfl ?_
      refine kX8_removeOrders F hk (z_row hX8_group_2 16 rfl) wd_1396 (by decide) (Nat.le_of_ble_eq_true rfl) (fun x7 σ8 => ?_)
      refine z_run hk hX8_group_2 17 2 (pc' := 240) (lv' := [some (.inr (.inl v0)), some (.inl v1), some (.inl v2), some (.inl v3), some (.inl v4)]) (st' := [.inl v2, .inr (.inl v0), .inl x7]) rfl ?_
      refine kX8_removeOrders F hk (z_row hX8_group_2 19 rfl) wd_1396 (by decide) (Nat.le_of_ble_eq_true rfl) (fun x9 σ10 => ?_)
      refine z_run hk hX8_group_2 20 6 (pc' := 251) (lv' := [some (.inr (.inl v0)), some (.inl v1), some (.inl v2), some (.inl v3), some (.inl (x7 + x9))]) (st' := [.inl 6, .inl 3, .inl v1, .inr (.inl v0)]) rfl ?_
      refine kX8_set F hk (z_row hX8_group_2 26 rfl) wd_1193 (by decide) (Nat.le_of_ble_eq_true rfl) (fun σ11 => ?_)
      refine z_run hk hX8_group_2 27 4 (pc' := 259) (lv' := [some (.inr (.inl v0)), some (.inl v1), some (.inl v2), some (.inl v3), some (.inl (x7 + x9))]) (st' := [.inl 6, .inl 3, .inl v2, .inr (.inl v0)]) rfl ?_
      refine kX8_set F hk (z_row hX8_group_2 31 rfl) wd_1193 (by decide) (Nat.le_of_ble_eq_true rfl) (fun σ12 => ?_)
      refine z_run hk hX8_group_2 32 5 (pc' := 268) (lv' := [some (.inr (.inl v0)), some (.inl v1), some (.inl v2), some (.inl v3), some (.inl (x7 + x9))]) (st' := [.inl v3, .inl (-1), .inl v1, .inl 7, .inr (.inl v0)]) rfl ?_
      refine kX8_note F hk (z_row hX8_group_2 37 rfl) wd_1291 (by decide) (Nat.le_of_ble_eq_true rfl) (fun σ13 => ?_)
      refine z_run hk hX8_group_2 38 1 (pc' := 272) (lv' := [some (.inr (.inl v0)), some (.inl v1), some (.inl v2), some (.inl v3), some (.inl (x7 + x9))]) (st' := [.inl v3]) rfl ?_
      exact z_iret hk he (z_row hX8_group_2 39 rfl) rfl
    · refine z_run hk hX8_group_1 45 3 (pc' := 180) (lv' := [some (.inr (.inl v0)), some (.inl v1), some (.inl v2), some (.inl v3), some (.inl v4)]) (st' := [.inl v4, .inl v1, .inr (.inl v0)]) rfl ?_
      refine kX8_orderOf F hk (z_row hX8_group_1 48 rfl) wd_1283 (by decide) (Nat.le_of_ble_eq_true rfl) (fun x14 => ?_)
      refine z_le hk (z_row hX8_group_1 49 rfl) (tgt := 227) rfl ?_ ?_
      · exact gsX8_group_227 F n hk he (sX8_group_169 n k) ih v0 v1 v2 v3 v4 σ
      · refine z_run hk hX8_group_1 50 3 (pc' := 190) (lv' := [some (.inr (.inl v0)), some (.inl v1), some (.inl v2), some (.inl v3), some (.inl v4)]) (st' := [.inl v4, .inl v2, .inr (.inl v0)]) rfl ?_
        refine kX8_orderOf F hk (z_row hX8_group_1 53 rfl) wd_1283 (by decide) (Nat.le_of_ble_eq_true rfl) (fun x15 => ?_)
        refine z_le hk (z_row hX8_group_1 54 rfl) (tgt := 227) rfl ?_ ?_
        · exact gsX8_group_227 F n hk he (sX8_group_169 n k) ih v0 v1 v2 v3 v4 σ
        · refine z_run hk hX8_group_1 55 3 (pc' := 200) (lv' := [some (.inr (.inl v0)), some (.inl v1), some (.inl v2), some (.inl v3), some (.inl v4)]) (st' := [.inl v4, .inl v3, .inr (.inl v0)]) rfl ?_
          refine z_ldc hk (z_row hX8_group_1 58 rfl) wd_1184 ?_
          refine z_run hk hX8_group_1 59 1 (pc' := 203) (lv' := [some (.inr (.inl v0)), some (.inl v1), some (.inl v2), some (.inl v3), some (.inl v4)]) (st' := [.inr (.inl v0), .inl 90000, .inl v4, .inl v3, .inr (.inl v0)]) rfl ?_
          refine z_run hk hX8_group_2 0 2 (pc' := 206) (lv' := [some (.inr (.inl v0)), some (.inl v1), some (.inl v2), some (.inl v3), some (.inl v4)]) (st' := [.inl v4, .inl v1, .inr (.inl v0), .inl 90000, .inl v4, .inl v3, .inr (.inl v0)]) rfl ?_
          refine kX8_orderOf F hk (z_row hX8_group_2 2 rfl) wd_1283 (by decide) (Nat.le_of_ble_eq_true rfl) (fun x16 => ?_)
          refine z_run hk hX8_group_2 3 3 (pc' := 213) (lv' := [some (.inr (.inl v0)), some (.inl v1), some (.inl v2), some (.inl v3), some (.inl v4)]) (st' := [.inl v4, .inl v2, .inr (.inl v0), .inl x16, .inl 90000, .inl v4, .inl v3, .inr (.inl v0)]) rfl ?_
          refine kX8_orderOf F hk (z_row hX8_group_2 6 rfl) wd_1283 (by decide) (Nat.le_of_ble_eq_true rfl) (fun x17 => ?_)
          refine z_run hk hX8_group_2 7 1 (pc' := 217) (lv' := [some (.inr (.inl v0)), some (.inl v1), some (.inl v2), some (.inl v3), some (.inl v4)]) (st' := [.inl (x16 + x17), .inl 90000, .inl v4, .inl v3, .inr (.inl v0)]) rfl ?_
          refine z_mmin hk (z_row hX8_group_2 8 rfl) wd_1336 wd_453 wd_16 wd_454 (by decide) (Nat.le_of_ble_eq_true rfl) ?_
          refine z_run hk hX8_group_2 9 1 (pc' := 221) (lv' := [some (.inr (.inl v0)), some (.inl v1), some (.inl v2), some (.inl v3), some (.inl v4)]) (st' := [.inr (.inl v0), .inl (if (x16 + x17) < 90000 then (x16 + x17) else 90000), .inl v4, .inl v3, .inr (.inl v0)]) rfl ?_
          refine kX8_nextNumber F hk (z_row hX8_group_2 10 rfl) wd_1287 (by decide) (Nat.le_of_ble_eq_true rfl) (fun x18 σ19 => ?_)
          refine kX8_putOrder F hk (z_row hX8_group_2 11 rfl) wd_1197 (by decide) (Nat.le_of_ble_eq_true rfl) (fun σ20 => ?_)
          exact gsX8_group_227 F n hk he (sX8_group_169 n k) ih v0 v1 v2 v3 v4 σ20
theorem mX8_group (F : zFx E) (n : Nat) (a0 : Nat) (a1 : Int32) (a2 : Int32) (σ : zW) (o : Int32 × zW) (hf : fX8_group n a0 a1 a2 σ = some o) : zM E qX8_group cX8_group 5 (some .int) 3 [.inr (.inl a0), .inl a1, .inl a2] σ (some (.int o.1)) o.2 := by
  refine zM_of (fin := zfW) F (by decide +kernel) rfl (Nat.le_of_ble_eq_true rfl) (lv0 := [some (.inr (.inl a0)), some (.inl a1), some (.inl a2), none, none]) rfl hf rfl (fun K hk he => ?_)
  have hk : zk E K "LotSalesModel" cX8_group 5 3 := hk
  unfold fX8_group
  refine z_run hk hX8_group_0 0 2 (pc' := 2) (lv' := [some (.inr (.inl a0)), some (.inl a1), some (.inl a2), none, none]) (st' := [.inl 0, .inr (.inl a0)]) rfl ?_
  refine z_pI hk 0 (z_row hX8_group_0 2 rfl) (ci := 8) rfl rfl wd_1122 rfl rfl rfl (fun σ21 => ?_)
  refine z_run hk hX8_group_0 3 2 (pc' := 7) (lv' := [some (.inr (.inl a0)), some (.inl a1), some (.inl a2), none, none]) (st' := [.inl a1, .inr (.inl a0)]) rfl ?_
  refine kX8_isLot F hk (z_row hX8_group_0 5 rfl) wd_1209 (by decide) (Nat.le_of_ble_eq_true rfl) (fun x22 => ?_)
  refine z_eq hk (z_row hX8_group_0 6 rfl) (tgt := 21) rfl ?_ ?_
  · refine z_mask [true, false, false, false, false] rfl ?_
    exact gsX8_group_21 F n hk he a0 σ21
  · refine z_run hk hX8_group_0 7 2 (pc' := 15) (lv' := [some (.inr (.inl a0)), some (.inl a1), some (.inl a2), none, none]) (st' := [.inl a2, .inr (.inl a0)]) rfl ?_
    refine kX8_isLot F hk (z_row hX8_group_0 9 rfl) wd_1209 (by decide) (Nat.le_of_ble_eq_true rfl) (fun x23 => ?_)
    refine z_ne hk (z_row hX8_group_0 10 rfl) (tgt := 27) rfl ?_ ?_
    · refine z_run hk hX8_group_0 15 2 (pc' := 29) (lv' := [some (.inr (.inl a0)), some (.inl a1), some (.inl a2), none, none]) (st' := [.inl a2, .inl a1]) rfl ?_
      refine z_ceq hk (z_row hX8_group_0 17 rfl) (tgt := 83) rfl ?_ ?_
      · refine z_mask [true, false, false, false, false] rfl ?_
        exact gsX8_group_83 F n hk he a0 σ21
      · refine z_run hk hX8_group_0 18 3 (pc' := 35) (lv' := [some (.inr (.inl a0)), some (.inl a1), some (.inl a2), none, none]) (st' := [.inl 0, .inl a1, .inr (.inl a0)]) rfl ?_
        refine kX8_at F hk (z_row hX8_group_0 21 rfl) wd_1213 (by decide) (Nat.le_of_ble_eq_true rfl) (fun x24 => ?_)
        refine z_run hk hX8_group_0 22 3 (pc' := 41) (lv' := [some (.inr (.inl a0)), some (.inl a1), some (.inl a2), none, none]) (st' := [.inl 0, .inl a2, .inr (.inl a0), .inl x24]) rfl ?_
        refine kX8_at F hk (z_row hX8_group_0 25 rfl) wd_1213 (by decide) (Nat.le_of_ble_eq_true rfl) (fun x25 => ?_)
        refine z_cne hk (z_row hX8_group_0 26 rfl) (tgt := 83) rfl ?_ ?_
        · refine z_mask [true, false, false, false, false] rfl ?_
          exact gsX8_group_83 F n hk he a0 σ21
        · refine z_run hk hX8_group_0 27 3 (pc' := 50) (lv' := [some (.inr (.inl a0)), some (.inl a1), some (.inl a2), none, none]) (st' := [.inl 1, .inl a1, .inr (.inl a0)]) rfl ?_
          refine kX8_at F hk (z_row hX8_group_0 30 rfl) wd_1213 (by decide) (Nat.le_of_ble_eq_true rfl) (fun x26 => ?_)
          refine z_run hk hX8_group_0 31 3 (pc' := 56) (lv' := [some (.inr (.inl a0)), some (.inl a1), some (.inl a2), none, none]) (st' := [.inl 1, .inl a2, .inr (.inl a0), .inl x26]) rfl ?_
          refine kX8_at F hk (z_row hX8_group_0 34 rfl) wd_1213 (by decide) (Nat.le_of_ble_eq_true rfl) (fun x27 => ?_)
          refine z_run hk hX8_group_0 35 2 (pc' := 62) (lv' := [some (.inr (.inl a0)), some (.inl a1), some (.inl a2), none, none]) (st' := [.inl 20, .inl (x26 + x27)]) rfl ?_
          refine z_cgt hk (z_row hX8_group_0 37 rfl) (tgt := 83) rfl ?_ ?_
          · refine z_mask [true, false, false, false, false] rfl ?_
            exact gsX8_group_83 F n hk he a0 σ21
          · refine z_run hk hX8_group_0 38 3 (pc' := 68) (lv' := [some (.inr (.inl a0)), some (.inl a1), some (.inl a2), none, none]) (st' := [.inl 2, .inl a1, .inr (.inl a0)]) rfl ?_
            refine kX8_at F hk (z_row hX8_group_0 41 rfl) wd_1213 (by decide) (Nat.le_of_ble_eq_true rfl) (fun x28 => ?_)
            refine z_run hk hX8_group_0 42 3 (pc' := 74) (lv' := [some (.inr (.inl a0)), some (.inl a1), some (.inl a2), none, none]) (st' := [.inl 2, .inl a2, .inr (.inl a0), .inl x28]) rfl ?_
            refine kX8_at F hk (z_row hX8_group_0 45 rfl) wd_1213 (by decide) (Nat.le_of_ble_eq_true rfl) (fun x29 => ?_)
            refine z_run hk hX8_group_0 46 1 (pc' := 78) (lv' := [some (.inr (.inl a0)), some (.inl a1), some (.inl a2), none, none]) (st' := [.inl (x28 + x29)]) rfl ?_
            refine z_ldc hk (z_row hX8_group_0 47 rfl) wd_1184 ?_
            refine z_cle hk (z_row hX8_group_0 48 rfl) (tgt := 89) rfl ?_ ?_
            · refine z_run hk hX8_group_0 53 3 (pc' := 92) (lv' := [some (.inr (.inl a0)), some (.inl a1), some (.inl a2), none, none]) (st' := [.inl 3, .inl a1, .inr (.inl a0)]) rfl ?_
              refine kX8_at F hk (z_row hX8_group_0 56 rfl) wd_1213 (by decide) (Nat.le_of_ble_eq_true rfl) (fun x30 => ?_)
              refine z_ne hk (z_row hX8_group_0 57 rfl) (tgt := 119) rfl ?_ ?_
              · refine z_mask [true, false, false, false, false] rfl ?_
                exact gsX8_group_119 F n hk he a0 σ21
              · refine z_run hk hX8_group_0 58 2 (pc' := 100) (lv' := [some (.inr (.inl a0)), some (.inl a1), some (.inl a2), none, none]) (st' := [.inl a2, .inr (.inl a0)]) rfl ?_
                refine z_run hk hX8_group_1 0 1 (pc' := 101) (lv' := [some (.inr (.inl a0)), some (.inl a1), some (.inl a2), none, none]) (st' := [.inl 3, .inl a2, .inr (.inl a0)]) rfl ?_
                refine kX8_at F hk (z_row hX8_group_1 1 rfl) wd_1213 (by decide) (Nat.le_of_ble_eq_true rfl) (fun x31 => ?_)
                refine z_ne hk (z_row hX8_group_1 2 rfl) (tgt := 119) rfl ?_ ?_
                · refine z_mask [true, false, false, false, false] rfl ?_
                  exact gsX8_group_119 F n hk he a0 σ21
                · refine z_run hk hX8_group_1 3 1 (pc' := 108) (lv' := [some (.inr (.inl a0)), some (.inl a1), some (.inl a2), none, none]) (st' := [.inr (.inl a0)]) rfl ?_
                  refine z_gR hk 1 (z_row hX8_group_1 4 rfl) (ci := 8) rfl rfl wd_1123 (fun x32 => ?_)
                  refine z_run hk hX8_group_1 5 1 (pc' := 113) (lv' := [some (.inr (.inl a0)), some (.inl a1), some (.inl a2), none, none]) (st' := [.inl 23, .inr (.inl x32)]) rfl ?_
                  refine z_aI hk (z_row hX8_group_1 6 rfl) (fun x33 => ?_)
                  refine z_run hk hX8_group_1 7 1 (pc' := 116) (lv' := [some (.inr (.inl a0)), some (.inl a1), some (.inl a2), none, none]) (st' := [.inl 20, .inl x33]) rfl ?_
                  refine z_cne hk (z_row hX8_group_1 8 rfl) (tgt := 125) rfl ?_ ?_
                  · refine z_run hk hX8_group_1 13 1 (pc' := 126) (lv' := [some (.inr (.inl a0)), some (.inl a1), some (.inl a2), none, none]) (st' := [.inr (.inl a0)]) rfl ?_
                    refine kX8_keep F hk (z_row hX8_group_1 14 rfl) wd_1185 (by decide) (Nat.le_of_ble_eq_true rfl) (fun σ34 => ?_)
                    refine z_run hk hX8_group_1 15 4 (pc' := 133) (lv' := [some (.inr (.inl a0)), some (.inl a1), some (.inl a2), none, none]) (st' := [.inl 0, .inl a1, .inr (.inl a0), .inr (.inl a0)]) rfl ?_
                    refine kX8_at F hk (z_row hX8_group_1 19 rfl) wd_1213 (by decide) (Nat.le_of_ble_eq_true rfl) (fun x35 => ?_)
                    refine z_run hk hX8_group_1 20 3 (pc' := 139) (lv' := [some (.inr (.inl a0)), some (.inl a1), some (.inl a2), none, none]) (st' := [.inl 1, .inl a1, .inr (.inl a0), .inl x35, .inr (.inl a0)]) rfl ?_
                    refine kX8_at F hk (z_row hX8_group_1 23 rfl) wd_1213 (by decide) (Nat.le_of_ble_eq_true rfl) (fun x36 => ?_)
                    refine z_run hk hX8_group_1 24 3 (pc' := 145) (lv' := [some (.inr (.inl a0)), some (.inl a1), some (.inl a2), none, none]) (st' := [.inl 1, .inl a2, .inr (.inl a0), .inl x36, .inl x35, .inr (.inl a0)]) rfl ?_
                    refine kX8_at F hk (z_row hX8_group_1 27 rfl) wd_1213 (by decide) (Nat.le_of_ble_eq_true rfl) (fun x37 => ?_)
                    refine z_run hk hX8_group_1 28 4 (pc' := 152) (lv' := [some (.inr (.inl a0)), some (.inl a1), some (.inl a2), none, none]) (st' := [.inl 2, .inl a1, .inr (.inl a0), .inl (x36 + x37), .inl x35, .inr (.inl a0)]) rfl ?_
                    refine kX8_at F hk (z_row hX8_group_1 32 rfl) wd_1213 (by decide) (Nat.le_of_ble_eq_true rfl) (fun x38 => ?_)
                    refine z_run hk hX8_group_1 33 3 (pc' := 158) (lv' := [some (.inr (.inl a0)), some (.inl a1), some (.inl a2), none, none]) (st' := [.inl 2, .inl a2, .inr (.inl a0), .inl x38, .inl (x36 + x37), .inl x35, .inr (.inl a0)]) rfl ?_
                    refine kX8_at F hk (z_row hX8_group_1 36 rfl) wd_1213 (by decide) (Nat.le_of_ble_eq_true rfl) (fun x39 => ?_)
                    refine z_run hk hX8_group_1 37 1 (pc' := 162) (lv' := [some (.inr (.inl a0)), some (.inl a1), some (.inl a2), none, none]) (st' := [.inl (x38 + x39), .inl (x36 + x37), .inl x35, .inr (.inl a0)]) rfl ?_
                    refine kX8_makeLot F hk (z_row hX8_group_1 38 rfl) wd_1189 (by decide) (Nat.le_of_ble_eq_true rfl) (fun x40 σ41 => ?_)
                    refine z_run hk hX8_group_1 39 3 (pc' := 169) (lv' := [some (.inr (.inl a0)), some (.inl a1), some (.inl a2), some (.inl x40), some (.inl 0)]) (st' := []) rfl ?_
                    exact gsX8_group_169 F n hk he n a0 a1 a2 x40 0 σ41
                  · refine z_mask [true, false, false, false, false] rfl ?_
                    exact gsX8_group_119 F n hk he a0 σ21
            · refine z_mask [true, false, false, false, false] rfl ?_
              exact gsX8_group_83 F n hk he a0 σ21
    · refine z_mask [true, false, false, false, false] rfl ?_
      exact gsX8_group_21 F n hk he a0 σ21
theorem kX8_group {n : Nat} {own : String} {cc : ByteArray} {nL h index : Nat} {α : Type} {fin : α → zO} {σ : zW} {pc : Nat} {lv : zLV} {st : List zV} {a0 : Nat} {a1 : Int32} {a2 : Int32} {c : Int32 → zW → Option α} (F : zFx E) (hk : zk E K own cc nL h) (hd : decode cc pc = .ok (.invokevirtual index, 3)) (hl : Cond.methodLink own index qX8_group ∈ lw_tbl) (hh : 3 + 1 ≤ h) (hs : zcat st ≤ 8) (k : ∀ v s, zG E K fin (c v s) s (pc + 3) lv (.inl v :: st)) : zG E K fin (zck σ 9 a0 (zb2 (fX8_group n a0 a1 a2 σ) c)) σ pc lv (.inl a2 :: .inl a1 :: .inr (.inl a0) :: st) :=
  z_vW (n := 2) (y := qX8_group) (As := [.inl a1, .inl a2]) hk hd hl wd_1423 wd_1424 wd_10 wd_1425 ⟨by decide, by decide, by decide +kernel⟩ ⟨hh, by decide⟩ (ci := 8) rfl rfl rfl (fun o ho => mX8_group F n a0 a1 a2 σ o ho) hs k
abbrev qX8_why : MethodName := { cls := "LotSalesModel", name := "why", desc := "(I)I" }
def sX8_why_48 (n : Nat) (y0 : Int32) (σ : zW) : Option (Int32 × zW) := some (y0, σ)
def sX8_why_28 (n : Nat) (v0 : Nat) (v1 : Int32) (y0 : Nat) (y1 : Int32) (σ : zW) : Option (Int32 × zW) := zpI σ 9 y0 0 y1 fun σ1 => zgI σ1 9 v0 0 fun x2 => if x2 = 0 then zck σ1 9 v0 (zb (fX8_at n v0 v1 5 σ1) fun x3 => sX8_why_48 n x3 σ1) else sX8_why_48 n 0 σ1
def fX8_why (n : Nat) (a0 : Nat) (a1 : Int32) (σ : zW) : Option (Int32 × zW) := zck σ 9 a0 (zb (fX8_isLot n a0 a1 σ) fun x4 => if x4 = 0 then sX8_why_28 n a0 a1 a0 1 σ else zck σ 9 a0 (zb (fX8_at n a0 a1 5 σ) fun x5 => if x5 = (-1) then sX8_why_28 n a0 a1 a0 2 σ else sX8_why_28 n a0 a1 a0 0 σ))
theorem gsX8_why_48 (F : zFx E) (n : Nat) (hk : zk E K "LotSalesModel" cX8_why 2 2) (he : zend E K (some .int) "why") (y0 : Int32) (σ : zW) : zG E K zfW (sX8_why_48 n y0 σ) σ 48 [none, none] [.inl y0] := by
  unfold sX8_why_48
  exact z_iret hk he (z_row hX8_why_0 26 rfl) rfl
theorem gsX8_why_28 (F : zFx E) (n : Nat) (hk : zk E K "LotSalesModel" cX8_why 2 2) (he : zend E K (some .int) "why") (v0 : Nat) (v1 : Int32) (y0 : Nat) (y1 : Int32) (σ : zW) : zG E K zfW (sX8_why_28 n v0 v1 y0 y1 σ) σ 28 [some (.inr (.inl v0)), some (.inl v1)] [.inl y1, .inr (.inl y0)] := by
  unfold sX8_why_28
  refine z_pI hk 0 (z_row hX8_why_0 16 rfl) (ci := 8) rfl rfl wd_1122 rfl rfl rfl (fun σ1 => ?_)
  refine z_run hk hX8_why_0 17 1 (pc' := 32) (lv' := [some (.inr (.inl v0)), some (.inl v1)]) (st' := [.inr (.inl v0)]) rfl ?_
  refine z_gI hk 0 (z_row hX8_why_0 18 rfl) (ci := 8) rfl rfl wd_1122 (fun x2 => ?_)
  refine z_ne hk (z_row hX8_why_0 19 rfl) (tgt := 47) rfl ?_ ?_
  · refine z_run hk hX8_why_0 25 1 (pc' := 48) (lv' := [some (.inr (.inl v0)), some (.inl v1)]) (st' := [.inl 0]) rfl ?_
    refine z_mask [false, false] rfl ?_
    exact gsX8_why_48 F n hk he 0 σ1
  · refine z_run hk hX8_why_0 20 3 (pc' := 41) (lv' := [some (.inr (.inl v0)), some (.inl v1)]) (st' := [.inl 5, .inl v1, .inr (.inl v0)]) rfl ?_
    refine kX8_at F hk (z_row hX8_why_0 23 rfl) wd_1213 (by decide) (Nat.le_of_ble_eq_true rfl) (fun x3 => ?_)
    refine z_goto hk (z_row hX8_why_0 24 rfl) (tgt := 48) rfl ?_
    refine z_mask [false, false] rfl ?_
    exact gsX8_why_48 F n hk he x3 σ1
theorem mX8_why (F : zFx E) (n : Nat) (a0 : Nat) (a1 : Int32) (σ : zW) (o : Int32 × zW) (hf : fX8_why n a0 a1 σ = some o) : zM E qX8_why cX8_why 2 (some .int) 2 [.inr (.inl a0), .inl a1] σ (some (.int o.1)) o.2 := by
  refine zM_of (fin := zfW) F (by decide +kernel) rfl (Nat.le_of_ble_eq_true rfl) (lv0 := [some (.inr (.inl a0)), some (.inl a1)]) rfl hf rfl (fun K hk he => ?_)
  have hk : zk E K "LotSalesModel" cX8_why 2 2 := hk
  unfold fX8_why
  refine z_run hk hX8_why_0 0 3 (pc' := 3) (lv' := [some (.inr (.inl a0)), some (.inl a1)]) (st' := [.inl a1, .inr (.inl a0), .inr (.inl a0)]) rfl ?_
  refine kX8_isLot F hk (z_row hX8_why_0 3 rfl) wd_1209 (by decide) (Nat.le_of_ble_eq_true rfl) (fun x4 => ?_)
  refine z_ne hk (z_row hX8_why_0 4 rfl) (tgt := 13) rfl ?_ ?_
  · refine z_run hk hX8_why_0 7 3 (pc' := 16) (lv' := [some (.inr (.inl a0)), some (.inl a1)]) (st' := [.inl 5, .inl a1, .inr (.inl a0), .inr (.inl a0)]) rfl ?_
    refine kX8_at F hk (z_row hX8_why_0 10 rfl) wd_1213 (by decide) (Nat.le_of_ble_eq_true rfl) (fun x5 => ?_)
    refine z_run hk hX8_why_0 11 1 (pc' := 20) (lv' := [some (.inr (.inl a0)), some (.inl a1)]) (st' := [.inl (-1), .inl x5, .inr (.inl a0)]) rfl ?_
    refine z_cne hk (z_row hX8_why_0 12 rfl) (tgt := 27) rfl ?_ ?_
    · refine z_run hk hX8_why_0 15 1 (pc' := 28) (lv' := [some (.inr (.inl a0)), some (.inl a1)]) (st' := [.inl 0, .inr (.inl a0)]) rfl ?_
      exact gsX8_why_28 F n hk he a0 a1 a0 0 σ
    · refine z_run hk hX8_why_0 13 1 (pc' := 24) (lv' := [some (.inr (.inl a0)), some (.inl a1)]) (st' := [.inl 2, .inr (.inl a0)]) rfl ?_
      refine z_goto hk (z_row hX8_why_0 14 rfl) (tgt := 28) rfl ?_
      exact gsX8_why_28 F n hk he a0 a1 a0 2 σ
  · refine z_run hk hX8_why_0 5 1 (pc' := 10) (lv' := [some (.inr (.inl a0)), some (.inl a1)]) (st' := [.inl 1, .inr (.inl a0)]) rfl ?_
    refine z_goto hk (z_row hX8_why_0 6 rfl) (tgt := 28) rfl ?_
    exact gsX8_why_28 F n hk he a0 a1 a0 1 σ
theorem kX8_why {n : Nat} {own : String} {cc : ByteArray} {nL h index : Nat} {α : Type} {fin : α → zO} {σ : zW} {pc : Nat} {lv : zLV} {st : List zV} {a0 : Nat} {a1 : Int32} {c : Int32 → zW → Option α} (F : zFx E) (hk : zk E K own cc nL h) (hd : decode cc pc = .ok (.invokevirtual index, 3)) (hl : Cond.methodLink own index qX8_why ∈ lw_tbl) (hh : 2 + 1 ≤ h) (hs : zcat st ≤ 8) (k : ∀ v s, zG E K fin (c v s) s (pc + 3) lv (.inl v :: st)) : zG E K fin (zck σ 9 a0 (zb2 (fX8_why n a0 a1 σ) c)) σ pc lv (.inl a1 :: .inr (.inl a0) :: st) :=
  z_vW (n := 1) (y := qX8_why) (As := [.inl a1]) hk hd hl wd_1427 wd_1428 wd_10 wd_1429 ⟨by decide, by decide, by decide +kernel⟩ ⟨hh, by decide⟩ (ci := 8) rfl rfl rfl (fun o ho => mX8_why F n a0 a1 σ o ho) hs k
abbrev qX8_sold : MethodName := { cls := "LotSalesModel", name := "sold", desc := "(IZ)I" }
def sX8_sold_58 (n : Nat) (y0 : Int32) (σ : zW) : Option (Int32 × zW) := some (y0, σ)
def sX8_sold_51 (n : Nat) (y0 : Nat) (y1 : Int32) (y2 : Int32) (σ : zW) : Option (Int32 × zW) := zck σ 9 y0 (zb (fX8_at n y0 y1 y2 σ) fun x1 => sX8_sold_58 n x1 σ)
def sX8_sold_28 (n : Nat) (v0 : Nat) (v1 : Int32) (v2 : Int32) (y0 : Nat) (y1 : Int32) (σ : zW) : Option (Int32 × zW) := zpI σ 9 y0 0 y1 fun σ2 => zgI σ2 9 v0 0 fun x3 => if x3 = 0 then if v2 = 0 then sX8_sold_51 n v0 v1 6 σ2 else sX8_sold_51 n v0 v1 7 σ2 else sX8_sold_58 n 0 σ2
def fX8_sold (n : Nat) (a0 : Nat) (a1 : Int32) (a2 : Int32) (σ : zW) : Option (Int32 × zW) := zck σ 9 a0 (zb (fX8_isLot n a0 a1 σ) fun x4 => if x4 = 0 then sX8_sold_28 n a0 a1 a2 a0 1 σ else zck σ 9 a0 (zb (fX8_at n a0 a1 3 σ) fun x5 => if x5 = 2 then sX8_sold_28 n a0 a1 a2 a0 0 σ else sX8_sold_28 n a0 a1 a2 a0 2 σ))
theorem gsX8_sold_58 (F : zFx E) (n : Nat) (hk : zk E K "LotSalesModel" cX8_sold 3 2) (he : zend E K (some .int) "sold") (y0 : Int32) (σ : zW) : zG E K zfW (sX8_sold_58 n y0 σ) σ 58 [none, none, none] [.inl y0] := by
  unfold sX8_sold_58
  exact z_iret hk he (z_row hX8_sold_0 30 rfl) rfl
theorem gsX8_sold_51 (F : zFx E) (n : Nat) (hk : zk E K "LotSalesModel" cX8_sold 3 2) (he : zend E K (some .int) "sold") (y0 : Nat) (y1 : Int32) (y2 : Int32) (σ : zW) : zG E K zfW (sX8_sold_51 n y0 y1 y2 σ) σ 51 [none, none, none] [.inl y2, .inl y1, .inr (.inl y0)] := by
  unfold sX8_sold_51
  refine kX8_at F hk (z_row hX8_sold_0 27 rfl) wd_1213 (by decide) (Nat.le_of_ble_eq_true rfl) (fun x1 => ?_)
  refine z_goto hk (z_row hX8_sold_0 28 rfl) (tgt := 58) rfl ?_
  exact gsX8_sold_58 F n hk he x1 σ
theorem gsX8_sold_28 (F : zFx E) (n : Nat) (hk : zk E K "LotSalesModel" cX8_sold 3 2) (he : zend E K (some .int) "sold") (v0 : Nat) (v1 : Int32) (v2 : Int32) (y0 : Nat) (y1 : Int32) (σ : zW) : zG E K zfW (sX8_sold_28 n v0 v1 v2 y0 y1 σ) σ 28 [some (.inr (.inl v0)), some (.inl v1), some (.inl v2)] [.inl y1, .inr (.inl y0)] := by
  unfold sX8_sold_28
  refine z_pI hk 0 (z_row hX8_sold_0 16 rfl) (ci := 8) rfl rfl wd_1122 rfl rfl rfl (fun σ2 => ?_)
  refine z_run hk hX8_sold_0 17 1 (pc' := 32) (lv' := [some (.inr (.inl v0)), some (.inl v1), some (.inl v2)]) (st' := [.inr (.inl v0)]) rfl ?_
  refine z_gI hk 0 (z_row hX8_sold_0 18 rfl) (ci := 8) rfl rfl wd_1122 (fun x3 => ?_)
  refine z_ne hk (z_row hX8_sold_0 19 rfl) (tgt := 57) rfl ?_ ?_
  · refine z_run hk hX8_sold_0 29 1 (pc' := 58) (lv' := [some (.inr (.inl v0)), some (.inl v1), some (.inl v2)]) (st' := [.inl 0]) rfl ?_
    refine z_mask [false, false, false] rfl ?_
    exact gsX8_sold_58 F n hk he 0 σ2
  · refine z_run hk hX8_sold_0 20 3 (pc' := 41) (lv' := [some (.inr (.inl v0)), some (.inl v1), some (.inl v2)]) (st' := [.inl v2, .inl v1, .inr (.inl v0)]) rfl ?_
    refine z_eq hk (z_row hX8_sold_0 23 rfl) (tgt := 49) rfl ?_ ?_
    · refine z_run hk hX8_sold_0 26 1 (pc' := 51) (lv' := [some (.inr (.inl v0)), some (.inl v1), some (.inl v2)]) (st' := [.inl 6, .inl v1, .inr (.inl v0)]) rfl ?_
      refine z_mask [false, false, false] rfl ?_
      exact gsX8_sold_51 F n hk he v0 v1 6 σ2
    · refine z_run hk hX8_sold_0 24 1 (pc' := 46) (lv' := [some (.inr (.inl v0)), some (.inl v1), some (.inl v2)]) (st' := [.inl 7, .inl v1, .inr (.inl v0)]) rfl ?_
      refine z_goto hk (z_row hX8_sold_0 25 rfl) (tgt := 51) rfl ?_
      refine z_mask [false, false, false] rfl ?_
      exact gsX8_sold_51 F n hk he v0 v1 7 σ2
theorem mX8_sold (F : zFx E) (n : Nat) (a0 : Nat) (a1 : Int32) (a2 : Int32) (σ : zW) (o : Int32 × zW) (hf : fX8_sold n a0 a1 a2 σ = some o) : zM E qX8_sold cX8_sold 3 (some .int) 2 [.inr (.inl a0), .inl a1, .inl a2] σ (some (.int o.1)) o.2 := by
  refine zM_of (fin := zfW) F (by decide +kernel) rfl (Nat.le_of_ble_eq_true rfl) (lv0 := [some (.inr (.inl a0)), some (.inl a1), some (.inl a2)]) rfl hf rfl (fun K hk he => ?_)
  have hk : zk E K "LotSalesModel" cX8_sold 3 2 := hk
  unfold fX8_sold
  refine z_run hk hX8_sold_0 0 3 (pc' := 3) (lv' := [some (.inr (.inl a0)), some (.inl a1), some (.inl a2)]) (st' := [.inl a1, .inr (.inl a0), .inr (.inl a0)]) rfl ?_
  refine kX8_isLot F hk (z_row hX8_sold_0 3 rfl) wd_1209 (by decide) (Nat.le_of_ble_eq_true rfl) (fun x4 => ?_)
  refine z_ne hk (z_row hX8_sold_0 4 rfl) (tgt := 13) rfl ?_ ?_
  · refine z_run hk hX8_sold_0 7 3 (pc' := 16) (lv' := [some (.inr (.inl a0)), some (.inl a1), some (.inl a2)]) (st' := [.inl 3, .inl a1, .inr (.inl a0), .inr (.inl a0)]) rfl ?_
    refine kX8_at F hk (z_row hX8_sold_0 10 rfl) wd_1213 (by decide) (Nat.le_of_ble_eq_true rfl) (fun x5 => ?_)
    refine z_run hk hX8_sold_0 11 1 (pc' := 20) (lv' := [some (.inr (.inl a0)), some (.inl a1), some (.inl a2)]) (st' := [.inl 2, .inl x5, .inr (.inl a0)]) rfl ?_
    refine z_ceq hk (z_row hX8_sold_0 12 rfl) (tgt := 27) rfl ?_ ?_
    · refine z_run hk hX8_sold_0 15 1 (pc' := 28) (lv' := [some (.inr (.inl a0)), some (.inl a1), some (.inl a2)]) (st' := [.inl 0, .inr (.inl a0)]) rfl ?_
      exact gsX8_sold_28 F n hk he a0 a1 a2 a0 0 σ
    · refine z_run hk hX8_sold_0 13 1 (pc' := 24) (lv' := [some (.inr (.inl a0)), some (.inl a1), some (.inl a2)]) (st' := [.inl 2, .inr (.inl a0)]) rfl ?_
      refine z_goto hk (z_row hX8_sold_0 14 rfl) (tgt := 28) rfl ?_
      exact gsX8_sold_28 F n hk he a0 a1 a2 a0 2 σ
  · refine z_run hk hX8_sold_0 5 1 (pc' := 10) (lv' := [some (.inr (.inl a0)), some (.inl a1), some (.inl a2)]) (st' := [.inl 1, .inr (.inl a0)]) rfl ?_
    refine z_goto hk (z_row hX8_sold_0 6 rfl) (tgt := 28) rfl ?_
    exact gsX8_sold_28 F n hk he a0 a1 a2 a0 1 σ
theorem kX8_sold {n : Nat} {own : String} {cc : ByteArray} {nL h index : Nat} {α : Type} {fin : α → zO} {σ : zW} {pc : Nat} {lv : zLV} {st : List zV} {a0 : Nat} {a1 : Int32} {a2 : Int32} {c : Int32 → zW → Option α} (F : zFx E) (hk : zk E K own cc nL h) (hd : decode cc pc = .ok (.invokevirtual index, 3)) (hl : Cond.methodLink own index qX8_sold ∈ lw_tbl) (hh : 2 + 1 ≤ h) (hs : zcat st ≤ 8) (k : ∀ v s, zG E K fin (c v s) s (pc + 3) lv (.inl v :: st)) : zG E K fin (zck σ 9 a0 (zb2 (fX8_sold n a0 a1 a2 σ) c)) σ pc lv (.inl a2 :: .inl a1 :: .inr (.inl a0) :: st) :=
  z_vW (n := 2) (y := qX8_sold) (As := [.inl a1, .inl a2]) hk hd hl wd_1431 wd_1432 wd_10 wd_1433 ⟨by decide, by decide, by decide +kernel⟩ ⟨hh, by decide⟩ (ci := 8) rfl rfl rfl (fun o ho => mX8_sold F n a0 a1 a2 σ o ho) hs k
abbrev qX8_commissionOf : MethodName := { cls := "LotSalesModel", name := "commissionOf", desc := "(I)I" }
def fX8_commissionOf (n : Nat) (a0 : Int32) (σ : zW) : Option (Int32) := zdv 10 (some (if (if 5 < (a0 / 10) then (a0 / 10) else 5) < a0 then (if 5 < (a0 / 10) then (a0 / 10) else 5) else a0))
theorem mX8_commissionOf (F : zFx E) (n : Nat) (a0 : Int32) (σ : zW) (o : Int32) (hf : fX8_commissionOf n a0 σ = some o) : zM E qX8_commissionOf cX8_commissionOf 1 (some .int) 1 [.inl a0] σ (some (.int o)) σ := by
  refine zM_of (fin := (zfR σ)) F (by decide +kernel) rfl (Nat.le_of_ble_eq_true rfl) (lv0 := [some (.inl a0)]) rfl hf rfl (fun K hk he => ?_)
  have hk : zk E K "LotSalesModel" cX8_commissionOf 1 1 := hk
  unfold fX8_commissionOf
  refine z_run hk hX8_commissionOf_0 0 4 (pc' := 5) (lv' := [some (.inl a0)]) (st' := [.inl 10, .inl a0, .inl 5, .inl a0]) rfl ?_
  refine z_idiv hk (z_row hX8_commissionOf_0 4 rfl) ?_
  refine z_mmax hk (z_row hX8_commissionOf_0 5 rfl) wd_1327 wd_578 wd_16 wd_579 (by decide) (Nat.le_of_ble_eq_true rfl) ?_
  refine z_mmin hk (z_row hX8_commissionOf_0 6 rfl) wd_1336 wd_453 wd_16 wd_454 (by decide) (Nat.le_of_ble_eq_true rfl) ?_
  exact z_iret hk he (z_row hX8_commissionOf_0 7 rfl) rfl
theorem kX8_commissionOf {n : Nat} {own : String} {cc : ByteArray} {nL h index : Nat} {α : Type} {fin : α → zO} {σ : zW} {pc : Nat} {lv : zLV} {st : List zV} {a0 : Int32} {c : Int32 → Option α} (F : zFx E) (hk : zk E K own cc nL h) (hd : decode cc pc = .ok (.invokestatic index, 3)) (hl : Cond.methodLink own index qX8_commissionOf ∈ lw_tbl) (hh : 1 + 1 ≤ h) (hs : zcat st ≤ 8) (k : ∀ v, zG E K fin (c v) σ (pc + 3) lv (.inl v :: st)) : zG E K fin (zb (fX8_commissionOf n a0 σ) c) σ pc lv (.inl a0 :: st) :=
  z_qR (n := 1) (y := qX8_commissionOf) (As := [.inl a0]) hk hd hl wd_1459 wd_10 wd_1460 ⟨by decide, by decide, by decide +kernel⟩ ⟨hh, by decide⟩ rfl (fun o ho => mX8_commissionOf F n a0 σ o ho) hs k
abbrev qX8_premium : MethodName := { cls := "LotSalesModel", name := "premium", desc := "(I)I" }
def sX8_premium_27 (n : Nat) (y0 : Int32) (σ : zW) : Option (Int32 × zW) := some (y0, σ)
def fX8_premium (n : Nat) (a0 : Nat) (a1 : Int32) (σ : zW) : Option (Int32 × zW) := zpI σ 9 a0 0 0 fun σ1 => zb (fX8_isIn n a1 0 99999 σ1) fun x2 => if x2 = 0 then zck σ1 9 a0 (zb2 (fX8_fail n a0 1 σ1) fun x3 σ4 => sX8_premium_27 n x3 σ4) else zb (fX8_premiumOf n a1 σ1) fun x5 => sX8_premium_27 n x5 σ1
theorem gsX8_premium_27 (F : zFx E) (n : Nat) (hk : zk E K "LotSalesModel" cX8_premium 2 2) (he : zend E K (some .int) "premium") (y0 : Int32) (σ : zW) : zG E K zfW (sX8_premium_27 n y0 σ) σ 27 [none, none] [.inl y0] := by
  unfold sX8_premium_27
  exact z_iret hk he (z_row hX8_premium_0 14 rfl) rfl
theorem mX8_premium (F : zFx E) (n : Nat) (a0 : Nat) (a1 : Int32) (σ : zW) (o : Int32 × zW) (hf : fX8_premium n a0 a1 σ = some o) : zM E qX8_premium cX8_premium 2 (some .int) 2 [.inr (.inl a0), .inl a1] σ (some (.int o.1)) o.2 := by
  refine zM_of (fin := zfW) F (by decide +kernel) rfl (Nat.le_of_ble_eq_true rfl) (lv0 := [some (.inr (.inl a0)), some (.inl a1)]) rfl hf rfl (fun K hk he => ?_)
  have hk : zk E K "LotSalesModel" cX8_premium 2 2 := hk
  unfold fX8_premium
  refine z_run hk hX8_premium_0 0 2 (pc' := 2) (lv' := [some (.inr (.inl a0)), some (.inl a1)]) (st' := [.inl 0, .inr (.inl a0)]) rfl ?_
  refine z_pI hk 0 (z_row hX8_premium_0 2 rfl) (ci := 8) rfl rfl wd_1122 rfl rfl rfl (fun σ1 => ?_)
  refine z_run hk hX8_premium_0 3 2 (pc' := 7) (lv' := [some (.inr (.inl a0)), some (.inl a1)]) (st' := [.inl 0, .inl a1]) rfl ?_
  refine z_ldc hk (z_row hX8_premium_0 5 rfl) wd_1241 ?_
  refine kX8_isIn F hk (z_row hX8_premium_0 6 rfl) wd_1181 (by decide) (Nat.le_of_ble_eq_true rfl) (fun x2 => ?_)
  refine z_eq hk (z_row hX8_premium_0 7 rfl) (tgt := 22) rfl ?_ ?_
  · refine z_run hk hX8_premium_0 11 2 (pc' := 24) (lv' := [some (.inr (.inl a0)), some (.inl a1)]) (st' := [.inl 1, .inr (.inl a0)]) rfl ?_
    refine kX8_fail F hk (z_row hX8_premium_0 13 rfl) wd_1221 (by decide) (Nat.le_of_ble_eq_true rfl) (fun x3 σ4 => ?_)
    refine z_mask [false, false] rfl ?_
    exact gsX8_premium_27 F n hk he x3 σ4
  · refine z_run hk hX8_premium_0 8 1 (pc' := 16) (lv' := [some (.inr (.inl a0)), some (.inl a1)]) (st' := [.inl a1]) rfl ?_
    refine kX8_premiumOf F hk (z_row hX8_premium_0 9 rfl) wd_1361 (by decide) (Nat.le_of_ble_eq_true rfl) (fun x5 => ?_)
    refine z_goto hk (z_row hX8_premium_0 10 rfl) (tgt := 27) rfl ?_
    refine z_mask [false, false] rfl ?_
    exact gsX8_premium_27 F n hk he x5 σ1
theorem kX8_premium {n : Nat} {own : String} {cc : ByteArray} {nL h index : Nat} {α : Type} {fin : α → zO} {σ : zW} {pc : Nat} {lv : zLV} {st : List zV} {a0 : Nat} {a1 : Int32} {c : Int32 → zW → Option α} (F : zFx E) (hk : zk E K own cc nL h) (hd : decode cc pc = .ok (.invokevirtual index, 3)) (hl : Cond.methodLink own index qX8_premium ∈ lw_tbl) (hh : 2 + 1 ≤ h) (hs : zcat st ≤ 8) (k : ∀ v s, zG E K fin (c v s) s (pc + 3) lv (.inl v :: st)) : zG E K fin (zck σ 9 a0 (zb2 (fX8_premium n a0 a1 σ) c)) σ pc lv (.inl a1 :: .inr (.inl a0) :: st) :=
  z_vW (n := 1) (y := qX8_premium) (As := [.inl a1]) hk hd hl wd_1435 wd_1436 wd_10 wd_1437 ⟨by decide, by decide, by decide +kernel⟩ ⟨hh, by decide⟩ (ci := 8) rfl rfl rfl (fun o ho => mX8_premium F n a0 a1 σ o ho) hs k
abbrev qX8_leads : MethodName := { cls := "LotSalesModel", name := "leads", desc := "(I)I" }
def sX8_leads_30 (n : Nat) (r4 : Nat → Int32 → Int32 → Int32 → zW → Option (Int32 × zW)) (v0 : Nat) (v1 : Int32) (v3 : Int32) (y0 : Int32) (y1 : Int32) (σ : zW) : Option (Int32 × zW) := r4 v0 v1 (y0 + y1) (v3 + 1) σ
def sX8_leads_4 (n : Nat) : Nat → Nat → Int32 → Int32 → Int32 → zW → Option (Int32 × zW)
  | 0, _, _, _, _, _ => none
  | k + 1, v0, v1, v2, v3, σ => zgR σ 9 v0 1 fun x1 => zaI σ x1 23 fun x2 => if v3 < x2 then zck σ 9 v0 (zb2 (fX8_isLeading n v0 v3 v1 σ) fun x3 σ4 => if x3 = 0 then sX8_leads_30 n (sX8_leads_4 n k) v0 v1 v3 v2 0 σ4 else sX8_leads_30 n (sX8_leads_4 n k) v0 v1 v3 v2 1 σ4) else some (v2, σ)
def fX8_leads (n : Nat) (a0 : Nat) (a1 : Int32) (σ : zW) : Option (Int32 × zW) := sX8_leads_4 n n a0 a1 0 0 σ
theorem gsX8_leads_30 (F : zFx E) (n : Nat) (hk : zk E K "LotSalesModel" cX8_leads 4 8) (he : zend E K (some .int) "leads") (r4 : Nat → Int32 → Int32 → Int32 → zW → Option (Int32 × zW)) (hr4 : ∀ (v0 : Nat) (v1 : Int32) (v2 : Int32) (v3 : Int32) (σ : zW), zG E K zfW (r4 v0 v1 v2 v3 σ) σ 4 [some (.inr (.inl v0)), some (.inl v1), some (.inl v2), some (.inl v3)] []) (v0 : Nat) (v1 : Int32) (v3 : Int32) (y0 : Int32) (y1 : Int32) (σ : zW) : zG E K zfW (sX8_leads_30 n r4 v0 v1 v3 y0 y1 σ) σ 30 [some (.inr (.inl v0)), some (.inl v1), none, some (.inl v3)] [.inl y1, .inl y0] := by
  unfold sX8_leads_30
  refine z_run hk hX8_leads_0 19 3 (pc' := 35) (lv' := [some (.inr (.inl v0)), some (.inl v1), some (.inl (y0 + y1)), some (.inl (v3 + 1))]) (st' := []) rfl ?_
  refine z_goto hk (z_row hX8_leads_0 22 rfl) (tgt := 4) rfl ?_
  exact hr4 v0 v1 (y0 + y1) (v3 + 1) σ
theorem gsX8_leads_4 (F : zFx E) (n : Nat) (hk : zk E K "LotSalesModel" cX8_leads 4 8) (he : zend E K (some .int) "leads") : ∀ (k : Nat) (v0 : Nat) (v1 : Int32) (v2 : Int32) (v3 : Int32) (σ : zW), zG E K zfW (sX8_leads_4 n k v0 v1 v2 v3 σ) σ 4 [some (.inr (.inl v0)), some (.inl v1), some (.inl v2), some (.inl v3)] [] := by
  intro k
  induction k with
  | zero =>
    intro v0 v1 v2 v3 σ
    intro hX
    exact z_none hX
  | succ k ih =>
    intro v0 v1 v2 v3 σ
    rw [sX8_leads_4]
    refine z_run hk hX8_leads_0 4 2 (pc' := 6) (lv' := [some (.inr (.inl v0)), some (.inl v1), some (.inl v2), some (.inl v3)]) (st' := [.inr (.inl v0), .inl v3]) rfl ?_
    refine z_gR hk 1 (z_row hX8_leads_0 6 rfl) (ci := 8) rfl rfl wd_1123 (fun x1 => ?_)
    refine z_run hk hX8_leads_0 7 1 (pc' := 11) (lv' := [some (.inr (.inl v0)), some (.inl v1), some (.inl v2), some (.inl v3)]) (st' := [.inl 23, .inr (.inl x1), .inl v3]) rfl ?_
    refine z_aI hk (z_row hX8_leads_0 8 rfl) (fun x2 => ?_)
    refine z_cge hk (z_row hX8_leads_0 9 rfl) (tgt := 38) rfl ?_ ?_
    · refine z_run hk hX8_leads_0 23 1 (pc' := 39) (lv' := [some (.inr (.inl v0)), some (.inl v1), some (.inl v2), some (.inl v3)]) (st' := [.inl v2]) rfl ?_
      exact z_iret hk he (z_row hX8_leads_0 24 rfl) rfl
    · refine z_run hk hX8_leads_0 10 4 (pc' := 19) (lv' := [some (.inr (.inl v0)), some (.inl v1), some (.inl v2), some (.inl v3)]) (st' := [.inl v1, .inl v3, .inr (.inl v0), .inl v2]) rfl ?_
      refine kX8_isLeading F hk (z_row hX8_leads_0 14 rfl) wd_1345 (by decide) (Nat.le_of_ble_eq_true rfl) (fun x3 σ4 => ?_)
      refine z_eq hk (z_row hX8_leads_0 15 rfl) (tgt := 29) rfl ?_ ?_
      · refine z_run hk hX8_leads_0 18 1 (pc' := 30) (lv' := [some (.inr (.inl v0)), some (.inl v1), some (.inl v2), some (.inl v3)]) (st' := [.inl 0, .inl v2]) rfl ?_
        refine z_mask [true, true, false, true] rfl ?_
        exact gsX8_leads_30 F n hk he (sX8_leads_4 n k) ih v0 v1 v3 v2 0 σ4
      · refine z_run hk hX8_leads_0 16 1 (pc' := 26) (lv' := [some (.inr (.inl v0)), some (.inl v1), some (.inl v2), some (.inl v3)]) (st' := [.inl 1, .inl v2]) rfl ?_
        refine z_goto hk (z_row hX8_leads_0 17 rfl) (tgt := 30) rfl ?_
        refine z_mask [true, true, false, true] rfl ?_
        exact gsX8_leads_30 F n hk he (sX8_leads_4 n k) ih v0 v1 v3 v2 1 σ4
theorem mX8_leads (F : zFx E) (n : Nat) (a0 : Nat) (a1 : Int32) (σ : zW) (o : Int32 × zW) (hf : fX8_leads n a0 a1 σ = some o) : zM E qX8_leads cX8_leads 4 (some .int) 8 [.inr (.inl a0), .inl a1] σ (some (.int o.1)) o.2 := by
  refine zM_of (fin := zfW) F (by decide +kernel) rfl (Nat.le_of_ble_eq_true rfl) (lv0 := [some (.inr (.inl a0)), some (.inl a1), none, none]) rfl hf rfl (fun K hk he => ?_)
  have hk : zk E K "LotSalesModel" cX8_leads 4 8 := hk
  unfold fX8_leads
  refine z_run hk hX8_leads_0 0 4 (pc' := 4) (lv' := [some (.inr (.inl a0)), some (.inl a1), some (.inl 0), some (.inl 0)]) (st' := []) rfl ?_
  exact gsX8_leads_4 F n hk he n a0 a1 0 0 σ
theorem kX8_leads {n : Nat} {own : String} {cc : ByteArray} {nL h index : Nat} {α : Type} {fin : α → zO} {σ : zW} {pc : Nat} {lv : zLV} {st : List zV} {a0 : Nat} {a1 : Int32} {c : Int32 → zW → Option α} (F : zFx E) (hk : zk E K own cc nL h) (hd : decode cc pc = .ok (.invokevirtual index, 3)) (hl : Cond.methodLink own index qX8_leads ∈ lw_tbl) (hh : 8 + 1 ≤ h) (hs : zcat st ≤ 8) (k : ∀ v s, zG E K fin (c v s) s (pc + 3) lv (.inl v :: st)) : zG E K fin (zck σ 9 a0 (zb2 (fX8_leads n a0 a1 σ) c)) σ pc lv (.inl a1 :: .inr (.inl a0) :: st) :=
  z_vW (n := 1) (y := qX8_leads) (As := [.inl a1]) hk hd hl wd_1444 ws_48 wd_10 wd_1445 ⟨by decide, by decide, by decide +kernel⟩ ⟨hh, by decide⟩ (ci := 8) rfl rfl rfl (fun o ho => mX8_leads F n a0 a1 σ o ho) hs k
abbrev qX8_bidder : MethodName := { cls := "LotSalesModel", name := "bidder", desc := "(II)I" }
def sX8_bidder_27 (n : Nat) (v0 : Nat) (v1 : Int32) (v2 : Int32) (y0 : Nat) (y1 : Int32) (σ : zW) : Option (Int32 × zW) := zpI σ 9 y0 0 y1 fun σ1 => zgI σ1 9 v0 0 fun x2 => if x2 = 0 then if v2 = 0 then zgR σ1 9 v0 1 fun x3 => zaI σ1 x3 (13 + v1) fun x4 => some (x4, σ1) else if v2 = 1 then zck σ1 9 v0 (zb (fX8_boughtBy n v0 v1 1 σ1) fun x5 => some (x5, σ1)) else if v2 = 2 then zck σ1 9 v0 (zb (fX8_boughtBy n v0 v1 2 σ1) fun x6 => some (x6, σ1)) else if v2 = 3 then zck σ1 9 v0 (zb (fX8_boughtBy n v0 v1 1 σ1) fun x7 => zck σ1 9 v0 (zb (fX8_boughtBy n v0 v1 2 σ1) fun x8 => some ((x7 + x8), σ1))) else if v2 = 4 then zck σ1 9 v0 (zb (fX8_boughtBy n v0 v1 0 σ1) fun x9 => some (x9, σ1)) else if v2 = 5 then zck σ1 9 v0 (zb2 (fX8_exposureOf n v0 v1 σ1) fun x10 σ11 => some (x10, σ11)) else zck σ1 9 v0 (zb2 (fX8_leads n v0 v1 σ1) fun x12 σ13 => some (x12, σ13)) else some (0, σ1)
def fX8_bidder (n : Nat) (a0 : Nat) (a1 : Int32) (a2 : Int32) (σ : zW) : Option (Int32 × zW) := zb (fX8_isBidder n a1 σ) fun x14 => if x14 = 0 then sX8_bidder_27 n a0 a1 a2 a0 1 σ else zb (fX8_isIn n a2 0 6 σ) fun x15 => if x15 = 0 then sX8_bidder_27 n a0 a1 a2 a0 2 σ else sX8_bidder_27 n a0 a1 a2 a0 0 σ
theorem gsX8_bidder_27 (F : zFx E) (n : Nat) (hk : zk E K "LotSalesModel" cX8_bidder 3 9) (he : zend E K (some .int) "bidder") (v0 : Nat) (v1 : Int32) (v2 : Int32) (y0 : Nat) (y1 : Int32) (σ : zW) : zG E K zfW (sX8_bidder_27 n v0 v1 v2 y0 y1 σ) σ 27 [some (.inr (.inl v0)), some (.inl v1), some (.inl v2)] [.inl y1, .inr (.inl y0)] := by
  unfold sX8_bidder_27
  refine z_pI hk 0 (z_row hX8_bidder_0 14 rfl) (ci := 8) rfl rfl wd_1122 rfl rfl rfl (fun σ1 => ?_)
  refine z_run hk hX8_bidder_0 15 1 (pc' := 31) (lv' := [some (.inr (.inl v0)), some (.inl v1), some (.inl v2)]) (st' := [.inr (.inl v0)]) rfl ?_
  refine z_gI hk 0 (z_row hX8_bidder_0 16 rfl) (ci := 8) rfl rfl wd_1122 (fun x2 => ?_)
  refine z_eq hk (z_row hX8_bidder_0 17 rfl) (tgt := 39) rfl ?_ ?_
  · refine z_run hk hX8_bidder_0 20 1 (pc' := 40) (lv' := [some (.inr (.inl v0)), some (.inl v1), some (.inl v2)]) (st' := [.inl v2]) rfl ?_
    refine z_tabI hk (z_row hX8_bidder_0 21 rfl) (c := 0) (tgt := 80) (by decide) (by decide) rfl rfl ?_ (fun hn0 => ?_)
    · refine z_run hk hX8_bidder_0 22 1 (pc' := 81) (lv' := [some (.inr (.inl v0)), some (.inl v1), some (.inl v2)]) (st' := [.inr (.inl v0)]) rfl ?_
      refine z_gR hk 1 (z_row hX8_bidder_0 23 rfl) (ci := 8) rfl rfl wd_1123 (fun x3 => ?_)
      refine z_run hk hX8_bidder_0 24 3 (pc' := 88) (lv' := [some (.inr (.inl v0)), some (.inl v1), some (.inl v2)]) (st' := [.inl (13 + v1), .inr (.inl x3)]) rfl ?_
      refine z_aI hk (z_row hX8_bidder_0 27 rfl) (fun x4 => ?_)
      exact z_iret hk he (z_row hX8_bidder_0 28 rfl) rfl
    refine z_tabI hk (z_row hX8_bidder_0 21 rfl) (c := 1) (tgt := 90) (by decide) (by decide) rfl rfl ?_ (fun hn1 => ?_)
    · refine z_run hk hX8_bidder_0 29 3 (pc' := 93) (lv' := [some (.inr (.inl v0)), some (.inl v1), some (.inl v2)]) (st' := [.inl 1, .inl v1, .inr (.inl v0)]) rfl ?_
      refine kX8_boughtBy F hk (z_row hX8_bidder_0 32 rfl) wd_1357 (by decide) (Nat.le_of_ble_eq_true rfl) (fun x5 => ?_)
      exact z_iret hk he (z_row hX8_bidder_0 33 rfl) rfl
    refine z_tabI hk (z_row hX8_bidder_0 21 rfl) (c := 2) (tgt := 97) (by decide) (by decide) rfl rfl ?_ (fun hn2 => ?_)
    · refine z_run hk hX8_bidder_0 34 3 (pc' := 100) (lv' := [some (.inr (.inl v0)), some (.inl v1), some (.inl v2)]) (st' := [.inl 2, .inl v1, .inr (.inl v0)]) rfl ?_
      refine kX8_boughtBy F hk (z_row hX8_bidder_0 37 rfl) wd_1357 (by decide) (Nat.le_of_ble_eq_true rfl) (fun x6 => ?_)
      exact z_iret hk he (z_row hX8_bidder_0 38 rfl) rfl
    refine z_tabI hk (z_row hX8_bidder_0 21 rfl) (c := 3) (tgt := 104) (by decide) (by decide) rfl rfl ?_ (fun hn3 => ?_)
    · refine z_run hk hX8_bidder_0 39 3 (pc' := 107) (lv' := [some (.inr (.inl v0)), some (.inl v1), some (.inl v2)]) (st' := [.inl 1, .inl v1, .inr (.inl v0)]) rfl ?_
      refine kX8_boughtBy F hk (z_row hX8_bidder_0 42 rfl) wd_1357 (by decide) (Nat.le_of_ble_eq_true rfl) (fun x7 => ?_)
      refine z_run hk hX8_bidder_0 43 3 (pc' := 113) (lv' := [some (.inr (.inl v0)), some (.inl v1), some (.inl v2)]) (st' := [.inl 2, .inl v1, .inr (.inl v0), .inl x7]) rfl ?_
      refine kX8_boughtBy F hk (z_row hX8_bidder_0 46 rfl) wd_1357 (by decide) (Nat.le_of_ble_eq_true rfl) (fun x8 => ?_)
      refine z_run hk hX8_bidder_0 47 1 (pc' := 117) (lv' := [some (.inr (.inl v0)), some (.inl v1), some (.inl v2)]) (st' := [.inl (x7 + x8)]) rfl ?_
      exact z_iret hk he (z_row hX8_bidder_0 48 rfl) rfl
    refine z_tabI hk (z_row hX8_bidder_0 21 rfl) (c := 4) (tgt := 118) (by decide) (by decide) rfl rfl ?_ (fun hn4 => ?_)
    · refine z_run hk hX8_bidder_0 49 3 (pc' := 121) (lv' := [some (.inr (.inl v0)), some (.inl v1), some (.inl v2)]) (st' := [.inl 0, .inl v1, .inr (.inl v0)]) rfl ?_
      refine kX8_boughtBy F hk (z_row hX8_bidder_0 52 rfl) wd_1357 (by decide) (Nat.le_of_ble_eq_true rfl) (fun x9 => ?_)
      exact z_iret hk he (z_row hX8_bidder_0 53 rfl) rfl
    refine z_tabI hk (z_row hX8_bidder_0 21 rfl) (c := 5) (tgt := 125) (by decide) (by decide) rfl rfl ?_ (fun hn5 => ?_)
    · refine z_run hk hX8_bidder_0 54 2 (pc' := 127) (lv' := [some (.inr (.inl v0)), some (.inl v1), some (.inl v2)]) (st' := [.inl v1, .inr (.inl v0)]) rfl ?_
      refine kX8_exposureOf F hk (z_row hX8_bidder_0 56 rfl) wd_1353 (by decide) (Nat.le_of_ble_eq_true rfl) (fun x10 σ11 => ?_)
      exact z_iret hk he (z_row hX8_bidder_0 57 rfl) rfl
    have hi0 := z_ne_toInt hn0 (n := 0) (by decide)
    have hi1 := z_ne_toInt hn1 (n := 1) (by decide)
    have hi2 := z_ne_toInt hn2 (n := 2) (by decide)
    have hi3 := z_ne_toInt hn3 (n := 3) (by decide)
    have hi4 := z_ne_toInt hn4 (n := 4) (by decide)
    have hi5 := z_ne_toInt hn5 (n := 5) (by decide)
    refine z_tabO hk (z_row hX8_bidder_0 21 rfl) (tgt := 131) (by omega) rfl ?_
    refine z_run hk hX8_bidder_0 58 2 (pc' := 133) (lv' := [some (.inr (.inl v0)), some (.inl v1), some (.inl v2)]) (st' := [.inl v1, .inr (.inl v0)]) rfl ?_
    refine kX8_leads F hk (z_row hX8_bidder_1 0 rfl) wd_1442 (by decide) (Nat.le_of_ble_eq_true rfl) (fun x12 σ13 => ?_)
    exact z_iret hk he (z_row hX8_bidder_1 1 rfl) rfl
  · refine z_run hk hX8_bidder_0 18 1 (pc' := 38) (lv' := [some (.inr (.inl v0)), some (.inl v1), some (.inl v2)]) (st' := [.inl 0]) rfl ?_
    exact z_iret hk he (z_row hX8_bidder_0 19 rfl) rfl
theorem mX8_bidder (F : zFx E) (n : Nat) (a0 : Nat) (a1 : Int32) (a2 : Int32) (σ : zW) (o : Int32 × zW) (hf : fX8_bidder n a0 a1 a2 σ = some o) : zM E qX8_bidder cX8_bidder 3 (some .int) 9 [.inr (.inl a0), .inl a1, .inl a2] σ (some (.int o.1)) o.2 := by
  refine zM_of (fin := zfW) F (by decide +kernel) rfl (Nat.le_of_ble_eq_true rfl) (lv0 := [some (.inr (.inl a0)), some (.inl a1), some (.inl a2)]) rfl hf rfl (fun K hk he => ?_)
  have hk : zk E K "LotSalesModel" cX8_bidder 3 9 := hk
  unfold fX8_bidder
  refine z_run hk hX8_bidder_0 0 2 (pc' := 2) (lv' := [some (.inr (.inl a0)), some (.inl a1), some (.inl a2)]) (st' := [.inl a1, .inr (.inl a0)]) rfl ?_
  refine kX8_isBidder F hk (z_row hX8_bidder_0 2 rfl) wd_1263 (by decide) (Nat.le_of_ble_eq_true rfl) (fun x14 => ?_)
  refine z_ne hk (z_row hX8_bidder_0 3 rfl) (tgt := 12) rfl ?_ ?_
  · refine z_run hk hX8_bidder_0 6 3 (pc' := 16) (lv' := [some (.inr (.inl a0)), some (.inl a1), some (.inl a2)]) (st' := [.inl 6, .inl 0, .inl a2, .inr (.inl a0)]) rfl ?_
    refine kX8_isIn F hk (z_row hX8_bidder_0 9 rfl) wd_1181 (by decide) (Nat.le_of_ble_eq_true rfl) (fun x15 => ?_)
    refine z_ne hk (z_row hX8_bidder_0 10 rfl) (tgt := 26) rfl ?_ ?_
    · refine z_run hk hX8_bidder_0 13 1 (pc' := 27) (lv' := [some (.inr (.inl a0)), some (.inl a1), some (.inl a2)]) (st' := [.inl 0, .inr (.inl a0)]) rfl ?_
      exact gsX8_bidder_27 F n hk he a0 a1 a2 a0 0 σ
    · refine z_run hk hX8_bidder_0 11 1 (pc' := 23) (lv' := [some (.inr (.inl a0)), some (.inl a1), some (.inl a2)]) (st' := [.inl 2, .inr (.inl a0)]) rfl ?_
      refine z_goto hk (z_row hX8_bidder_0 12 rfl) (tgt := 27) rfl ?_
      exact gsX8_bidder_27 F n hk he a0 a1 a2 a0 2 σ
  · refine z_run hk hX8_bidder_0 4 1 (pc' := 9) (lv' := [some (.inr (.inl a0)), some (.inl a1), some (.inl a2)]) (st' := [.inl 1, .inr (.inl a0)]) rfl ?_
    refine z_goto hk (z_row hX8_bidder_0 5 rfl) (tgt := 27) rfl ?_
    exact gsX8_bidder_27 F n hk he a0 a1 a2 a0 1 σ
theorem kX8_bidder {n : Nat} {own : String} {cc : ByteArray} {nL h index : Nat} {α : Type} {fin : α → zO} {σ : zW} {pc : Nat} {lv : zLV} {st : List zV} {a0 : Nat} {a1 : Int32} {a2 : Int32} {c : Int32 → zW → Option α} (F : zFx E) (hk : zk E K own cc nL h) (hd : decode cc pc = .ok (.invokevirtual index, 3)) (hl : Cond.methodLink own index qX8_bidder ∈ lw_tbl) (hh : 9 + 1 ≤ h) (hs : zcat st ≤ 8) (k : ∀ v s, zG E K fin (c v s) s (pc + 3) lv (.inl v :: st)) : zG E K fin (zck σ 9 a0 (zb2 (fX8_bidder n a0 a1 a2 σ) c)) σ pc lv (.inl a2 :: .inl a1 :: .inr (.inl a0) :: st) :=
  z_vW (n := 2) (y := qX8_bidder) (As := [.inl a1, .inl a2]) hk hd hl wd_1439 wd_1440 wd_10 wd_1441 ⟨by decide, by decide, by decide +kernel⟩ ⟨hh, by decide⟩ (ci := 8) rfl rfl rfl (fun o ho => mX8_bidder F n a0 a1 a2 σ o ho) hs k
abbrev qX8_soldBy : MethodName := { cls := "LotSalesModel", name := "soldBy", desc := "(II)I" }
def sX8_soldBy_100 (n : Nat) (σ : zW) (r5 : Nat → Int32 → Int32 → Int32 → Int32 → Option (Int32)) (v0 : Nat) (v1 : Int32) (v2 : Int32) (v4 : Int32) (y0 : Int32) (y1 : Int32) : Option (Int32) := r5 v0 v1 v2 (y0 + y1) (v4 + 1)
def sX8_soldBy_53 (n : Nat) (σ : zW) (r5 : Nat → Int32 → Int32 → Int32 → Int32 → Option (Int32)) (v0 : Nat) (v1 : Int32) (v2 : Int32) (v3 : Int32) (v4 : Int32) (y0 : Int32) : Option (Int32) := if y0 = 0 then sX8_soldBy_100 n σ r5 v0 v1 v2 v4 v3 0 else if v2 = 0 then zck σ 9 v0 (zb (fX8_at n v0 v4 7 σ) fun x3 => sX8_soldBy_100 n σ r5 v0 v1 v2 v4 v3 x3) else if v2 = 1 then zck σ 9 v0 (zb (fX8_at n v0 v4 7 σ) fun x1 => zb (fX8_commissionOf n x1 σ) fun x2 => sX8_soldBy_100 n σ r5 v0 v1 v2 v4 v3 x2) else sX8_soldBy_100 n σ r5 v0 v1 v2 v4 v3 1
def sX8_soldBy_52 (n : Nat) (σ : zW) (r5 : Nat → Int32 → Int32 → Int32 → Int32 → Option (Int32)) (v0 : Nat) (v1 : Int32) (v2 : Int32) (v3 : Int32) (v4 : Int32) : Option (Int32) := sX8_soldBy_53 n σ r5 v0 v1 v2 v3 v4 0
def sX8_soldBy_45 (n : Nat) (σ : zW) (r5 : Nat → Int32 → Int32 → Int32 → Int32 → Option (Int32)) (v0 : Nat) (v1 : Int32) (v2 : Int32) (v3 : Int32) (v4 : Int32) (y0 : Int32) (y1 : Int32) : Option (Int32) := if y0 = y1 then sX8_soldBy_53 n σ r5 v0 v1 v2 v3 v4 1 else sX8_soldBy_52 n σ r5 v0 v1 v2 v3 v4
def sX8_soldBy_5 (n : Nat) (σ : zW) : Nat → Nat → Int32 → Int32 → Int32 → Int32 → Option (Int32)
  | 0, _, _, _, _, _ => none
  | k + 1, v0, v1, v2, v3, v4 => zgR σ 9 v0 1 fun x4 => zaI σ x4 23 fun x5 => if v4 < x5 then zck σ 9 v0 (zb (fX8_at n v0 v4 0 σ) fun x6 => if x6 = v1 then zck σ 9 v0 (zb (fX8_at n v0 v4 3 σ) fun x7 => if v2 = 5 then sX8_soldBy_45 n σ (sX8_soldBy_5 n σ k) v0 v1 v2 v3 v4 x7 3 else sX8_soldBy_45 n σ (sX8_soldBy_5 n σ k) v0 v1 v2 v3 v4 x7 2) else sX8_soldBy_52 n σ (sX8_soldBy_5 n σ k) v0 v1 v2 v3 v4) else some v3
def fX8_soldBy (n : Nat) (a0 : Nat) (a1 : Int32) (a2 : Int32) (σ : zW) : Option (Int32) := sX8_soldBy_5 n σ n a0 a1 a2 0 0
theorem gsX8_soldBy_100 (F : zFx E) (n : Nat) (σ : zW) (hk : zk E K "LotSalesModel" cX8_soldBy 6 2) (he : zend E K (some .int) "soldBy") (r5 : Nat → Int32 → Int32 → Int32 → Int32 → Option (Int32)) (hr5 : ∀ (v0 : Nat) (v1 : Int32) (v2 : Int32) (v3 : Int32) (v4 : Int32), zG E K (zfR σ) (r5 v0 v1 v2 v3 v4) σ 5 [some (.inr (.inl v0)), some (.inl v1), some (.inl v2), some (.inl v3), some (.inl v4), none] []) (v0 : Nat) (v1 : Int32) (v2 : Int32) (v4 : Int32) (y0 : Int32) (y1 : Int32) : zG E K (zfR σ) (sX8_soldBy_100 n σ r5 v0 v1 v2 v4 y0 y1) σ 100 [some (.inr (.inl v0)), some (.inl v1), some (.inl v2), none, some (.inl v4), none] [.inl y1, .inl y0] := by
  unfold sX8_soldBy_100
  refine z_run hk hX8_soldBy_0 53 3 (pc' := 105) (lv' := [some (.inr (.inl v0)), some (.inl v1), some (.inl v2), some (.inl (y0 + y1)), some (.inl (v4 + 1)), none]) (st' := []) rfl ?_
  refine z_goto hk (z_row hX8_soldBy_0 56 rfl) (tgt := 5) rfl ?_
  exact hr5 v0 v1 v2 (y0 + y1) (v4 + 1)
theorem gsX8_soldBy_53 (F : zFx E) (n : Nat) (σ : zW) (hk : zk E K "LotSalesModel" cX8_soldBy 6 2) (he : zend E K (some .int) "soldBy") (r5 : Nat → Int32 → Int32 → Int32 → Int32 → Option (Int32)) (hr5 : ∀ (v0 : Nat) (v1 : Int32) (v2 : Int32) (v3 : Int32) (v4 : Int32), zG E K (zfR σ) (r5 v0 v1 v2 v3 v4) σ 5 [some (.inr (.inl v0)), some (.inl v1), some (.inl v2), some (.inl v3), some (.inl v4), none] []) (v0 : Nat) (v1 : Int32) (v2 : Int32) (v3 : Int32) (v4 : Int32) (y0 : Int32) : zG E K (zfR σ) (sX8_soldBy_53 n σ r5 v0 v1 v2 v3 v4 y0) σ 53 [some (.inr (.inl v0)), some (.inl v1), some (.inl v2), some (.inl v3), some (.inl v4), none] [.inl y0] := by
  unfold sX8_soldBy_53
  refine z_run hk hX8_soldBy_0 30 3 (pc' := 58) (lv' := [some (.inr (.inl v0)), some (.inl v1), some (.inl v2), some (.inl v3), some (.inl v4), some (.inl y0)]) (st' := [.inl y0, .inl v3]) rfl ?_
  refine z_ne hk (z_row hX8_soldBy_0 33 rfl) (tgt := 65) rfl ?_ ?_
  · refine z_run hk hX8_soldBy_0 36 1 (pc' := 66) (lv' := [some (.inr (.inl v0)), some (.inl v1), some (.inl v2), some (.inl v3), some (.inl v4), some (.inl y0)]) (st' := [.inl v2, .inl v3]) rfl ?_
    refine z_ne hk (z_row hX8_soldBy_0 37 rfl) (tgt := 80) rfl ?_ ?_
    · refine z_run hk hX8_soldBy_0 43 2 (pc' := 82) (lv' := [some (.inr (.inl v0)), some (.inl v1), some (.inl v2), some (.inl v3), some (.inl v4), some (.inl y0)]) (st' := [.inl 1, .inl v2, .inl v3]) rfl ?_
      refine z_cne hk (z_row hX8_soldBy_0 45 rfl) (tgt := 99) rfl ?_ ?_
      · refine z_run hk hX8_soldBy_0 52 1 (pc' := 100) (lv' := [some (.inr (.inl v0)), some (.inl v1), some (.inl v2), some (.inl v3), some (.inl v4), some (.inl y0)]) (st' := [.inl 1, .inl v3]) rfl ?_
        refine z_mask [true, true, true, false, true, false] rfl ?_
        exact gsX8_soldBy_100 F n σ hk he r5 hr5 v0 v1 v2 v4 v3 1
      · refine z_run hk hX8_soldBy_0 46 3 (pc' := 90) (lv' := [some (.inr (.inl v0)), some (.inl v1), some (.inl v2), some (.inl v3), some (.inl v4), some (.inl y0)]) (st' := [.inl 7, .inl v4, .inr (.inl v0), .inl v3]) rfl ?_
        refine kX8_at F hk (z_row hX8_soldBy_0 49 rfl) wd_1213 (by decide) (Nat.le_of_ble_eq_true rfl) (fun x1 => ?_)
        refine kX8_commissionOf F hk (z_row hX8_soldBy_0 50 rfl) wd_1458 (by decide) (Nat.le_of_ble_eq_true rfl) (fun x2 => ?_)
        refine z_goto hk (z_row hX8_soldBy_0 51 rfl) (tgt := 100) rfl ?_
        refine z_mask [true, true, true, false, true, false] rfl ?_
        exact gsX8_soldBy_100 F n σ hk he r5 hr5 v0 v1 v2 v4 v3 x2
    · refine z_run hk hX8_soldBy_0 38 3 (pc' := 74) (lv' := [some (.inr (.inl v0)), some (.inl v1), some (.inl v2), some (.inl v3), some (.inl v4), some (.inl y0)]) (st' := [.inl 7, .inl v4, .inr (.inl v0), .inl v3]) rfl ?_
      refine kX8_at F hk (z_row hX8_soldBy_0 41 rfl) wd_1213 (by decide) (Nat.le_of_ble_eq_true rfl) (fun x3 => ?_)
      refine z_goto hk (z_row hX8_soldBy_0 42 rfl) (tgt := 100) rfl ?_
      refine z_mask [true, true, true, false, true, false] rfl ?_
      exact gsX8_soldBy_100 F n σ hk he r5 hr5 v0 v1 v2 v4 v3 x3
  · refine z_run hk hX8_soldBy_0 34 1 (pc' := 62) (lv' := [some (.inr (.inl v0)), some (.inl v1), some (.inl v2), some (.inl v3), some (.inl v4), some (.inl y0)]) (st' := [.inl 0, .inl v3]) rfl ?_
    refine z_goto hk (z_row hX8_soldBy_0 35 rfl) (tgt := 100) rfl ?_
    refine z_mask [true, true, true, false, true, false] rfl ?_
    exact gsX8_soldBy_100 F n σ hk he r5 hr5 v0 v1 v2 v4 v3 0
theorem gsX8_soldBy_52 (F : zFx E) (n : Nat) (σ : zW) (hk : zk E K "LotSalesModel" cX8_soldBy 6 2) (he : zend E K (some .int) "soldBy") (r5 : Nat → Int32 → Int32 → Int32 → Int32 → Option (Int32)) (hr5 : ∀ (v0 : Nat) (v1 : Int32) (v2 : Int32) (v3 : Int32) (v4 : Int32), zG E K (zfR σ) (r5 v0 v1 v2 v3 v4) σ 5 [some (.inr (.inl v0)), some (.inl v1), some (.inl v2), some (.inl v3), some (.inl v4), none] []) (v0 : Nat) (v1 : Int32) (v2 : Int32) (v3 : Int32) (v4 : Int32) : zG E K (zfR σ) (sX8_soldBy_52 n σ r5 v0 v1 v2 v3 v4) σ 52 [some (.inr (.inl v0)), some (.inl v1), some (.inl v2), some (.inl v3), some (.inl v4), none] [] := by
  unfold sX8_soldBy_52
  refine z_run hk hX8_soldBy_0 29 1 (pc' := 53) (lv' := [some (.inr (.inl v0)), some (.inl v1), some (.inl v2), some (.inl v3), some (.inl v4), none]) (st' := [.inl 0]) rfl ?_
  exact gsX8_soldBy_53 F n σ hk he r5 hr5 v0 v1 v2 v3 v4 0
theorem gsX8_soldBy_45 (F : zFx E) (n : Nat) (σ : zW) (hk : zk E K "LotSalesModel" cX8_soldBy 6 2) (he : zend E K (some .int) "soldBy") (r5 : Nat → Int32 → Int32 → Int32 → Int32 → Option (Int32)) (hr5 : ∀ (v0 : Nat) (v1 : Int32) (v2 : Int32) (v3 : Int32) (v4 : Int32), zG E K (zfR σ) (r5 v0 v1 v2 v3 v4) σ 5 [some (.inr (.inl v0)), some (.inl v1), some (.inl v2), some (.inl v3), some (.inl v4), none] []) (v0 : Nat) (v1 : Int32) (v2 : Int32) (v3 : Int32) (v4 : Int32) (y0 : Int32) (y1 : Int32) : zG E K (zfR σ) (sX8_soldBy_45 n σ r5 v0 v1 v2 v3 v4 y0 y1) σ 45 [some (.inr (.inl v0)), some (.inl v1), some (.inl v2), some (.inl v3), some (.inl v4), none] [.inl y1, .inl y0] := by
  unfold sX8_soldBy_45
  refine z_cne hk (z_row hX8_soldBy_0 26 rfl) (tgt := 52) rfl ?_ ?_
  · exact gsX8_soldBy_52 F n σ hk he r5 hr5 v0 v1 v2 v3 v4
  · refine z_run hk hX8_soldBy_0 27 1 (pc' := 49) (lv' := [some (.inr (.inl v0)), some (.inl v1), some (.inl v2), some (.inl v3), some (.inl v4), none]) (st' := [.inl 1]) rfl ?_
    refine z_goto hk (z_row hX8_soldBy_0 28 rfl) (tgt := 53) rfl ?_
    exact gsX8_soldBy_53 F n σ hk he r5 hr5 v0 v1 v2 v3 v4 1
theorem gsX8_soldBy_5 (F : zFx E) (n : Nat) (σ : zW) (hk : zk E K "LotSalesModel" cX8_soldBy 6 2) (he : zend E K (some .int) "soldBy") : ∀ (k : Nat) (v0 : Nat) (v1 : Int32) (v2 : Int32) (v3 : Int32) (v4 : Int32), zG E K (zfR σ) (sX8_soldBy_5 n σ k v0 v1 v2 v3 v4) σ 5 [some (.inr (.inl v0)), some (.inl v1), some (.inl v2), some (.inl v3), some (.inl v4), none] [] := by
  intro k
  induction k with
  | zero =>
    intro v0 v1 v2 v3 v4
    intro hX
    exact z_none hX
  | succ k ih =>
    intro v0 v1 v2 v3 v4
    rw [sX8_soldBy_5]
    refine z_run hk hX8_soldBy_0 4 2 (pc' := 8) (lv' := [some (.inr (.inl v0)), some (.inl v1), some (.inl v2), some (.inl v3), some (.inl v4), none]) (st' := [.inr (.inl v0), .inl v4]) rfl ?_
    refine z_gR hk 1 (z_row hX8_soldBy_0 6 rfl) (ci := 8) rfl rfl wd_1123 (fun x4 => ?_)
    refine z_run hk hX8_soldBy_0 7 1 (pc' := 13) (lv' := [some (.inr (.inl v0)), some (.inl v1), some (.inl v2), some (.inl v3), some (.inl v4), none]) (st' := [.inl 23, .inr (.inl x4), .inl v4]) rfl ?_
    refine z_aI hk (z_row hX8_soldBy_0 8 rfl) (fun x5 => ?_)
    refine z_cge hk (z_row hX8_soldBy_0 9 rfl) (tgt := 108) rfl ?_ ?_
    · refine z_run hk hX8_soldBy_0 57 1 (pc' := 109) (lv' := [some (.inr (.inl v0)), some (.inl v1), some (.inl v2), some (.inl v3), some (.inl v4), none]) (st' := [.inl v3]) rfl ?_
      exact z_iret hk he (z_row hX8_soldBy_0 58 rfl) rfl
    · refine z_run hk hX8_soldBy_0 10 3 (pc' := 21) (lv' := [some (.inr (.inl v0)), some (.inl v1), some (.inl v2), some (.inl v3), some (.inl v4), none]) (st' := [.inl 0, .inl v4, .inr (.inl v0)]) rfl ?_
      refine kX8_at F hk (z_row hX8_soldBy_0 13 rfl) wd_1213 (by decide) (Nat.le_of_ble_eq_true rfl) (fun x6 => ?_)
      refine z_run hk hX8_soldBy_0 14 1 (pc' := 25) (lv' := [some (.inr (.inl v0)), some (.inl v1), some (.inl v2), some (.inl v3), some (.inl v4), none]) (st' := [.inl v1, .inl x6]) rfl ?_
      refine z_cne hk (z_row hX8_soldBy_0 15 rfl) (tgt := 52) rfl ?_ ?_
      · exact gsX8_soldBy_52 F n σ hk he (sX8_soldBy_5 n σ k) ih v0 v1 v2 v3 v4
      · refine z_run hk hX8_soldBy_0 16 3 (pc' := 32) (lv' := [some (.inr (.inl v0)), some (.inl v1), some (.inl v2), some (.inl v3), some (.inl v4), none]) (st' := [.inl 3, .inl v4, .inr (.inl v0)]) rfl ?_
        refine kX8_at F hk (z_row hX8_soldBy_0 19 rfl) wd_1213 (by decide) (Nat.le_of_ble_eq_true rfl) (fun x7 => ?_)
        refine z_run hk hX8_soldBy_0 20 2 (pc' := 37) (lv' := [some (.inr (.inl v0)), some (.inl v1), some (.inl v2), some (.inl v3), some (.inl v4), none]) (st' := [.inl 5, .inl v2, .inl x7]) rfl ?_
        refine z_cne hk (z_row hX8_soldBy_0 22 rfl) (tgt := 44) rfl ?_ ?_
        · refine z_run hk hX8_soldBy_0 25 1 (pc' := 45) (lv' := [some (.inr (.inl v0)), some (.inl v1), some (.inl v2), some (.inl v3), some (.inl v4), none]) (st' := [.inl 2, .inl x7]) rfl ?_
          exact gsX8_soldBy_45 F n σ hk he (sX8_soldBy_5 n σ k) ih v0 v1 v2 v3 v4 x7 2
        · refine z_run hk hX8_soldBy_0 23 1 (pc' := 41) (lv' := [some (.inr (.inl v0)), some (.inl v1), some (.inl v2), some (.inl v3), some (.inl v4), none]) (st' := [.inl 3, .inl x7]) rfl ?_
          refine z_goto hk (z_row hX8_soldBy_0 24 rfl) (tgt := 45) rfl ?_
          exact gsX8_soldBy_45 F n σ hk he (sX8_soldBy_5 n σ k) ih v0 v1 v2 v3 v4 x7 3
theorem mX8_soldBy (F : zFx E) (n : Nat) (a0 : Nat) (a1 : Int32) (a2 : Int32) (σ : zW) (o : Int32) (hf : fX8_soldBy n a0 a1 a2 σ = some o) : zM E qX8_soldBy cX8_soldBy 6 (some .int) 2 [.inr (.inl a0), .inl a1, .inl a2] σ (some (.int o)) σ := by
  refine zM_of (fin := (zfR σ)) F (by decide +kernel) rfl (Nat.le_of_ble_eq_true rfl) (lv0 := [some (.inr (.inl a0)), some (.inl a1), some (.inl a2), none, none, none]) rfl hf rfl (fun K hk he => ?_)
  have hk : zk E K "LotSalesModel" cX8_soldBy 6 2 := hk
  unfold fX8_soldBy
  refine z_run hk hX8_soldBy_0 0 4 (pc' := 5) (lv' := [some (.inr (.inl a0)), some (.inl a1), some (.inl a2), some (.inl 0), some (.inl 0), none]) (st' := []) rfl ?_
  exact gsX8_soldBy_5 F n σ hk he n a0 a1 a2 0 0
theorem kX8_soldBy {n : Nat} {own : String} {cc : ByteArray} {nL h index : Nat} {α : Type} {fin : α → zO} {σ : zW} {pc : Nat} {lv : zLV} {st : List zV} {a0 : Nat} {a1 : Int32} {a2 : Int32} {c : Int32 → Option α} (F : zFx E) (hk : zk E K own cc nL h) (hd : decode cc pc = .ok (.invokevirtual index, 3)) (hl : Cond.methodLink own index qX8_soldBy ∈ lw_tbl) (hh : 2 + 1 ≤ h) (hs : zcat st ≤ 8) (k : ∀ v, zG E K fin (c v) σ (pc + 3) lv (.inl v :: st)) : zG E K fin (zck σ 9 a0 (zb (fX8_soldBy n a0 a1 a2 σ) c)) σ pc lv (.inl a2 :: .inl a1 :: .inr (.inl a0) :: st) :=
  z_vR (n := 2) (y := qX8_soldBy) (As := [.inl a1, .inl a2]) hk hd hl wd_1456 ws_50 wd_10 wd_1457 ⟨by decide, by decide, by decide +kernel⟩ ⟨hh, by decide⟩ (ci := 8) rfl rfl rfl (fun o ho => mX8_soldBy F n a0 a1 a2 σ o ho) hs k
abbrev qX8_gets : MethodName := { cls := "LotSalesModel", name := "gets", desc := "(I)I" }
def fX8_gets (n : Nat) (a0 : Nat) (a1 : Int32) (σ : zW) : Option (Int32) := zck σ 9 a0 (zb (fX8_soldBy n a0 a1 0 σ) fun x1 => zck σ 9 a0 (zb (fX8_soldBy n a0 a1 1 σ) fun x2 => zgR σ 9 a0 1 fun x3 => zaI σ x3 (985 + a1) fun x4 => some ((x1 - x2) - x4)))
theorem mX8_gets (F : zFx E) (n : Nat) (a0 : Nat) (a1 : Int32) (σ : zW) (o : Int32) (hf : fX8_gets n a0 a1 σ = some o) : zM E qX8_gets cX8_gets 2 (some .int) 3 [.inr (.inl a0), .inl a1] σ (some (.int o)) σ := by
  refine zM_of (fin := (zfR σ)) F (by decide +kernel) rfl (Nat.le_of_ble_eq_true rfl) (lv0 := [some (.inr (.inl a0)), some (.inl a1)]) rfl hf rfl (fun K hk he => ?_)
  have hk : zk E K "LotSalesModel" cX8_gets 2 3 := hk
  unfold fX8_gets
  refine z_run hk hX8_gets_0 0 3 (pc' := 3) (lv' := [some (.inr (.inl a0)), some (.inl a1)]) (st' := [.inl 0, .inl a1, .inr (.inl a0)]) rfl ?_
  refine kX8_soldBy F hk (z_row hX8_gets_0 3 rfl) wd_1454 (by decide) (Nat.le_of_ble_eq_true rfl) (fun x1 => ?_)
  refine z_run hk hX8_gets_0 4 3 (pc' := 9) (lv' := [some (.inr (.inl a0)), some (.inl a1)]) (st' := [.inl 1, .inl a1, .inr (.inl a0), .inl x1]) rfl ?_
  refine kX8_soldBy F hk (z_row hX8_gets_0 7 rfl) wd_1454 (by decide) (Nat.le_of_ble_eq_true rfl) (fun x2 => ?_)
  refine z_run hk hX8_gets_0 8 2 (pc' := 14) (lv' := [some (.inr (.inl a0)), some (.inl a1)]) (st' := [.inr (.inl a0), .inl (x1 - x2)]) rfl ?_
  refine z_gR hk 1 (z_row hX8_gets_0 10 rfl) (ci := 8) rfl rfl wd_1123 (fun x3 => ?_)
  refine z_run hk hX8_gets_0 11 3 (pc' := 22) (lv' := [some (.inr (.inl a0)), some (.inl a1)]) (st' := [.inl (985 + a1), .inr (.inl x3), .inl (x1 - x2)]) rfl ?_
  refine z_aI hk (z_row hX8_gets_0 14 rfl) (fun x4 => ?_)
  refine z_run hk hX8_gets_0 15 1 (pc' := 24) (lv' := [some (.inr (.inl a0)), some (.inl a1)]) (st' := [.inl ((x1 - x2) - x4)]) rfl ?_
  exact z_iret hk he (z_row hX8_gets_0 16 rfl) rfl
theorem kX8_gets {n : Nat} {own : String} {cc : ByteArray} {nL h index : Nat} {α : Type} {fin : α → zO} {σ : zW} {pc : Nat} {lv : zLV} {st : List zV} {a0 : Nat} {a1 : Int32} {c : Int32 → Option α} (F : zFx E) (hk : zk E K own cc nL h) (hd : decode cc pc = .ok (.invokevirtual index, 3)) (hl : Cond.methodLink own index qX8_gets ∈ lw_tbl) (hh : 3 + 1 ≤ h) (hs : zcat st ≤ 8) (k : ∀ v, zG E K fin (c v) σ (pc + 3) lv (.inl v :: st)) : zG E K fin (zck σ 9 a0 (zb (fX8_gets n a0 a1 σ) c)) σ pc lv (.inl a1 :: .inr (.inl a0) :: st) :=
  z_vR (n := 1) (y := qX8_gets) (As := [.inl a1]) hk hd hl wd_1452 ws_49 wd_10 wd_1453 ⟨by decide, by decide, by decide +kernel⟩ ⟨hh, by decide⟩ (ci := 8) rfl rfl rfl (fun o ho => mX8_gets F n a0 a1 σ o ho) hs k
abbrev qX8_seller : MethodName := { cls := "LotSalesModel", name := "seller", desc := "(II)I" }
def sX8_seller_79 (n : Nat) (y0 : Int32) (σ : zW) : Option (Int32 × zW) := some (y0, σ)
def sX8_seller_28 (n : Nat) (v0 : Nat) (v1 : Int32) (v2 : Int32) (y0 : Nat) (y1 : Int32) (σ : zW) : Option (Int32 × zW) := zpI σ 9 y0 0 y1 fun σ1 => zgI σ1 9 v0 0 fun x2 => if x2 = 0 then if v2 = 2 then zgR σ1 9 v0 1 fun x5 => zaI σ1 x5 (985 + v1) fun x6 => sX8_seller_79 n x6 σ1 else if v2 = 3 then zck σ1 9 v0 (zb (fX8_gets n v0 v1 σ1) fun x4 => sX8_seller_79 n x4 σ1) else zck σ1 9 v0 (zb (fX8_soldBy n v0 v1 v2 σ1) fun x3 => sX8_seller_79 n x3 σ1) else sX8_seller_79 n 0 σ1
def fX8_seller (n : Nat) (a0 : Nat) (a1 : Int32) (a2 : Int32) (σ : zW) : Option (Int32 × zW) := zb (fX8_isIn n a1 0 5 σ) fun x7 => if x7 = 0 then sX8_seller_28 n a0 a1 a2 a0 1 σ else zb (fX8_isIn n a2 0 5 σ) fun x8 => if x8 = 0 then sX8_seller_28 n a0 a1 a2 a0 2 σ else sX8_seller_28 n a0 a1 a2 a0 0 σ
theorem gsX8_seller_79 (F : zFx E) (n : Nat) (hk : zk E K "LotSalesModel" cX8_seller 3 4) (he : zend E K (some .int) "seller") (y0 : Int32) (σ : zW) : zG E K zfW (sX8_seller_79 n y0 σ) σ 79 [none, none, none] [.inl y0] := by
  unfold sX8_seller_79
  exact z_iret hk he (z_row hX8_seller_0 43 rfl) rfl
theorem gsX8_seller_28 (F : zFx E) (n : Nat) (hk : zk E K "LotSalesModel" cX8_seller 3 4) (he : zend E K (some .int) "seller") (v0 : Nat) (v1 : Int32) (v2 : Int32) (y0 : Nat) (y1 : Int32) (σ : zW) : zG E K zfW (sX8_seller_28 n v0 v1 v2 y0 y1 σ) σ 28 [some (.inr (.inl v0)), some (.inl v1), some (.inl v2)] [.inl y1, .inr (.inl y0)] := by
  unfold sX8_seller_28
  refine z_pI hk 0 (z_row hX8_seller_0 16 rfl) (ci := 8) rfl rfl wd_1122 rfl rfl rfl (fun σ1 => ?_)
  refine z_run hk hX8_seller_0 17 1 (pc' := 32) (lv' := [some (.inr (.inl v0)), some (.inl v1), some (.inl v2)]) (st' := [.inr (.inl v0)]) rfl ?_
  refine z_gI hk 0 (z_row hX8_seller_0 18 rfl) (ci := 8) rfl rfl wd_1122 (fun x2 => ?_)
  refine z_eq hk (z_row hX8_seller_0 19 rfl) (tgt := 42) rfl ?_ ?_
  · refine z_run hk hX8_seller_0 22 2 (pc' := 44) (lv' := [some (.inr (.inl v0)), some (.inl v1), some (.inl v2)]) (st' := [.inl 2, .inl v2]) rfl ?_
    refine z_cne hk (z_row hX8_seller_0 24 rfl) (tgt := 60) rfl ?_ ?_
    · refine z_run hk hX8_seller_0 32 2 (pc' := 62) (lv' := [some (.inr (.inl v0)), some (.inl v1), some (.inl v2)]) (st' := [.inl 3, .inl v2]) rfl ?_
      refine z_cne hk (z_row hX8_seller_0 34 rfl) (tgt := 73) rfl ?_ ?_
      · refine z_run hk hX8_seller_0 39 3 (pc' := 76) (lv' := [some (.inr (.inl v0)), some (.inl v1), some (.inl v2)]) (st' := [.inl v2, .inl v1, .inr (.inl v0)]) rfl ?_
        refine kX8_soldBy F hk (z_row hX8_seller_0 42 rfl) wd_1454 (by decide) (Nat.le_of_ble_eq_true rfl) (fun x3 => ?_)
        refine z_mask [false, false, false] rfl ?_
        exact gsX8_seller_79 F n hk he x3 σ1
      · refine z_run hk hX8_seller_0 35 2 (pc' := 67) (lv' := [some (.inr (.inl v0)), some (.inl v1), some (.inl v2)]) (st' := [.inl v1, .inr (.inl v0)]) rfl ?_
        refine kX8_gets F hk (z_row hX8_seller_0 37 rfl) wd_1450 (by decide) (Nat.le_of_ble_eq_true rfl) (fun x4 => ?_)
        refine z_goto hk (z_row hX8_seller_0 38 rfl) (tgt := 79) rfl ?_
        refine z_mask [false, false, false] rfl ?_
        exact gsX8_seller_79 F n hk he x4 σ1
    · refine z_run hk hX8_seller_0 25 1 (pc' := 48) (lv' := [some (.inr (.inl v0)), some (.inl v1), some (.inl v2)]) (st' := [.inr (.inl v0)]) rfl ?_
      refine z_gR hk 1 (z_row hX8_seller_0 26 rfl) (ci := 8) rfl rfl wd_1123 (fun x5 => ?_)
      refine z_run hk hX8_seller_0 27 3 (pc' := 56) (lv' := [some (.inr (.inl v0)), some (.inl v1), some (.inl v2)]) (st' := [.inl (985 + v1), .inr (.inl x5)]) rfl ?_
      refine z_aI hk (z_row hX8_seller_0 30 rfl) (fun x6 => ?_)
      refine z_goto hk (z_row hX8_seller_0 31 rfl) (tgt := 79) rfl ?_
      refine z_mask [false, false, false] rfl ?_
      exact gsX8_seller_79 F n hk he x6 σ1
  · refine z_run hk hX8_seller_0 20 1 (pc' := 39) (lv' := [some (.inr (.inl v0)), some (.inl v1), some (.inl v2)]) (st' := [.inl 0]) rfl ?_
    refine z_goto hk (z_row hX8_seller_0 21 rfl) (tgt := 79) rfl ?_
    refine z_mask [false, false, false] rfl ?_
    exact gsX8_seller_79 F n hk he 0 σ1
theorem mX8_seller (F : zFx E) (n : Nat) (a0 : Nat) (a1 : Int32) (a2 : Int32) (σ : zW) (o : Int32 × zW) (hf : fX8_seller n a0 a1 a2 σ = some o) : zM E qX8_seller cX8_seller 3 (some .int) 4 [.inr (.inl a0), .inl a1, .inl a2] σ (some (.int o.1)) o.2 := by
  refine zM_of (fin := zfW) F (by decide +kernel) rfl (Nat.le_of_ble_eq_true rfl) (lv0 := [some (.inr (.inl a0)), some (.inl a1), some (.inl a2)]) rfl hf rfl (fun K hk he => ?_)
  have hk : zk E K "LotSalesModel" cX8_seller 3 4 := hk
  unfold fX8_seller
  refine z_run hk hX8_seller_0 0 4 (pc' := 4) (lv' := [some (.inr (.inl a0)), some (.inl a1), some (.inl a2)]) (st' := [.inl 5, .inl 0, .inl a1, .inr (.inl a0)]) rfl ?_
  refine kX8_isIn F hk (z_row hX8_seller_0 4 rfl) wd_1181 (by decide) (Nat.le_of_ble_eq_true rfl) (fun x7 => ?_)
  refine z_ne hk (z_row hX8_seller_0 5 rfl) (tgt := 14) rfl ?_ ?_
  · refine z_run hk hX8_seller_0 8 3 (pc' := 17) (lv' := [some (.inr (.inl a0)), some (.inl a1), some (.inl a2)]) (st' := [.inl 5, .inl 0, .inl a2, .inr (.inl a0)]) rfl ?_
    refine kX8_isIn F hk (z_row hX8_seller_0 11 rfl) wd_1181 (by decide) (Nat.le_of_ble_eq_true rfl) (fun x8 => ?_)
    refine z_ne hk (z_row hX8_seller_0 12 rfl) (tgt := 27) rfl ?_ ?_
    · refine z_run hk hX8_seller_0 15 1 (pc' := 28) (lv' := [some (.inr (.inl a0)), some (.inl a1), some (.inl a2)]) (st' := [.inl 0, .inr (.inl a0)]) rfl ?_
      exact gsX8_seller_28 F n hk he a0 a1 a2 a0 0 σ
    · refine z_run hk hX8_seller_0 13 1 (pc' := 24) (lv' := [some (.inr (.inl a0)), some (.inl a1), some (.inl a2)]) (st' := [.inl 2, .inr (.inl a0)]) rfl ?_
      refine z_goto hk (z_row hX8_seller_0 14 rfl) (tgt := 28) rfl ?_
      exact gsX8_seller_28 F n hk he a0 a1 a2 a0 2 σ
  · refine z_run hk hX8_seller_0 6 1 (pc' := 11) (lv' := [some (.inr (.inl a0)), some (.inl a1), some (.inl a2)]) (st' := [.inl 1, .inr (.inl a0)]) rfl ?_
    refine z_goto hk (z_row hX8_seller_0 7 rfl) (tgt := 28) rfl ?_
    exact gsX8_seller_28 F n hk he a0 a1 a2 a0 1 σ
theorem kX8_seller {n : Nat} {own : String} {cc : ByteArray} {nL h index : Nat} {α : Type} {fin : α → zO} {σ : zW} {pc : Nat} {lv : zLV} {st : List zV} {a0 : Nat} {a1 : Int32} {a2 : Int32} {c : Int32 → zW → Option α} (F : zFx E) (hk : zk E K own cc nL h) (hd : decode cc pc = .ok (.invokevirtual index, 3)) (hl : Cond.methodLink own index qX8_seller ∈ lw_tbl) (hh : 4 + 1 ≤ h) (hs : zcat st ≤ 8) (k : ∀ v s, zG E K fin (c v s) s (pc + 3) lv (.inl v :: st)) : zG E K fin (zck σ 9 a0 (zb2 (fX8_seller n a0 a1 a2 σ) c)) σ pc lv (.inl a2 :: .inl a1 :: .inr (.inl a0) :: st) :=
  z_vW (n := 2) (y := qX8_seller) (As := [.inl a1, .inl a2]) hk hd hl wd_1447 wd_1448 wd_10 wd_1449 ⟨by decide, by decide, by decide +kernel⟩ ⟨hh, by decide⟩ (ci := 8) rfl rfl rfl (fun o ho => mX8_seller F n a0 a1 a2 σ o ho) hs k
abbrev qX8_house : MethodName := { cls := "LotSalesModel", name := "house", desc := "(I)I" }
def sX8_house_151 (n : Nat) (y0 : Int32) (σ : zW) : Option (Int32 × zW) := some (y0, σ)
def sX8_house_69 (n : Nat) : Nat → Nat → Int32 → Int32 → Int32 → Int32 → Int32 → Int32 → zW → Option (Int32 × zW)
  | 0, _, _, _, _, _, _, _, _ => none
  | k + 1, v0, v1, v2, v3, v4, v5, v6, σ => if v6 < 6 then zck σ 9 v0 (zb (fX8_soldBy n v0 v6 1 σ) fun x1 => zgR σ 9 v0 1 fun x2 => zaI σ x2 (985 + v6) fun x3 => sX8_house_69 n k v0 v1 v2 v3 (v4 + x1) (v5 + x3) (v6 + 1) σ) else if v1 = 0 then sX8_house_151 n ((v3 + v4) + v5) σ else if v1 = 1 then sX8_house_151 n v2 σ else if v1 = 2 then sX8_house_151 n (v2 + v3) σ else sX8_house_151 n ((v2 - v4) - v5) σ
def sX8_house_27 (n : Nat) : Nat → Nat → Int32 → Int32 → Int32 → Int32 → zW → Option (Int32 × zW)
  | 0, _, _, _, _, _, _ => none
  | k + 1, v0, v1, v2, v3, v4, σ => if v4 < 10 then zck σ 9 v0 (zb (fX8_boughtBy n v0 v4 1 σ) fun x4 => zck σ 9 v0 (zb (fX8_boughtBy n v0 v4 2 σ) fun x5 => sX8_house_27 n k v0 v1 (v2 + x4) (v3 + x5) (v4 + 1) σ)) else sX8_house_69 n n v0 v1 v2 v3 0 0 0 σ
def fX8_house (n : Nat) (a0 : Nat) (a1 : Int32) (σ : zW) : Option (Int32 × zW) := zpI σ 9 a0 0 0 fun σ6 => zb (fX8_isIn n a1 0 3 σ6) fun x7 => if x7 = 0 then zck σ6 9 a0 (zb2 (fX8_fail n a0 1 σ6) fun x8 σ9 => some (x8, σ9)) else sX8_house_27 n n a0 a1 0 0 0 σ6
theorem gsX8_house_151 (F : zFx E) (n : Nat) (hk : zk E K "LotSalesModel" cX8_house 7 3) (he : zend E K (some .int) "house") (y0 : Int32) (σ : zW) : zG E K zfW (sX8_house_151 n y0 σ) σ 151 [none, none, none, none, none, none, none] [.inl y0] := by
  unfold sX8_house_151
  exact z_iret hk he (z_row hX8_house_1 29 rfl) rfl
theorem gsX8_house_69 (F : zFx E) (n : Nat) (hk : zk E K "LotSalesModel" cX8_house 7 3) (he : zend E K (some .int) "house") : ∀ (k : Nat) (v0 : Nat) (v1 : Int32) (v2 : Int32) (v3 : Int32) (v4 : Int32) (v5 : Int32) (v6 : Int32) (σ : zW), zG E K zfW (sX8_house_69 n k v0 v1 v2 v3 v4 v5 v6 σ) σ 69 [some (.inr (.inl v0)), some (.inl v1), some (.inl v2), some (.inl v3), some (.inl v4), some (.inl v5), some (.inl v6)] [] := by
  intro k
  induction k with
  | zero =>
    intro v0 v1 v2 v3 v4 v5 v6 σ
    intro hX
    exact z_none hX
  | succ k ih =>
    intro v0 v1 v2 v3 v4 v5 v6 σ
    rw [sX8_house_69]
    refine z_run hk hX8_house_0 43 2 (pc' := 73) (lv' := [some (.inr (.inl v0)), some (.inl v1), some (.inl v2), some (.inl v3), some (.inl v4), some (.inl v5), some (.inl v6)]) (st' := [.inl 6, .inl v6]) rfl ?_
    refine z_cge hk (z_row hX8_house_0 45 rfl) (tgt := 110) rfl ?_ ?_
    · refine z_run hk hX8_house_1 4 1 (pc' := 111) (lv' := [some (.inr (.inl v0)), some (.inl v1), some (.inl v2), some (.inl v3), some (.inl v4), some (.inl v5), some (.inl v6)]) (st' := [.inl v1]) rfl ?_
      refine z_ne hk (z_row hX8_house_1 5 rfl) (tgt := 124) rfl ?_ ?_
      · refine z_run hk hX8_house_1 12 2 (pc' := 126) (lv' := [some (.inr (.inl v0)), some (.inl v1), some (.inl v2), some (.inl v3), some (.inl v4), some (.inl v5), some (.inl v6)]) (st' := [.inl 1, .inl v1]) rfl ?_
        refine z_cne hk (z_row hX8_house_1 14 rfl) (tgt := 133) rfl ?_ ?_
        · refine z_run hk hX8_house_1 17 2 (pc' := 135) (lv' := [some (.inr (.inl v0)), some (.inl v1), some (.inl v2), some (.inl v3), some (.inl v4), some (.inl v5), some (.inl v6)]) (st' := [.inl 2, .inl v1]) rfl ?_
          refine z_cne hk (z_row hX8_house_1 19 rfl) (tgt := 144) rfl ?_ ?_
          · refine z_run hk hX8_house_1 24 5 (pc' := 151) (lv' := [some (.inr (.inl v0)), some (.inl v1), some (.inl v2), some (.inl v3), some (.inl v4), some (.inl v5), some (.inl v6)]) (st' := [.inl ((v2 - v4) - v5)]) rfl ?_
            refine z_mask [false, false, false, false, false, false, false] rfl ?_
            exact gsX8_house_151 F n hk he ((v2 - v4) - v5) σ
          · refine z_run hk hX8_house_1 20 3 (pc' := 141) (lv' := [some (.inr (.inl v0)), some (.inl v1), some (.inl v2), some (.inl v3), some (.inl v4), some (.inl v5), some (.inl v6)]) (st' := [.inl (v2 + v3)]) rfl ?_
            refine z_goto hk (z_row hX8_house_1 23 rfl) (tgt := 151) rfl ?_
            refine z_mask [false, false, false, false, false, false, false] rfl ?_
            exact gsX8_house_151 F n hk he (v2 + v3) σ
        · refine z_run hk hX8_house_1 15 1 (pc' := 130) (lv' := [some (.inr (.inl v0)), some (.inl v1), some (.inl v2), some (.inl v3), some (.inl v4), some (.inl v5), some (.inl v6)]) (st' := [.inl v2]) rfl ?_
          refine z_goto hk (z_row hX8_house_1 16 rfl) (tgt := 151) rfl ?_
          refine z_mask [false, false, false, false, false, false, false] rfl ?_
          exact gsX8_house_151 F n hk he v2 σ
      · refine z_run hk hX8_house_1 6 5 (pc' := 121) (lv' := [some (.inr (.inl v0)), some (.inl v1), some (.inl v2), some (.inl v3), some (.inl v4), some (.inl v5), some (.inl v6)]) (st' := [.inl ((v3 + v4) + v5)]) rfl ?_
        refine z_goto hk (z_row hX8_house_1 11 rfl) (tgt := 151) rfl ?_
        refine z_mask [false, false, false, false, false, false, false] rfl ?_
        exact gsX8_house_151 F n hk he ((v3 + v4) + v5) σ
    · refine z_run hk hX8_house_0 46 4 (pc' := 82) (lv' := [some (.inr (.inl v0)), some (.inl v1), some (.inl v2), some (.inl v3), some (.inl v4), some (.inl v5), some (.inl v6)]) (st' := [.inl 1, .inl v6, .inr (.inl v0), .inl v4]) rfl ?_
      refine kX8_soldBy F hk (z_row hX8_house_0 50 rfl) wd_1454 (by decide) (Nat.le_of_ble_eq_true rfl) (fun x1 => ?_)
      refine z_run hk hX8_house_0 51 4 (pc' := 91) (lv' := [some (.inr (.inl v0)), some (.inl v1), some (.inl v2), some (.inl v3), some (.inl (v4 + x1)), some (.inl v5), some (.inl v6)]) (st' := [.inr (.inl v0), .inl v5]) rfl ?_
      refine z_gR hk 1 (z_row hX8_house_0 55 rfl) (ci := 8) rfl rfl wd_1123 (fun x2 => ?_)
      refine z_run hk hX8_house_0 56 3 (pc' := 100) (lv' := [some (.inr (.inl v0)), some (.inl v1), some (.inl v2), some (.inl v3), some (.inl (v4 + x1)), some (.inl v5), some (.inl v6)]) (st' := [.inl (985 + v6), .inr (.inl x2), .inl v5]) rfl ?_
      refine z_aI hk (z_row hX8_house_0 59 rfl) (fun x3 => ?_)
      refine z_run hk hX8_house_1 0 3 (pc' := 107) (lv' := [some (.inr (.inl v0)), some (.inl v1), some (.inl v2), some (.inl v3), some (.inl (v4 + x1)), some (.inl (v5 + x3)), some (.inl (v6 + 1))]) (st' := []) rfl ?_
      refine z_goto hk (z_row hX8_house_1 3 rfl) (tgt := 69) rfl ?_
      exact ih v0 v1 v2 v3 (v4 + x1) (v5 + x3) (v6 + 1) σ
theorem gsX8_house_27 (F : zFx E) (n : Nat) (hk : zk E K "LotSalesModel" cX8_house 7 3) (he : zend E K (some .int) "house") : ∀ (k : Nat) (v0 : Nat) (v1 : Int32) (v2 : Int32) (v3 : Int32) (v4 : Int32) (σ : zW), zG E K zfW (sX8_house_27 n k v0 v1 v2 v3 v4 σ) σ 27 [some (.inr (.inl v0)), some (.inl v1), some (.inl v2), some (.inl v3), some (.inl v4), none, none] [] := by
  intro k
  induction k with
  | zero =>
    intro v0 v1 v2 v3 v4 σ
    intro hX
    exact z_none hX
  | succ k ih =>
    intro v0 v1 v2 v3 v4 σ
    rw [sX8_house_27]
    refine z_run hk hX8_house_0 18 2 (pc' := 31) (lv' := [some (.inr (.inl v0)), some (.inl v1), some (.inl v2), some (.inl v3), some (.inl v4), none, none]) (st' := [.inl 10, .inl v4]) rfl ?_
    refine z_cge hk (z_row hX8_house_0 20 rfl) (tgt := 60) rfl ?_ ?_
    · refine z_run hk hX8_house_0 37 6 (pc' := 69) (lv' := [some (.inr (.inl v0)), some (.inl v1), some (.inl v2), some (.inl v3), some (.inl 0), some (.inl 0), some (.inl 0)]) (st' := []) rfl ?_
      exact gsX8_house_69 F n hk he n v0 v1 v2 v3 0 0 0 σ
    · refine z_run hk hX8_house_0 21 4 (pc' := 39) (lv' := [some (.inr (.inl v0)), some (.inl v1), some (.inl v2), some (.inl v3), some (.inl v4), none, none]) (st' := [.inl 1, .inl v4, .inr (.inl v0), .inl v2]) rfl ?_
      refine kX8_boughtBy F hk (z_row hX8_house_0 25 rfl) wd_1357 (by decide) (Nat.le_of_ble_eq_true rfl) (fun x4 => ?_)
      refine z_run hk hX8_house_0 26 6 (pc' := 49) (lv' := [some (.inr (.inl v0)), some (.inl v1), some (.inl (v2 + x4)), some (.inl v3), some (.inl v4), none, none]) (st' := [.inl 2, .inl v4, .inr (.inl v0), .inl v3]) rfl ?_
      refine kX8_boughtBy F hk (z_row hX8_house_0 32 rfl) wd_1357 (by decide) (Nat.le_of_ble_eq_true rfl) (fun x5 => ?_)
      refine z_run hk hX8_house_0 33 3 (pc' := 57) (lv' := [some (.inr (.inl v0)), some (.inl v1), some (.inl (v2 + x4)), some (.inl (v3 + x5)), some (.inl (v4 + 1)), none, none]) (st' := []) rfl ?_
      refine z_goto hk (z_row hX8_house_0 36 rfl) (tgt := 27) rfl ?_
      exact ih v0 v1 (v2 + x4) (v3 + x5) (v4 + 1) σ
theorem mX8_house (F : zFx E) (n : Nat) (a0 : Nat) (a1 : Int32) (σ : zW) (o : Int32 × zW) (hf : fX8_house n a0 a1 σ = some o) : zM E qX8_house cX8_house 7 (some .int) 3 [.inr (.inl a0), .inl a1] σ (some (.int o.1)) o.2 := by
  refine zM_of (fin := zfW) F (by decide +kernel) rfl (Nat.le_of_ble_eq_true rfl) (lv0 := [some (.inr (.inl a0)), some (.inl a1), none, none, none, none, none]) rfl hf rfl (fun K hk he => ?_)
  have hk : zk E K "LotSalesModel" cX8_house 7 3 := hk
  unfold fX8_house
  refine z_run hk hX8_house_0 0 2 (pc' := 2) (lv' := [some (.inr (.inl a0)), some (.inl a1), none, none, none, none, none]) (st' := [.inl 0, .inr (.inl a0)]) rfl ?_
  refine z_pI hk 0 (z_row hX8_house_0 2 rfl) (ci := 8) rfl rfl wd_1122 rfl rfl rfl (fun σ6 => ?_)
  refine z_run hk hX8_house_0 3 3 (pc' := 8) (lv' := [some (.inr (.inl a0)), some (.inl a1), none, none, none, none, none]) (st' := [.inl 3, .inl 0, .inl a1]) rfl ?_
  refine kX8_isIn F hk (z_row hX8_house_0 6 rfl) wd_1181 (by decide) (Nat.le_of_ble_eq_true rfl) (fun x7 => ?_)
  refine z_ne hk (z_row hX8_house_0 7 rfl) (tgt := 20) rfl ?_ ?_
  · refine z_run hk hX8_house_0 12 6 (pc' := 27) (lv' := [some (.inr (.inl a0)), some (.inl a1), some (.inl 0), some (.inl 0), some (.inl 0), none, none]) (st' := []) rfl ?_
    exact gsX8_house_27 F n hk he n a0 a1 0 0 0 σ6
  · refine z_run hk hX8_house_0 8 2 (pc' := 16) (lv' := [some (.inr (.inl a0)), some (.inl a1), none, none, none, none, none]) (st' := [.inl 1, .inr (.inl a0)]) rfl ?_
    refine kX8_fail F hk (z_row hX8_house_0 10 rfl) wd_1221 (by decide) (Nat.le_of_ble_eq_true rfl) (fun x8 σ9 => ?_)
    exact z_iret hk he (z_row hX8_house_0 11 rfl) rfl
theorem kX8_house {n : Nat} {own : String} {cc : ByteArray} {nL h index : Nat} {α : Type} {fin : α → zO} {σ : zW} {pc : Nat} {lv : zLV} {st : List zV} {a0 : Nat} {a1 : Int32} {c : Int32 → zW → Option α} (F : zFx E) (hk : zk E K own cc nL h) (hd : decode cc pc = .ok (.invokevirtual index, 3)) (hl : Cond.methodLink own index qX8_house ∈ lw_tbl) (hh : 3 + 1 ≤ h) (hs : zcat st ≤ 8) (k : ∀ v s, zG E K fin (c v s) s (pc + 3) lv (.inl v :: st)) : zG E K fin (zck σ 9 a0 (zb2 (fX8_house n a0 a1 σ) c)) σ pc lv (.inl a1 :: .inr (.inl a0) :: st) :=
  z_vW (n := 1) (y := qX8_house) (As := [.inl a1]) hk hd hl wd_1462 wd_1463 wd_10 wd_1464 ⟨by decide, by decide, by decide +kernel⟩ ⟨hh, by decide⟩ (ci := 8) rfl rfl rfl (fun o ho => mX8_house F n a0 a1 σ o ho) hs k
abbrev qX8_eventsOf : MethodName := { cls := "LotSalesModel", name := "eventsOf", desc := "(I)I" }
def sX8_eventsOf_43 (n : Nat) (σ : zW) (r4 : Nat → Int32 → Int32 → Int32 → Option (Int32)) (v0 : Nat) (v1 : Int32) (v3 : Int32) (y0 : Int32) (y1 : Int32) : Option (Int32) := r4 v0 v1 (y0 + y1) (v3 + 1)
def sX8_eventsOf_38 (n : Nat) (σ : zW) (r4 : Nat → Int32 → Int32 → Int32 → Option (Int32)) (v0 : Nat) (v1 : Int32) (v3 : Int32) (y0 : Int32) : Option (Int32) := sX8_eventsOf_43 n σ r4 v0 v1 v3 y0 1
def sX8_eventsOf_4 (n : Nat) (σ : zW) : Nat → Nat → Int32 → Int32 → Int32 → Option (Int32)
  | 0, _, _, _, _ => none
  | k + 1, v0, v1, v2, v3 => zgR σ 9 v0 1 fun x1 => zaI σ x1 991 fun x2 => if v3 < x2 then if v1 = (-1) then sX8_eventsOf_38 n σ (sX8_eventsOf_4 n σ k) v0 v1 v3 v2 else zgR σ 9 v0 1 fun x3 => zaI σ x3 (992 + (4 * v3)) fun x4 => if x4 = v1 then sX8_eventsOf_38 n σ (sX8_eventsOf_4 n σ k) v0 v1 v3 v2 else sX8_eventsOf_43 n σ (sX8_eventsOf_4 n σ k) v0 v1 v3 v2 0 else some v2
def fX8_eventsOf (n : Nat) (a0 : Nat) (a1 : Int32) (σ : zW) : Option (Int32) := sX8_eventsOf_4 n σ n a0 a1 0 0
theorem gsX8_eventsOf_43 (F : zFx E) (n : Nat) (σ : zW) (hk : zk E K "LotSalesModel" cX8_eventsOf 4 0) (he : zend E K (some .int) "eventsOf") (r4 : Nat → Int32 → Int32 → Int32 → Option (Int32)) (hr4 : ∀ (v0 : Nat) (v1 : Int32) (v2 : Int32) (v3 : Int32), zG E K (zfR σ) (r4 v0 v1 v2 v3) σ 4 [some (.inr (.inl v0)), some (.inl v1), some (.inl v2), some (.inl v3)] []) (v0 : Nat) (v1 : Int32) (v3 : Int32) (y0 : Int32) (y1 : Int32) : zG E K (zfR σ) (sX8_eventsOf_43 n σ r4 v0 v1 v3 y0 y1) σ 43 [some (.inr (.inl v0)), some (.inl v1), none, some (.inl v3)] [.inl y1, .inl y0] := by
  unfold sX8_eventsOf_43
  refine z_run hk hX8_eventsOf_0 27 3 (pc' := 48) (lv' := [some (.inr (.inl v0)), some (.inl v1), some (.inl (y0 + y1)), some (.inl (v3 + 1))]) (st' := []) rfl ?_
  refine z_goto hk (z_row hX8_eventsOf_0 30 rfl) (tgt := 4) rfl ?_
  exact hr4 v0 v1 (y0 + y1) (v3 + 1)
theorem gsX8_eventsOf_38 (F : zFx E) (n : Nat) (σ : zW) (hk : zk E K "LotSalesModel" cX8_eventsOf 4 0) (he : zend E K (some .int) "eventsOf") (r4 : Nat → Int32 → Int32 → Int32 → Option (Int32)) (hr4 : ∀ (v0 : Nat) (v1 : Int32) (v2 : Int32) (v3 : Int32), zG E K (zfR σ) (r4 v0 v1 v2 v3) σ 4 [some (.inr (.inl v0)), some (.inl v1), some (.inl v2), some (.inl v3)] []) (v0 : Nat) (v1 : Int32) (v3 : Int32) (y0 : Int32) : zG E K (zfR σ) (sX8_eventsOf_38 n σ r4 v0 v1 v3 y0) σ 38 [some (.inr (.inl v0)), some (.inl v1), none, some (.inl v3)] [.inl y0] := by
  unfold sX8_eventsOf_38
  refine z_run hk hX8_eventsOf_0 24 1 (pc' := 39) (lv' := [some (.inr (.inl v0)), some (.inl v1), none, some (.inl v3)]) (st' := [.inl 1, .inl y0]) rfl ?_
  refine z_goto hk (z_row hX8_eventsOf_0 25 rfl) (tgt := 43) rfl ?_
  exact gsX8_eventsOf_43 F n σ hk he r4 hr4 v0 v1 v3 y0 1
theorem gsX8_eventsOf_4 (F : zFx E) (n : Nat) (σ : zW) (hk : zk E K "LotSalesModel" cX8_eventsOf 4 0) (he : zend E K (some .int) "eventsOf") : ∀ (k : Nat) (v0 : Nat) (v1 : Int32) (v2 : Int32) (v3 : Int32), zG E K (zfR σ) (sX8_eventsOf_4 n σ k v0 v1 v2 v3) σ 4 [some (.inr (.inl v0)), some (.inl v1), some (.inl v2), some (.inl v3)] [] := by
  intro k
  induction k with
  | zero =>
    intro v0 v1 v2 v3
    intro hX
    exact z_none hX
  | succ k ih =>
    intro v0 v1 v2 v3
    rw [sX8_eventsOf_4]
    refine z_run hk hX8_eventsOf_0 4 2 (pc' := 6) (lv' := [some (.inr (.inl v0)), some (.inl v1), some (.inl v2), some (.inl v3)]) (st' := [.inr (.inl v0), .inl v3]) rfl ?_
    refine z_gR hk 1 (z_row hX8_eventsOf_0 6 rfl) (ci := 8) rfl rfl wd_1123 (fun x1 => ?_)
    refine z_run hk hX8_eventsOf_0 7 1 (pc' := 12) (lv' := [some (.inr (.inl v0)), some (.inl v1), some (.inl v2), some (.inl v3)]) (st' := [.inl 991, .inr (.inl x1), .inl v3]) rfl ?_
    refine z_aI hk (z_row hX8_eventsOf_0 8 rfl) (fun x2 => ?_)
    refine z_cge hk (z_row hX8_eventsOf_0 9 rfl) (tgt := 51) rfl ?_ ?_
    · refine z_run hk hX8_eventsOf_0 31 1 (pc' := 52) (lv' := [some (.inr (.inl v0)), some (.inl v1), some (.inl v2), some (.inl v3)]) (st' := [.inl v2]) rfl ?_
      exact z_iret hk he (z_row hX8_eventsOf_0 32 rfl) rfl
    · refine z_run hk hX8_eventsOf_0 10 3 (pc' := 19) (lv' := [some (.inr (.inl v0)), some (.inl v1), some (.inl v2), some (.inl v3)]) (st' := [.inl (-1), .inl v1, .inl v2]) rfl ?_
      refine z_ceq hk (z_row hX8_eventsOf_0 13 rfl) (tgt := 38) rfl ?_ ?_
      · refine z_mask [true, true, false, true] rfl ?_
        exact gsX8_eventsOf_38 F n σ hk he (sX8_eventsOf_4 n σ k) ih v0 v1 v3 v2
      · refine z_run hk hX8_eventsOf_0 14 1 (pc' := 23) (lv' := [some (.inr (.inl v0)), some (.inl v1), some (.inl v2), some (.inl v3)]) (st' := [.inr (.inl v0), .inl v2]) rfl ?_
        refine z_gR hk 1 (z_row hX8_eventsOf_0 15 rfl) (ci := 8) rfl rfl wd_1123 (fun x3 => ?_)
        refine z_run hk hX8_eventsOf_0 16 5 (pc' := 33) (lv' := [some (.inr (.inl v0)), some (.inl v1), some (.inl v2), some (.inl v3)]) (st' := [.inl (992 + (4 * v3)), .inr (.inl x3), .inl v2]) rfl ?_
        refine z_aI hk (z_row hX8_eventsOf_0 21 rfl) (fun x4 => ?_)
        refine z_run hk hX8_eventsOf_0 22 1 (pc' := 35) (lv' := [some (.inr (.inl v0)), some (.inl v1), some (.inl v2), some (.inl v3)]) (st' := [.inl v1, .inl x4, .inl v2]) rfl ?_
        refine z_cne hk (z_row hX8_eventsOf_0 23 rfl) (tgt := 42) rfl ?_ ?_
        · refine z_run hk hX8_eventsOf_0 26 1 (pc' := 43) (lv' := [some (.inr (.inl v0)), some (.inl v1), some (.inl v2), some (.inl v3)]) (st' := [.inl 0, .inl v2]) rfl ?_
          refine z_mask [true, true, false, true] rfl ?_
          exact gsX8_eventsOf_43 F n σ hk he (sX8_eventsOf_4 n σ k) ih v0 v1 v3 v2 0
        · refine z_mask [true, true, false, true] rfl ?_
          exact gsX8_eventsOf_38 F n σ hk he (sX8_eventsOf_4 n σ k) ih v0 v1 v3 v2
theorem mX8_eventsOf (F : zFx E) (n : Nat) (a0 : Nat) (a1 : Int32) (σ : zW) (o : Int32) (hf : fX8_eventsOf n a0 a1 σ = some o) : zM E qX8_eventsOf cX8_eventsOf 4 (some .int) 0 [.inr (.inl a0), .inl a1] σ (some (.int o)) σ := by
  refine zM_of (fin := (zfR σ)) F (by decide +kernel) rfl (Nat.le_of_ble_eq_true rfl) (lv0 := [some (.inr (.inl a0)), some (.inl a1), none, none]) rfl hf rfl (fun K hk he => ?_)
  have hk : zk E K "LotSalesModel" cX8_eventsOf 4 0 := hk
  unfold fX8_eventsOf
  refine z_run hk hX8_eventsOf_0 0 4 (pc' := 4) (lv' := [some (.inr (.inl a0)), some (.inl a1), some (.inl 0), some (.inl 0)]) (st' := []) rfl ?_
  exact gsX8_eventsOf_4 F n σ hk he n a0 a1 0 0
theorem kX8_eventsOf {n : Nat} {own : String} {cc : ByteArray} {nL h index : Nat} {α : Type} {fin : α → zO} {σ : zW} {pc : Nat} {lv : zLV} {st : List zV} {a0 : Nat} {a1 : Int32} {c : Int32 → Option α} (F : zFx E) (hk : zk E K own cc nL h) (hd : decode cc pc = .ok (.invokevirtual index, 3)) (hl : Cond.methodLink own index qX8_eventsOf ∈ lw_tbl) (hh : 0 + 1 ≤ h) (hs : zcat st ≤ 8) (k : ∀ v, zG E K fin (c v) σ (pc + 3) lv (.inl v :: st)) : zG E K fin (zck σ 9 a0 (zb (fX8_eventsOf n a0 a1 σ) c)) σ pc lv (.inl a1 :: .inr (.inl a0) :: st) :=
  z_vR (n := 1) (y := qX8_eventsOf) (As := [.inl a1]) hk hd hl wd_1471 ws_51 wd_10 wd_1472 ⟨by decide, by decide, by decide +kernel⟩ ⟨hh, by decide⟩ (ci := 8) rfl rfl rfl (fun o ho => mX8_eventsOf F n a0 a1 σ o ho) hs k
abbrev qX8_soldShare : MethodName := { cls := "LotSalesModel", name := "soldShare", desc := "()D" }
def sX8_soldShare_39 (n : Nat) (y0 : UInt64) (σ : zW) : Option (UInt64 × zW) := some (y0, σ)
def fX8_soldShare (n : Nat) (a0 : Nat) (σ : zW) : Option (UInt64 × zW) := zpI σ 9 a0 0 0 fun σ1 => zck σ1 9 a0 (zb (fX8_eventsOf n a0 3 σ1) fun x2 => zck σ1 9 a0 (zb (fX8_eventsOf n a0 4 σ1) fun x3 => if (x2 + x3) = 0 then zck σ1 9 a0 (zb2 (fX8_fail n a0 1 σ1) fun x6 σ7 => sX8_soldShare_39 n (FP.i2d x6) σ7) else zck σ1 9 a0 (zb (fX8_eventsOf n a0 3 σ1) fun x4 => zdd (FP.i2d x4) (FP.i2d (x2 + x3)) fun x5 => sX8_soldShare_39 n x5 σ1)))
theorem gsX8_soldShare_39 (F : zFx E) (n : Nat) (hk : zk E K "LotSalesModel" cX8_soldShare 2 1) (he : zend E K (some .double) "soldShare") (y0 : UInt64) (σ : zW) : zG E K zfD (sX8_soldShare_39 n y0 σ) σ 39 [none, none] [.inr (.inr (.inr (.inl y0)))] := by
  unfold sX8_soldShare_39
  exact z_dret hk he (z_row hX8_soldShare_0 25 rfl) rfl
theorem mX8_soldShare (F : zFx E) (n : Nat) (a0 : Nat) (σ : zW) (o : UInt64 × zW) (hf : fX8_soldShare n a0 σ = some o) : zM E qX8_soldShare cX8_soldShare 2 (some .double) 1 [.inr (.inl a0)] σ (some (.double o.1)) o.2 := by
  refine zM_of (fin := zfD) F (by decide +kernel) rfl (Nat.le_of_ble_eq_true rfl) (lv0 := [some (.inr (.inl a0)), none]) rfl hf rfl (fun K hk he => ?_)
  have hk : zk E K "LotSalesModel" cX8_soldShare 2 1 := hk
  unfold fX8_soldShare
  refine z_run hk hX8_soldShare_0 0 2 (pc' := 2) (lv' := [some (.inr (.inl a0)), none]) (st' := [.inl 0, .inr (.inl a0)]) rfl ?_
  refine z_pI hk 0 (z_row hX8_soldShare_0 2 rfl) (ci := 8) rfl rfl wd_1122 rfl rfl rfl (fun σ1 => ?_)
  refine z_run hk hX8_soldShare_0 3 2 (pc' := 7) (lv' := [some (.inr (.inl a0)), none]) (st' := [.inl 3, .inr (.inl a0)]) rfl ?_
  refine kX8_eventsOf F hk (z_row hX8_soldShare_0 5 rfl) wd_1469 (by decide) (Nat.le_of_ble_eq_true rfl) (fun x2 => ?_)
  refine z_run hk hX8_soldShare_0 6 2 (pc' := 12) (lv' := [some (.inr (.inl a0)), none]) (st' := [.inl 4, .inr (.inl a0), .inl x2]) rfl ?_
  refine kX8_eventsOf F hk (z_row hX8_soldShare_0 8 rfl) wd_1469 (by decide) (Nat.le_of_ble_eq_true rfl) (fun x3 => ?_)
  refine z_run hk hX8_soldShare_0 9 3 (pc' := 18) (lv' := [some (.inr (.inl a0)), some (.inl (x2 + x3))]) (st' := [.inl (x2 + x3)]) rfl ?_
  refine z_ne hk (z_row hX8_soldShare_0 12 rfl) (tgt := 30) rfl ?_ ?_
  · refine z_run hk hX8_soldShare_0 18 2 (pc' := 32) (lv' := [some (.inr (.inl a0)), some (.inl (x2 + x3))]) (st' := [.inl 3, .inr (.inl a0)]) rfl ?_
    refine kX8_eventsOf F hk (z_row hX8_soldShare_0 20 rfl) wd_1469 (by decide) (Nat.le_of_ble_eq_true rfl) (fun x4 => ?_)
    refine z_run hk hX8_soldShare_0 21 3 (pc' := 38) (lv' := [some (.inr (.inl a0)), some (.inl (x2 + x3))]) (st' := [.inr (.inr (.inr (.inl (FP.i2d (x2 + x3))))), .inr (.inr (.inr (.inl (FP.i2d x4))))]) rfl ?_
    refine z_ddiv hk (z_row hX8_soldShare_0 24 rfl) (fun x5 => ?_)
    refine z_mask [false, false] rfl ?_
    exact gsX8_soldShare_39 F n hk he x5 σ1
  · refine z_run hk hX8_soldShare_0 13 2 (pc' := 23) (lv' := [some (.inr (.inl a0)), some (.inl (x2 + x3))]) (st' := [.inl 1, .inr (.inl a0)]) rfl ?_
    refine kX8_fail F hk (z_row hX8_soldShare_0 15 rfl) wd_1221 (by decide) (Nat.le_of_ble_eq_true rfl) (fun x6 σ7 => ?_)
    refine z_run hk hX8_soldShare_0 16 1 (pc' := 27) (lv' := [some (.inr (.inl a0)), some (.inl (x2 + x3))]) (st' := [.inr (.inr (.inr (.inl (FP.i2d x6))))]) rfl ?_
    refine z_goto hk (z_row hX8_soldShare_0 17 rfl) (tgt := 39) rfl ?_
    refine z_mask [false, false] rfl ?_
    exact gsX8_soldShare_39 F n hk he (FP.i2d x6) σ7
theorem kX8_soldShare {n : Nat} {own : String} {cc : ByteArray} {nL h index : Nat} {α : Type} {fin : α → zO} {σ : zW} {pc : Nat} {lv : zLV} {st : List zV} {a0 : Nat} {c : UInt64 → zW → Option α} (F : zFx E) (hk : zk E K own cc nL h) (hd : decode cc pc = .ok (.invokevirtual index, 3)) (hl : Cond.methodLink own index qX8_soldShare ∈ lw_tbl) (hh : 1 + 1 ≤ h) (hs : zcat st ≤ 8) (k : ∀ v s, zG E K fin (c v s) s (pc + 3) lv (.inr (.inr (.inr (.inl v))) :: st)) : zG E K fin (zck σ 9 a0 (zb2 (fX8_soldShare n a0 σ) c)) σ pc lv (.inr (.inl a0) :: st) :=
  z_vD (n := 0) (y := qX8_soldShare) (As := []) hk hd hl wd_1466 wd_1467 wd_10 wd_1468 ⟨by decide, by decide, by decide +kernel⟩ ⟨hh, by decide⟩ (ci := 8) rfl rfl rfl (fun o ho => mX8_soldShare F n a0 σ o ho) hs k
abbrev qX8_events : MethodName := { cls := "LotSalesModel", name := "events", desc := "(I)I" }
def sX8_events_28 (n : Nat) (y0 : Int32) (σ : zW) : Option (Int32 × zW) := some (y0, σ)
def fX8_events (n : Nat) (a0 : Nat) (a1 : Int32) (σ : zW) : Option (Int32 × zW) := zpI σ 9 a0 0 0 fun σ1 => zb (fX8_isIn n a1 (-1) 9 σ1) fun x2 => if x2 = 0 then zck σ1 9 a0 (zb2 (fX8_fail n a0 1 σ1) fun x3 σ4 => sX8_events_28 n x3 σ4) else zck σ1 9 a0 (zb (fX8_eventsOf n a0 a1 σ1) fun x5 => sX8_events_28 n x5 σ1)
theorem gsX8_events_28 (F : zFx E) (n : Nat) (hk : zk E K "LotSalesModel" cX8_events 2 1) (he : zend E K (some .int) "events") (y0 : Int32) (σ : zW) : zG E K zfW (sX8_events_28 n y0 σ) σ 28 [none, none] [.inl y0] := by
  unfold sX8_events_28
  exact z_iret hk he (z_row hX8_events_0 15 rfl) rfl
theorem mX8_events (F : zFx E) (n : Nat) (a0 : Nat) (a1 : Int32) (σ : zW) (o : Int32 × zW) (hf : fX8_events n a0 a1 σ = some o) : zM E qX8_events cX8_events 2 (some .int) 1 [.inr (.inl a0), .inl a1] σ (some (.int o.1)) o.2 := by
  refine zM_of (fin := zfW) F (by decide +kernel) rfl (Nat.le_of_ble_eq_true rfl) (lv0 := [some (.inr (.inl a0)), some (.inl a1)]) rfl hf rfl (fun K hk he => ?_)
  have hk : zk E K "LotSalesModel" cX8_events 2 1 := hk
  unfold fX8_events
  refine z_run hk hX8_events_0 0 2 (pc' := 2) (lv' := [some (.inr (.inl a0)), some (.inl a1)]) (st' := [.inl 0, .inr (.inl a0)]) rfl ?_
  refine z_pI hk 0 (z_row hX8_events_0 2 rfl) (ci := 8) rfl rfl wd_1122 rfl rfl rfl (fun σ1 => ?_)
  refine z_run hk hX8_events_0 3 3 (pc' := 9) (lv' := [some (.inr (.inl a0)), some (.inl a1)]) (st' := [.inl 9, .inl (-1), .inl a1]) rfl ?_
  refine kX8_isIn F hk (z_row hX8_events_0 6 rfl) wd_1181 (by decide) (Nat.le_of_ble_eq_true rfl) (fun x2 => ?_)
  refine z_eq hk (z_row hX8_events_0 7 rfl) (tgt := 23) rfl ?_ ?_
  · refine z_run hk hX8_events_0 12 2 (pc' := 25) (lv' := [some (.inr (.inl a0)), some (.inl a1)]) (st' := [.inl 1, .inr (.inl a0)]) rfl ?_
    refine kX8_fail F hk (z_row hX8_events_0 14 rfl) wd_1221 (by decide) (Nat.le_of_ble_eq_true rfl) (fun x3 σ4 => ?_)
    refine z_mask [false, false] rfl ?_
    exact gsX8_events_28 F n hk he x3 σ4
  · refine z_run hk hX8_events_0 8 2 (pc' := 17) (lv' := [some (.inr (.inl a0)), some (.inl a1)]) (st' := [.inl a1, .inr (.inl a0)]) rfl ?_
    refine kX8_eventsOf F hk (z_row hX8_events_0 10 rfl) wd_1469 (by decide) (Nat.le_of_ble_eq_true rfl) (fun x5 => ?_)
    refine z_goto hk (z_row hX8_events_0 11 rfl) (tgt := 28) rfl ?_
    refine z_mask [false, false] rfl ?_
    exact gsX8_events_28 F n hk he x5 σ1
theorem kX8_events {n : Nat} {own : String} {cc : ByteArray} {nL h index : Nat} {α : Type} {fin : α → zO} {σ : zW} {pc : Nat} {lv : zLV} {st : List zV} {a0 : Nat} {a1 : Int32} {c : Int32 → zW → Option α} (F : zFx E) (hk : zk E K own cc nL h) (hd : decode cc pc = .ok (.invokevirtual index, 3)) (hl : Cond.methodLink own index qX8_events ∈ lw_tbl) (hh : 1 + 1 ≤ h) (hs : zcat st ≤ 8) (k : ∀ v s, zG E K fin (c v s) s (pc + 3) lv (.inl v :: st)) : zG E K fin (zck σ 9 a0 (zb2 (fX8_events n a0 a1 σ) c)) σ pc lv (.inl a1 :: .inr (.inl a0) :: st) :=
  z_vW (n := 1) (y := qX8_events) (As := [.inl a1]) hk hd hl wd_1474 wd_1475 wd_10 wd_1476 ⟨by decide, by decide, by decide +kernel⟩ ⟨hh, by decide⟩ (ci := 8) rfl rfl rfl (fun o ho => mX8_events F n a0 a1 σ o ho) hs k
abbrev qX8_event : MethodName := { cls := "LotSalesModel", name := "event", desc := "(II)I" }
def sX8_event_65 (n : Nat) (y0 : Int32) (σ : zW) : Option (Int32 × zW) := some (y0, σ)
def sX8_event_37 (n : Nat) (v0 : Nat) (v1 : Int32) (v2 : Int32) (y0 : Nat) (y1 : Int32) (σ : zW) : Option (Int32 × zW) := zpI σ 9 y0 0 y1 fun σ1 => zgI σ1 9 v0 0 fun x2 => if x2 = 0 then zgR σ1 9 v0 1 fun x3 => zaI σ1 x3 ((992 + (4 * v1)) + v2) fun x4 => sX8_event_65 n x4 σ1 else sX8_event_65 n 0 σ1
def fX8_event (n : Nat) (a0 : Nat) (a1 : Int32) (a2 : Int32) (σ : zW) : Option (Int32 × zW) := zgR σ 9 a0 1 fun x5 => zaI σ x5 991 fun x6 => zb (fX8_isIn n a1 0 (x6 - 1) σ) fun x7 => if x7 = 0 then sX8_event_37 n a0 a1 a2 a0 1 σ else zb (fX8_isIn n a2 0 3 σ) fun x8 => if x8 = 0 then sX8_event_37 n a0 a1 a2 a0 2 σ else sX8_event_37 n a0 a1 a2 a0 0 σ
theorem gsX8_event_65 (F : zFx E) (n : Nat) (hk : zk E K "LotSalesModel" cX8_event 3 1) (he : zend E K (some .int) "event") (y0 : Int32) (σ : zW) : zG E K zfW (sX8_event_65 n y0 σ) σ 65 [none, none, none] [.inl y0] := by
  unfold sX8_event_65
  exact z_iret hk he (z_row hX8_event_0 37 rfl) rfl
theorem gsX8_event_37 (F : zFx E) (n : Nat) (hk : zk E K "LotSalesModel" cX8_event 3 1) (he : zend E K (some .int) "event") (v0 : Nat) (v1 : Int32) (v2 : Int32) (y0 : Nat) (y1 : Int32) (σ : zW) : zG E K zfW (sX8_event_37 n v0 v1 v2 y0 y1 σ) σ 37 [some (.inr (.inl v0)), some (.inl v1), some (.inl v2)] [.inl y1, .inr (.inl y0)] := by
  unfold sX8_event_37
  refine z_pI hk 0 (z_row hX8_event_0 21 rfl) (ci := 8) rfl rfl wd_1122 rfl rfl rfl (fun σ1 => ?_)
  refine z_run hk hX8_event_0 22 1 (pc' := 41) (lv' := [some (.inr (.inl v0)), some (.inl v1), some (.inl v2)]) (st' := [.inr (.inl v0)]) rfl ?_
  refine z_gI hk 0 (z_row hX8_event_0 23 rfl) (ci := 8) rfl rfl wd_1122 (fun x2 => ?_)
  refine z_ne hk (z_row hX8_event_0 24 rfl) (tgt := 64) rfl ?_ ?_
  · refine z_run hk hX8_event_0 36 1 (pc' := 65) (lv' := [some (.inr (.inl v0)), some (.inl v1), some (.inl v2)]) (st' := [.inl 0]) rfl ?_
    refine z_mask [false, false, false] rfl ?_
    exact gsX8_event_65 F n hk he 0 σ1
  · refine z_run hk hX8_event_0 25 1 (pc' := 48) (lv' := [some (.inr (.inl v0)), some (.inl v1), some (.inl v2)]) (st' := [.inr (.inl v0)]) rfl ?_
    refine z_gR hk 1 (z_row hX8_event_0 26 rfl) (ci := 8) rfl rfl wd_1123 (fun x3 => ?_)
    refine z_run hk hX8_event_0 27 7 (pc' := 60) (lv' := [some (.inr (.inl v0)), some (.inl v1), some (.inl v2)]) (st' := [.inl ((992 + (4 * v1)) + v2), .inr (.inl x3)]) rfl ?_
    refine z_aI hk (z_row hX8_event_0 34 rfl) (fun x4 => ?_)
    refine z_goto hk (z_row hX8_event_0 35 rfl) (tgt := 65) rfl ?_
    refine z_mask [false, false, false] rfl ?_
    exact gsX8_event_65 F n hk he x4 σ1
theorem mX8_event (F : zFx E) (n : Nat) (a0 : Nat) (a1 : Int32) (a2 : Int32) (σ : zW) (o : Int32 × zW) (hf : fX8_event n a0 a1 a2 σ = some o) : zM E qX8_event cX8_event 3 (some .int) 1 [.inr (.inl a0), .inl a1, .inl a2] σ (some (.int o.1)) o.2 := by
  refine zM_of (fin := zfW) F (by decide +kernel) rfl (Nat.le_of_ble_eq_true rfl) (lv0 := [some (.inr (.inl a0)), some (.inl a1), some (.inl a2)]) rfl hf rfl (fun K hk he => ?_)
  have hk : zk E K "LotSalesModel" cX8_event 3 1 := hk
  unfold fX8_event
  refine z_run hk hX8_event_0 0 4 (pc' := 4) (lv' := [some (.inr (.inl a0)), some (.inl a1), some (.inl a2)]) (st' := [.inr (.inl a0), .inl 0, .inl a1, .inr (.inl a0)]) rfl ?_
  refine z_gR hk 1 (z_row hX8_event_0 4 rfl) (ci := 8) rfl rfl wd_1123 (fun x5 => ?_)
  refine z_run hk hX8_event_0 5 1 (pc' := 10) (lv' := [some (.inr (.inl a0)), some (.inl a1), some (.inl a2)]) (st' := [.inl 991, .inr (.inl x5), .inl 0, .inl a1, .inr (.inl a0)]) rfl ?_
  refine z_aI hk (z_row hX8_event_0 6 rfl) (fun x6 => ?_)
  refine z_run hk hX8_event_0 7 2 (pc' := 13) (lv' := [some (.inr (.inl a0)), some (.inl a1), some (.inl a2)]) (st' := [.inl (x6 - 1), .inl 0, .inl a1, .inr (.inl a0)]) rfl ?_
  refine kX8_isIn F hk (z_row hX8_event_0 9 rfl) wd_1181 (by decide) (Nat.le_of_ble_eq_true rfl) (fun x7 => ?_)
  refine z_ne hk (z_row hX8_event_0 10 rfl) (tgt := 23) rfl ?_ ?_
  · refine z_run hk hX8_event_0 13 3 (pc' := 26) (lv' := [some (.inr (.inl a0)), some (.inl a1), some (.inl a2)]) (st' := [.inl 3, .inl 0, .inl a2, .inr (.inl a0)]) rfl ?_
    refine kX8_isIn F hk (z_row hX8_event_0 16 rfl) wd_1181 (by decide) (Nat.le_of_ble_eq_true rfl) (fun x8 => ?_)
    refine z_ne hk (z_row hX8_event_0 17 rfl) (tgt := 36) rfl ?_ ?_
    · refine z_run hk hX8_event_0 20 1 (pc' := 37) (lv' := [some (.inr (.inl a0)), some (.inl a1), some (.inl a2)]) (st' := [.inl 0, .inr (.inl a0)]) rfl ?_
      exact gsX8_event_37 F n hk he a0 a1 a2 a0 0 σ
    · refine z_run hk hX8_event_0 18 1 (pc' := 33) (lv' := [some (.inr (.inl a0)), some (.inl a1), some (.inl a2)]) (st' := [.inl 2, .inr (.inl a0)]) rfl ?_
      refine z_goto hk (z_row hX8_event_0 19 rfl) (tgt := 37) rfl ?_
      exact gsX8_event_37 F n hk he a0 a1 a2 a0 2 σ
  · refine z_run hk hX8_event_0 11 1 (pc' := 20) (lv' := [some (.inr (.inl a0)), some (.inl a1), some (.inl a2)]) (st' := [.inl 1, .inr (.inl a0)]) rfl ?_
    refine z_goto hk (z_row hX8_event_0 12 rfl) (tgt := 37) rfl ?_
    exact gsX8_event_37 F n hk he a0 a1 a2 a0 1 σ
theorem kX8_event {n : Nat} {own : String} {cc : ByteArray} {nL h index : Nat} {α : Type} {fin : α → zO} {σ : zW} {pc : Nat} {lv : zLV} {st : List zV} {a0 : Nat} {a1 : Int32} {a2 : Int32} {c : Int32 → zW → Option α} (F : zFx E) (hk : zk E K own cc nL h) (hd : decode cc pc = .ok (.invokevirtual index, 3)) (hl : Cond.methodLink own index qX8_event ∈ lw_tbl) (hh : 1 + 1 ≤ h) (hs : zcat st ≤ 8) (k : ∀ v s, zG E K fin (c v s) s (pc + 3) lv (.inl v :: st)) : zG E K fin (zck σ 9 a0 (zb2 (fX8_event n a0 a1 a2 σ) c)) σ pc lv (.inl a2 :: .inl a1 :: .inr (.inl a0) :: st) :=
  z_vW (n := 2) (y := qX8_event) (As := [.inl a1, .inl a2]) hk hd hl wd_1478 wd_1479 wd_10 wd_1480 ⟨by decide, by decide, by decide +kernel⟩ ⟨hh, by decide⟩ (ci := 8) rfl rfl rfl (fun o ho => mX8_event F n a0 a1 a2 σ o ho) hs k
abbrev qX8_sumOf : MethodName := { cls := "LotSalesModel", name := "sumOf", desc := "(III)I" }
def sX8_sumOf_108 (n : Nat) (σ : zW) (r6 : Nat → Int32 → Int32 → Int32 → Int32 → Int32 → Option (Int32)) (v0 : Nat) (v1 : Int32) (v2 : Int32) (v3 : Int32) (v5 : Int32) (y0 : Int32) (y1 : Int32) : Option (Int32) := r6 v0 v1 v2 v3 (y0 + y1) (v5 + 1)
def sX8_sumOf_86 (n : Nat) (σ : zW) (r6 : Nat → Int32 → Int32 → Int32 → Int32 → Int32 → Option (Int32)) (v0 : Nat) (v1 : Int32) (v2 : Int32) (v3 : Int32) (v4 : Int32) (v5 : Int32) (v6 : Int32) (y0 : Int32) : Option (Int32) := if y0 = 0 then sX8_sumOf_108 n σ r6 v0 v1 v2 v3 v5 v4 0 else zgR σ 9 v0 1 fun x1 => zaI σ x1 (v6 + 3) fun x2 => sX8_sumOf_108 n σ r6 v0 v1 v2 v3 v5 v4 x2
def sX8_sumOf_81 (n : Nat) (σ : zW) (r6 : Nat → Int32 → Int32 → Int32 → Int32 → Int32 → Option (Int32)) (v0 : Nat) (v1 : Int32) (v2 : Int32) (v3 : Int32) (v4 : Int32) (v5 : Int32) (v6 : Int32) : Option (Int32) := sX8_sumOf_86 n σ r6 v0 v1 v2 v3 v4 v5 v6 1
def sX8_sumOf_85 (n : Nat) (σ : zW) (r6 : Nat → Int32 → Int32 → Int32 → Int32 → Int32 → Option (Int32)) (v0 : Nat) (v1 : Int32) (v2 : Int32) (v3 : Int32) (v4 : Int32) (v5 : Int32) (v6 : Int32) : Option (Int32) := sX8_sumOf_86 n σ r6 v0 v1 v2 v3 v4 v5 v6 0
def sX8_sumOf_58 (n : Nat) (σ : zW) (r6 : Nat → Int32 → Int32 → Int32 → Int32 → Int32 → Option (Int32)) (v0 : Nat) (v1 : Int32) (v2 : Int32) (v3 : Int32) (v4 : Int32) (v5 : Int32) (v6 : Int32) : Option (Int32) := if v3 = (-1) then sX8_sumOf_81 n σ r6 v0 v1 v2 v3 v4 v5 v6 else zgR σ 9 v0 1 fun x3 => zaI σ x3 (v6 + 1) fun x4 => zck σ 9 v0 (zb (fX8_at n v0 x4 0 σ) fun x5 => if x5 = v3 then sX8_sumOf_81 n σ r6 v0 v1 v2 v3 v4 v5 v6 else sX8_sumOf_85 n σ r6 v0 v1 v2 v3 v4 v5 v6)
def sX8_sumOf_6 (n : Nat) (σ : zW) : Nat → Nat → Int32 → Int32 → Int32 → Int32 → Int32 → Option (Int32)
  | 0, _, _, _, _, _, _ => none
  | k + 1, v0, v1, v2, v3, v4, v5 => zgR σ 9 v0 1 fun x6 => zaI σ x6 991 fun x7 => if v5 < x7 then zgR σ 9 v0 1 fun x8 => zaI σ x8 (992 + (4 * v5)) fun x9 => if x9 = v1 then if v2 = (-1) then sX8_sumOf_58 n σ (sX8_sumOf_6 n σ k) v0 v1 v2 v3 v4 v5 (992 + (4 * v5)) else zgR σ 9 v0 1 fun x10 => zaI σ x10 ((992 + (4 * v5)) + 2) fun x11 => if x11 = v2 then sX8_sumOf_58 n σ (sX8_sumOf_6 n σ k) v0 v1 v2 v3 v4 v5 (992 + (4 * v5)) else sX8_sumOf_85 n σ (sX8_sumOf_6 n σ k) v0 v1 v2 v3 v4 v5 (992 + (4 * v5)) else sX8_sumOf_85 n σ (sX8_sumOf_6 n σ k) v0 v1 v2 v3 v4 v5 (992 + (4 * v5)) else some v4
def fX8_sumOf (n : Nat) (a0 : Nat) (a1 : Int32) (a2 : Int32) (a3 : Int32) (σ : zW) : Option (Int32) := sX8_sumOf_6 n σ n a0 a1 a2 a3 0 0
theorem gsX8_sumOf_108 (F : zFx E) (n : Nat) (σ : zW) (hk : zk E K "LotSalesModel" cX8_sumOf 8 1) (he : zend E K (some .int) "sumOf") (r6 : Nat → Int32 → Int32 → Int32 → Int32 → Int32 → Option (Int32)) (hr6 : ∀ (v0 : Nat) (v1 : Int32) (v2 : Int32) (v3 : Int32) (v4 : Int32) (v5 : Int32), zG E K (zfR σ) (r6 v0 v1 v2 v3 v4 v5) σ 6 [some (.inr (.inl v0)), some (.inl v1), some (.inl v2), some (.inl v3), some (.inl v4), some (.inl v5), none, none] []) (v0 : Nat) (v1 : Int32) (v2 : Int32) (v3 : Int32) (v5 : Int32) (y0 : Int32) (y1 : Int32) : zG E K (zfR σ) (sX8_sumOf_108 n σ r6 v0 v1 v2 v3 v5 y0 y1) σ 108 [some (.inr (.inl v0)), some (.inl v1), some (.inl v2), some (.inl v3), none, some (.inl v5), none, none] [.inl y1, .inl y0] := by
  unfold sX8_sumOf_108
  refine z_run hk hX8_sumOf_1 2 3 (pc' := 114) (lv' := [some (.inr (.inl v0)), some (.inl v1), some (.inl v2), some (.inl v3), some (.inl (y0 + y1)), some (.inl (v5 + 1)), none, none]) (st' := []) rfl ?_
  refine z_goto hk (z_row hX8_sumOf_1 5 rfl) (tgt := 6) rfl ?_
  exact hr6 v0 v1 v2 v3 (y0 + y1) (v5 + 1)
theorem gsX8_sumOf_86 (F : zFx E) (n : Nat) (σ : zW) (hk : zk E K "LotSalesModel" cX8_sumOf 8 1) (he : zend E K (some .int) "sumOf") (r6 : Nat → Int32 → Int32 → Int32 → Int32 → Int32 → Option (Int32)) (hr6 : ∀ (v0 : Nat) (v1 : Int32) (v2 : Int32) (v3 : Int32) (v4 : Int32) (v5 : Int32), zG E K (zfR σ) (r6 v0 v1 v2 v3 v4 v5) σ 6 [some (.inr (.inl v0)), some (.inl v1), some (.inl v2), some (.inl v3), some (.inl v4), some (.inl v5), none, none] []) (v0 : Nat) (v1 : Int32) (v2 : Int32) (v3 : Int32) (v4 : Int32) (v5 : Int32) (v6 : Int32) (y0 : Int32) : zG E K (zfR σ) (sX8_sumOf_86 n σ r6 v0 v1 v2 v3 v4 v5 v6 y0) σ 86 [some (.inr (.inl v0)), some (.inl v1), some (.inl v2), some (.inl v3), some (.inl v4), some (.inl v5), some (.inl v6), none] [.inl y0] := by
  unfold sX8_sumOf_86
  refine z_run hk hX8_sumOf_0 50 3 (pc' := 92) (lv' := [some (.inr (.inl v0)), some (.inl v1), some (.inl v2), some (.inl v3), some (.inl v4), some (.inl v5), some (.inl v6), some (.inl y0)]) (st' := [.inl y0, .inl v4]) rfl ?_
  refine z_eq hk (z_row hX8_sumOf_0 53 rfl) (tgt := 107) rfl ?_ ?_
  · refine z_run hk hX8_sumOf_1 1 1 (pc' := 108) (lv' := [some (.inr (.inl v0)), some (.inl v1), some (.inl v2), some (.inl v3), some (.inl v4), some (.inl v5), some (.inl v6), some (.inl y0)]) (st' := [.inl 0, .inl v4]) rfl ?_
    refine z_mask [true, true, true, true, false, true, false, false] rfl ?_
    exact gsX8_sumOf_108 F n σ hk he r6 hr6 v0 v1 v2 v3 v5 v4 0
  · refine z_run hk hX8_sumOf_0 54 1 (pc' := 96) (lv' := [some (.inr (.inl v0)), some (.inl v1), some (.inl v2), some (.inl v3), some (.inl v4), some (.inl v5), some (.inl v6), some (.inl y0)]) (st' := [.inr (.inl v0), .inl v4]) rfl ?_
    refine z_gR hk 1 (z_row hX8_sumOf_0 55 rfl) (ci := 8) rfl rfl wd_1123 (fun x1 => ?_)
    refine z_run hk hX8_sumOf_0 56 3 (pc' := 103) (lv' := [some (.inr (.inl v0)), some (.inl v1), some (.inl v2), some (.inl v3), some (.inl v4), some (.inl v5), some (.inl v6), some (.inl y0)]) (st' := [.inl (v6 + 3), .inr (.inl x1), .inl v4]) rfl ?_
    refine z_aI hk (z_row hX8_sumOf_0 59 rfl) (fun x2 => ?_)
    refine z_goto hk (z_row hX8_sumOf_1 0 rfl) (tgt := 108) rfl ?_
    refine z_mask [true, true, true, true, false, true, false, false] rfl ?_
    exact gsX8_sumOf_108 F n σ hk he r6 hr6 v0 v1 v2 v3 v5 v4 x2
theorem gsX8_sumOf_81 (F : zFx E) (n : Nat) (σ : zW) (hk : zk E K "LotSalesModel" cX8_sumOf 8 1) (he : zend E K (some .int) "sumOf") (r6 : Nat → Int32 → Int32 → Int32 → Int32 → Int32 → Option (Int32)) (hr6 : ∀ (v0 : Nat) (v1 : Int32) (v2 : Int32) (v3 : Int32) (v4 : Int32) (v5 : Int32), zG E K (zfR σ) (r6 v0 v1 v2 v3 v4 v5) σ 6 [some (.inr (.inl v0)), some (.inl v1), some (.inl v2), some (.inl v3), some (.inl v4), some (.inl v5), none, none] []) (v0 : Nat) (v1 : Int32) (v2 : Int32) (v3 : Int32) (v4 : Int32) (v5 : Int32) (v6 : Int32) : zG E K (zfR σ) (sX8_sumOf_81 n σ r6 v0 v1 v2 v3 v4 v5 v6) σ 81 [some (.inr (.inl v0)), some (.inl v1), some (.inl v2), some (.inl v3), some (.inl v4), some (.inl v5), some (.inl v6), none] [] := by
  unfold sX8_sumOf_81
  refine z_run hk hX8_sumOf_0 47 1 (pc' := 82) (lv' := [some (.inr (.inl v0)), some (.inl v1), some (.inl v2), some (.inl v3), some (.inl v4), some (.inl v5), some (.inl v6), none]) (st' := [.inl 1]) rfl ?_
  refine z_goto hk (z_row hX8_sumOf_0 48 rfl) (tgt := 86) rfl ?_
  exact gsX8_sumOf_86 F n σ hk he r6 hr6 v0 v1 v2 v3 v4 v5 v6 1
theorem gsX8_sumOf_85 (F : zFx E) (n : Nat) (σ : zW) (hk : zk E K "LotSalesModel" cX8_sumOf 8 1) (he : zend E K (some .int) "sumOf") (r6 : Nat → Int32 → Int32 → Int32 → Int32 → Int32 → Option (Int32)) (hr6 : ∀ (v0 : Nat) (v1 : Int32) (v2 : Int32) (v3 : Int32) (v4 : Int32) (v5 : Int32), zG E K (zfR σ) (r6 v0 v1 v2 v3 v4 v5) σ 6 [some (.inr (.inl v0)), some (.inl v1), some (.inl v2), some (.inl v3), some (.inl v4), some (.inl v5), none, none] []) (v0 : Nat) (v1 : Int32) (v2 : Int32) (v3 : Int32) (v4 : Int32) (v5 : Int32) (v6 : Int32) : zG E K (zfR σ) (sX8_sumOf_85 n σ r6 v0 v1 v2 v3 v4 v5 v6) σ 85 [some (.inr (.inl v0)), some (.inl v1), some (.inl v2), some (.inl v3), some (.inl v4), some (.inl v5), some (.inl v6), none] [] := by
  unfold sX8_sumOf_85
  refine z_run hk hX8_sumOf_0 49 1 (pc' := 86) (lv' := [some (.inr (.inl v0)), some (.inl v1), some (.inl v2), some (.inl v3), some (.inl v4), some (.inl v5), some (.inl v6), none]) (st' := [.inl 0]) rfl ?_
  exact gsX8_sumOf_86 F n σ hk he r6 hr6 v0 v1 v2 v3 v4 v5 v6 0
theorem gsX8_sumOf_58 (F : zFx E) (n : Nat) (σ : zW) (hk : zk E K "LotSalesModel" cX8_sumOf 8 1) (he : zend E K (some .int) "sumOf") (r6 : Nat → Int32 → Int32 → Int32 → Int32 → Int32 → Option (Int32)) (hr6 : ∀ (v0 : Nat) (v1 : Int32) (v2 : Int32) (v3 : Int32) (v4 : Int32) (v5 : Int32), zG E K (zfR σ) (r6 v0 v1 v2 v3 v4 v5) σ 6 [some (.inr (.inl v0)), some (.inl v1), some (.inl v2), some (.inl v3), some (.inl v4), some (.inl v5), none, none] []) (v0 : Nat) (v1 : Int32) (v2 : Int32) (v3 : Int32) (v4 : Int32) (v5 : Int32) (v6 : Int32) : zG E K (zfR σ) (sX8_sumOf_58 n σ r6 v0 v1 v2 v3 v4 v5 v6) σ 58 [some (.inr (.inl v0)), some (.inl v1), some (.inl v2), some (.inl v3), some (.inl v4), some (.inl v5), some (.inl v6), none] [] := by
  unfold sX8_sumOf_58
  refine z_run hk hX8_sumOf_0 33 2 (pc' := 60) (lv' := [some (.inr (.inl v0)), some (.inl v1), some (.inl v2), some (.inl v3), some (.inl v4), some (.inl v5), some (.inl v6), none]) (st' := [.inl (-1), .inl v3]) rfl ?_
  refine z_ceq hk (z_row hX8_sumOf_0 35 rfl) (tgt := 81) rfl ?_ ?_
  · exact gsX8_sumOf_81 F n σ hk he r6 hr6 v0 v1 v2 v3 v4 v5 v6
  · refine z_run hk hX8_sumOf_0 36 2 (pc' := 65) (lv' := [some (.inr (.inl v0)), some (.inl v1), some (.inl v2), some (.inl v3), some (.inl v4), some (.inl v5), some (.inl v6), none]) (st' := [.inr (.inl v0), .inr (.inl v0)]) rfl ?_
    refine z_gR hk 1 (z_row hX8_sumOf_0 38 rfl) (ci := 8) rfl rfl wd_1123 (fun x3 => ?_)
    refine z_run hk hX8_sumOf_0 39 3 (pc' := 72) (lv' := [some (.inr (.inl v0)), some (.inl v1), some (.inl v2), some (.inl v3), some (.inl v4), some (.inl v5), some (.inl v6), none]) (st' := [.inl (v6 + 1), .inr (.inl x3), .inr (.inl v0)]) rfl ?_
    refine z_aI hk (z_row hX8_sumOf_0 42 rfl) (fun x4 => ?_)
    refine z_run hk hX8_sumOf_0 43 1 (pc' := 74) (lv' := [some (.inr (.inl v0)), some (.inl v1), some (.inl v2), some (.inl v3), some (.inl v4), some (.inl v5), some (.inl v6), none]) (st' := [.inl 0, .inl x4, .inr (.inl v0)]) rfl ?_
    refine kX8_at F hk (z_row hX8_sumOf_0 44 rfl) wd_1213 (by decide) (Nat.le_of_ble_eq_true rfl) (fun x5 => ?_)
    refine z_run hk hX8_sumOf_0 45 1 (pc' := 78) (lv' := [some (.inr (.inl v0)), some (.inl v1), some (.inl v2), some (.inl v3), some (.inl v4), some (.inl v5), some (.inl v6), none]) (st' := [.inl v3, .inl x5]) rfl ?_
    refine z_cne hk (z_row hX8_sumOf_0 46 rfl) (tgt := 85) rfl ?_ ?_
    · exact gsX8_sumOf_85 F n σ hk he r6 hr6 v0 v1 v2 v3 v4 v5 v6
    · exact gsX8_sumOf_81 F n σ hk he r6 hr6 v0 v1 v2 v3 v4 v5 v6
theorem gsX8_sumOf_6 (F : zFx E) (n : Nat) (σ : zW) (hk : zk E K "LotSalesModel" cX8_sumOf 8 1) (he : zend E K (some .int) "sumOf") : ∀ (k : Nat) (v0 : Nat) (v1 : Int32) (v2 : Int32) (v3 : Int32) (v4 : Int32) (v5 : Int32), zG E K (zfR σ) (sX8_sumOf_6 n σ k v0 v1 v2 v3 v4 v5) σ 6 [some (.inr (.inl v0)), some (.inl v1), some (.inl v2), some (.inl v3), some (.inl v4), some (.inl v5), none, none] [] := by
  intro k
  induction k with
  | zero =>
    intro v0 v1 v2 v3 v4 v5
    intro hX
    exact z_none hX
  | succ k ih =>
    intro v0 v1 v2 v3 v4 v5
    rw [sX8_sumOf_6]
    refine z_run hk hX8_sumOf_0 4 2 (pc' := 9) (lv' := [some (.inr (.inl v0)), some (.inl v1), some (.inl v2), some (.inl v3), some (.inl v4), some (.inl v5), none, none]) (st' := [.inr (.inl v0), .inl v5]) rfl ?_
    refine z_gR hk 1 (z_row hX8_sumOf_0 6 rfl) (ci := 8) rfl rfl wd_1123 (fun x6 => ?_)
    refine z_run hk hX8_sumOf_0 7 1 (pc' := 15) (lv' := [some (.inr (.inl v0)), some (.inl v1), some (.inl v2), some (.inl v3), some (.inl v4), some (.inl v5), none, none]) (st' := [.inl 991, .inr (.inl x6), .inl v5]) rfl ?_
    refine z_aI hk (z_row hX8_sumOf_0 8 rfl) (fun x7 => ?_)
    refine z_cge hk (z_row hX8_sumOf_0 9 rfl) (tgt := 117) rfl ?_ ?_
    · refine z_run hk hX8_sumOf_1 6 1 (pc' := 119) (lv' := [some (.inr (.inl v0)), some (.inl v1), some (.inl v2), some (.inl v3), some (.inl v4), some (.inl v5), none, none]) (st' := [.inl v4]) rfl ?_
      exact z_iret hk he (z_row hX8_sumOf_1 7 rfl) rfl
    · refine z_run hk hX8_sumOf_0 10 7 (pc' := 30) (lv' := [some (.inr (.inl v0)), some (.inl v1), some (.inl v2), some (.inl v3), some (.inl v4), some (.inl v5), some (.inl (992 + (4 * v5))), none]) (st' := [.inr (.inl v0)]) rfl ?_
      refine z_gR hk 1 (z_row hX8_sumOf_0 17 rfl) (ci := 8) rfl rfl wd_1123 (fun x8 => ?_)
      refine z_run hk hX8_sumOf_0 18 1 (pc' := 35) (lv' := [some (.inr (.inl v0)), some (.inl v1), some (.inl v2), some (.inl v3), some (.inl v4), some (.inl v5), some (.inl (992 + (4 * v5))), none]) (st' := [.inl (992 + (4 * v5)), .inr (.inl x8)]) rfl ?_
      refine z_aI hk (z_row hX8_sumOf_0 19 rfl) (fun x9 => ?_)
      refine z_run hk hX8_sumOf_0 20 1 (pc' := 37) (lv' := [some (.inr (.inl v0)), some (.inl v1), some (.inl v2), some (.inl v3), some (.inl v4), some (.inl v5), some (.inl (992 + (4 * v5))), none]) (st' := [.inl v1, .inl x9]) rfl ?_
      refine z_cne hk (z_row hX8_sumOf_0 21 rfl) (tgt := 85) rfl ?_ ?_
      · exact gsX8_sumOf_85 F n σ hk he (sX8_sumOf_6 n σ k) ih v0 v1 v2 v3 v4 v5 (992 + (4 * v5))
      · refine z_run hk hX8_sumOf_0 22 2 (pc' := 42) (lv' := [some (.inr (.inl v0)), some (.inl v1), some (.inl v2), some (.inl v3), some (.inl v4), some (.inl v5), some (.inl (992 + (4 * v5))), none]) (st' := [.inl (-1), .inl v2]) rfl ?_
        refine z_ceq hk (z_row hX8_sumOf_0 24 rfl) (tgt := 58) rfl ?_ ?_
        · exact gsX8_sumOf_58 F n σ hk he (sX8_sumOf_6 n σ k) ih v0 v1 v2 v3 v4 v5 (992 + (4 * v5))
        · refine z_run hk hX8_sumOf_0 25 1 (pc' := 46) (lv' := [some (.inr (.inl v0)), some (.inl v1), some (.inl v2), some (.inl v3), some (.inl v4), some (.inl v5), some (.inl (992 + (4 * v5))), none]) (st' := [.inr (.inl v0)]) rfl ?_
          refine z_gR hk 1 (z_row hX8_sumOf_0 26 rfl) (ci := 8) rfl rfl wd_1123 (fun x10 => ?_)
          refine z_run hk hX8_sumOf_0 27 3 (pc' := 53) (lv' := [some (.inr (.inl v0)), some (.inl v1), some (.inl v2), some (.inl v3), some (.inl v4), some (.inl v5), some (.inl (992 + (4 * v5))), none]) (st' := [.inl ((992 + (4 * v5)) + 2), .inr (.inl x10)]) rfl ?_
          refine z_aI hk (z_row hX8_sumOf_0 30 rfl) (fun x11 => ?_)
          refine z_run hk hX8_sumOf_0 31 1 (pc' := 55) (lv' := [some (.inr (.inl v0)), some (.inl v1), some (.inl v2), some (.inl v3), some (.inl v4), some (.inl v5), some (.inl (992 + (4 * v5))), none]) (st' := [.inl v2, .inl x11]) rfl ?_
          refine z_cne hk (z_row hX8_sumOf_0 32 rfl) (tgt := 85) rfl ?_ ?_
          · exact gsX8_sumOf_85 F n σ hk he (sX8_sumOf_6 n σ k) ih v0 v1 v2 v3 v4 v5 (992 + (4 * v5))
          · exact gsX8_sumOf_58 F n σ hk he (sX8_sumOf_6 n σ k) ih v0 v1 v2 v3 v4 v5 (992 + (4 * v5))
theorem mX8_sumOf (F : zFx E) (n : Nat) (a0 : Nat) (a1 : Int32) (a2 : Int32) (a3 : Int32) (σ : zW) (o : Int32) (hf : fX8_sumOf n a0 a1 a2 a3 σ = some o) : zM E qX8_sumOf cX8_sumOf 8 (some .int) 1 [.inr (.inl a0), .inl a1, .inl a2, .inl a3] σ (some (.int o)) σ := by
  refine zM_of (fin := (zfR σ)) F (by decide +kernel) rfl (Nat.le_of_ble_eq_true rfl) (lv0 := [some (.inr (.inl a0)), some (.inl a1), some (.inl a2), some (.inl a3), none, none, none, none]) rfl hf rfl (fun K hk he => ?_)
  have hk : zk E K "LotSalesModel" cX8_sumOf 8 1 := hk
  unfold fX8_sumOf
  refine z_run hk hX8_sumOf_0 0 4 (pc' := 6) (lv' := [some (.inr (.inl a0)), some (.inl a1), some (.inl a2), some (.inl a3), some (.inl 0), some (.inl 0), none, none]) (st' := []) rfl ?_
  exact gsX8_sumOf_6 F n σ hk he n a0 a1 a2 a3 0 0
theorem kX8_sumOf {n : Nat} {own : String} {cc : ByteArray} {nL h index : Nat} {α : Type} {fin : α → zO} {σ : zW} {pc : Nat} {lv : zLV} {st : List zV} {a0 : Nat} {a1 : Int32} {a2 : Int32} {a3 : Int32} {c : Int32 → Option α} (F : zFx E) (hk : zk E K own cc nL h) (hd : decode cc pc = .ok (.invokevirtual index, 3)) (hl : Cond.methodLink own index qX8_sumOf ∈ lw_tbl) (hh : 1 + 1 ≤ h) (hs : zcat st ≤ 8) (k : ∀ v, zG E K fin (c v) σ (pc + 3) lv (.inl v :: st)) : zG E K fin (zck σ 9 a0 (zb (fX8_sumOf n a0 a1 a2 a3 σ) c)) σ pc lv (.inl a3 :: .inl a2 :: .inl a1 :: .inr (.inl a0) :: st) :=
  z_vR (n := 3) (y := qX8_sumOf) (As := [.inl a1, .inl a2, .inl a3]) hk hd hl wd_1487 ws_52 wd_10 wd_1488 ⟨by decide, by decide, by decide +kernel⟩ ⟨hh, by decide⟩ (ci := 8) rfl rfl rfl (fun o ho => mX8_sumOf F n a0 a1 a2 a3 σ o ho) hs k
end
