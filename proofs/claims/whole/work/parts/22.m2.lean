section
variable {E : zE} {K : zC}

abbrev qX4_reasonBelowReserve : MethodName := { cls := "LotSales$Standing", name := "reasonBelowReserve", desc := "()I" }
def sX4_reasonBelowReserve_24 (n : Nat) (σ : zW) (y0 : Int32) : Option (Int32) := some y0
def fX4_reasonBelowReserve (n : Nat) (a0 : Nat) (σ : zW) : Option (Int32) := zgI σ 5 a0 3 fun x1 => if x1 = (-1) then some 1 else zgI σ 5 a0 3 fun x2 => if x2 = 10 then sX4_reasonBelowReserve_24 n σ 2 else sX4_reasonBelowReserve_24 n σ 3
theorem gsX4_reasonBelowReserve_24 (F : zFx E) (n : Nat) (σ : zW) (hk : zk E K "LotSales$Standing" cX4_reasonBelowReserve 1 0) (he : zend E K (some .int) "reasonBelowReserve") (y0 : Int32) : zG E K (zfR σ) (sX4_reasonBelowReserve_24 n σ y0) σ 24 [none] [.inl y0] := by
  unfold sX4_reasonBelowReserve_24
  exact z_iret hk he (z_row hX4_reasonBelowReserve_0 13 rfl) rfl
theorem mX4_reasonBelowReserve (F : zFx E) (n : Nat) (a0 : Nat) (σ : zW) (o : Int32) (hf : fX4_reasonBelowReserve n a0 σ = some o) : zM E qX4_reasonBelowReserve cX4_reasonBelowReserve 1 (some .int) 0 [.inr (.inl a0)] σ (some (.int o)) σ := by
  refine zM_of (fin := (zfR σ)) F (by decide +kernel) rfl (Nat.le_of_ble_eq_true rfl) (lv0 := [some (.inr (.inl a0))]) rfl hf rfl (fun K hk he => ?_)
  have hk : zk E K "LotSales$Standing" cX4_reasonBelowReserve 1 0 := hk
  unfold fX4_reasonBelowReserve
  refine z_run hk hX4_reasonBelowReserve_0 0 1 (pc' := 1) (lv' := [some (.inr (.inl a0))]) (st' := [.inr (.inl a0)]) rfl ?_
  refine z_gI hk 3 (z_row hX4_reasonBelowReserve_0 1 rfl) (ci := 4) rfl rfl wd_200 (fun x1 => ?_)
  refine z_run hk hX4_reasonBelowReserve_0 2 1 (pc' := 5) (lv' := [some (.inr (.inl a0))]) (st' := [.inl (-1), .inl x1]) rfl ?_
  refine z_cne hk (z_row hX4_reasonBelowReserve_0 3 rfl) (tgt := 10) rfl ?_ ?_
  · refine z_run hk hX4_reasonBelowReserve_0 6 1 (pc' := 11) (lv' := [some (.inr (.inl a0))]) (st' := [.inr (.inl a0)]) rfl ?_
    refine z_gI hk 3 (z_row hX4_reasonBelowReserve_0 7 rfl) (ci := 4) rfl rfl wd_200 (fun x2 => ?_)
    refine z_run hk hX4_reasonBelowReserve_0 8 1 (pc' := 16) (lv' := [some (.inr (.inl a0))]) (st' := [.inl 10, .inl x2]) rfl ?_
    refine z_cne hk (z_row hX4_reasonBelowReserve_0 9 rfl) (tgt := 23) rfl ?_ ?_
    · refine z_run hk hX4_reasonBelowReserve_0 12 1 (pc' := 24) (lv' := [some (.inr (.inl a0))]) (st' := [.inl 3]) rfl ?_
      refine z_mask [false] rfl ?_
      exact gsX4_reasonBelowReserve_24 F n σ hk he 3
    · refine z_run hk hX4_reasonBelowReserve_0 10 1 (pc' := 20) (lv' := [some (.inr (.inl a0))]) (st' := [.inl 2]) rfl ?_
      refine z_goto hk (z_row hX4_reasonBelowReserve_0 11 rfl) (tgt := 24) rfl ?_
      refine z_mask [false] rfl ?_
      exact gsX4_reasonBelowReserve_24 F n σ hk he 2
  · refine z_run hk hX4_reasonBelowReserve_0 4 1 (pc' := 9) (lv' := [some (.inr (.inl a0))]) (st' := [.inl 1]) rfl ?_
    exact z_iret hk he (z_row hX4_reasonBelowReserve_0 5 rfl) rfl
theorem kX4_reasonBelowReserve {n : Nat} {own : String} {cc : ByteArray} {nL h index : Nat} {α : Type} {fin : α → zO} {σ : zW} {pc : Nat} {lv : zLV} {st : List zV} {a0 : Nat} {c : Int32 → Option α} (F : zFx E) (hk : zk E K own cc nL h) (hd : decode cc pc = .ok (.invokevirtual index, 3)) (hl : Cond.methodLink own index qX4_reasonBelowReserve ∈ lw_tbl) (hh : 0 + 1 ≤ h) (hs : zcat st ≤ 8) (k : ∀ v, zG E K fin (c v) σ (pc + 3) lv (.inl v :: st)) : zG E K fin (zck σ 5 a0 (zb (fX4_reasonBelowReserve n a0 σ) c)) σ pc lv (.inr (.inl a0) :: st) :=
  z_vR (n := 0) (y := qX4_reasonBelowReserve) (As := []) hk hd hl wd_842 wd_843 wd_7 wd_844 ⟨by decide, by decide, by decide +kernel⟩ ⟨hh, by decide⟩ (ci := 4) rfl rfl rfl (fun o ho => mX4_reasonBelowReserve F n a0 σ o ho) hs k
abbrev qX4_counting : MethodName := { cls := "LotSales$Standing", name := "counting", desc := "()I" }
def sX4_counting_22 (n : Nat) (σ : zW) (r4 : Nat → Int32 → Int32 → Option (Int32)) (v0 : Nat) (v1 : Int32) (v2 : Int32) : Option (Int32) := r4 v0 v1 (v2 + 1)
def sX4_counting_4 (n : Nat) (σ : zW) : Nat → Nat → Int32 → Int32 → Option (Int32)
  | 0, _, _, _ => none
  | k + 1, v0, v1, v2 => if v2 < 10 then zgR σ 5 v0 0 fun x1 => zaI σ x1 v2 fun x2 => if 0 < x2 then sX4_counting_22 n σ (sX4_counting_4 n σ k) v0 (v1 + 1) v2 else sX4_counting_22 n σ (sX4_counting_4 n σ k) v0 v1 v2 else some v1
def fX4_counting (n : Nat) (a0 : Nat) (σ : zW) : Option (Int32) := sX4_counting_4 n σ n a0 0 0
theorem gsX4_counting_22 (F : zFx E) (n : Nat) (σ : zW) (hk : zk E K "LotSales$Standing" cX4_counting 3 0) (he : zend E K (some .int) "counting") (r4 : Nat → Int32 → Int32 → Option (Int32)) (hr4 : ∀ (v0 : Nat) (v1 : Int32) (v2 : Int32), zG E K (zfR σ) (r4 v0 v1 v2) σ 4 [some (.inr (.inl v0)), some (.inl v1), some (.inl v2)] []) (v0 : Nat) (v1 : Int32) (v2 : Int32) : zG E K (zfR σ) (sX4_counting_22 n σ r4 v0 v1 v2) σ 22 [some (.inr (.inl v0)), some (.inl v1), some (.inl v2)] [] := by
  unfold sX4_counting_22
  refine z_run hk hX4_counting_0 13 1 (pc' := 25) (lv' := [some (.inr (.inl v0)), some (.inl v1), some (.inl (v2 + 1))]) (st' := []) rfl ?_
  refine z_goto hk (z_row hX4_counting_0 14 rfl) (tgt := 4) rfl ?_
  exact hr4 v0 v1 (v2 + 1)
theorem gsX4_counting_4 (F : zFx E) (n : Nat) (σ : zW) (hk : zk E K "LotSales$Standing" cX4_counting 3 0) (he : zend E K (some .int) "counting") : ∀ (k : Nat) (v0 : Nat) (v1 : Int32) (v2 : Int32), zG E K (zfR σ) (sX4_counting_4 n σ k v0 v1 v2) σ 4 [some (.inr (.inl v0)), some (.inl v1), some (.inl v2)] [] := by
  intro k
  induction k with
  | zero =>
    intro v0 v1 v2
    intro hX
    exact z_none hX
  | succ k ih =>
    intro v0 v1 v2
    rw [sX4_counting_4]
    refine z_run hk hX4_counting_0 4 2 (pc' := 7) (lv' := [some (.inr (.inl v0)), some (.inl v1), some (.inl v2)]) (st' := [.inl 10, .inl v2]) rfl ?_
    refine z_cge hk (z_row hX4_counting_0 6 rfl) (tgt := 28) rfl ?_ ?_
    · refine z_run hk hX4_counting_0 15 1 (pc' := 29) (lv' := [some (.inr (.inl v0)), some (.inl v1), some (.inl v2)]) (st' := [.inl v1]) rfl ?_
      exact z_iret hk he (z_row hX4_counting_0 16 rfl) rfl
    · refine z_run hk hX4_counting_0 7 1 (pc' := 11) (lv' := [some (.inr (.inl v0)), some (.inl v1), some (.inl v2)]) (st' := [.inr (.inl v0)]) rfl ?_
      refine z_gR hk 0 (z_row hX4_counting_0 8 rfl) (ci := 4) rfl rfl wd_195 (fun x1 => ?_)
      refine z_run hk hX4_counting_0 9 1 (pc' := 15) (lv' := [some (.inr (.inl v0)), some (.inl v1), some (.inl v2)]) (st' := [.inl v2, .inr (.inl x1)]) rfl ?_
      refine z_aI hk (z_row hX4_counting_0 10 rfl) (fun x2 => ?_)
      refine z_le hk (z_row hX4_counting_0 11 rfl) (tgt := 22) rfl ?_ ?_
      · exact gsX4_counting_22 F n σ hk he (sX4_counting_4 n σ k) ih v0 v1 v2
      · refine z_run hk hX4_counting_0 12 1 (pc' := 22) (lv' := [some (.inr (.inl v0)), some (.inl (v1 + 1)), some (.inl v2)]) (st' := []) rfl ?_
        exact gsX4_counting_22 F n σ hk he (sX4_counting_4 n σ k) ih v0 (v1 + 1) v2
theorem mX4_counting (F : zFx E) (n : Nat) (a0 : Nat) (σ : zW) (o : Int32) (hf : fX4_counting n a0 σ = some o) : zM E qX4_counting cX4_counting 3 (some .int) 0 [.inr (.inl a0)] σ (some (.int o)) σ := by
  refine zM_of (fin := (zfR σ)) F (by decide +kernel) rfl (Nat.le_of_ble_eq_true rfl) (lv0 := [some (.inr (.inl a0)), none, none]) rfl hf rfl (fun K hk he => ?_)
  have hk : zk E K "LotSales$Standing" cX4_counting 3 0 := hk
  unfold fX4_counting
  refine z_run hk hX4_counting_0 0 4 (pc' := 4) (lv' := [some (.inr (.inl a0)), some (.inl 0), some (.inl 0)]) (st' := []) rfl ?_
  exact gsX4_counting_4 F n σ hk he n a0 0 0
theorem kX4_counting {n : Nat} {own : String} {cc : ByteArray} {nL h index : Nat} {α : Type} {fin : α → zO} {σ : zW} {pc : Nat} {lv : zLV} {st : List zV} {a0 : Nat} {c : Int32 → Option α} (F : zFx E) (hk : zk E K own cc nL h) (hd : decode cc pc = .ok (.invokevirtual index, 3)) (hl : Cond.methodLink own index qX4_counting ∈ lw_tbl) (hh : 0 + 1 ≤ h) (hs : zcat st ≤ 8) (k : ∀ v, zG E K fin (c v) σ (pc + 3) lv (.inl v :: st)) : zG E K fin (zck σ 5 a0 (zb (fX4_counting n a0 σ) c)) σ pc lv (.inr (.inl a0) :: st) :=
  z_vR (n := 0) (y := qX4_counting) (As := []) hk hd hl wd_791 wd_792 wd_7 wd_793 ⟨by decide, by decide, by decide +kernel⟩ ⟨hh, by decide⟩ (ci := 4) rfl rfl rfl (fun o ho => mX4_counting F n a0 σ o ho) hs k
abbrev qX4_aheadOf : MethodName := { cls := "LotSales$Standing", name := "aheadOf", desc := "(I)I" }
def sX4_aheadOf_36 (n : Nat) (σ : zW) (r4 : Nat → Int32 → Int32 → Int32 → Option (Int32)) (v0 : Nat) (v1 : Int32) (v2 : Int32) (v3 : Int32) : Option (Int32) := r4 v0 v1 v2 (v3 + 1)
def sX4_aheadOf_4 (n : Nat) (σ : zW) : Nat → Nat → Int32 → Int32 → Int32 → Option (Int32)
  | 0, _, _, _, _ => none
  | k + 1, v0, v1, v2, v3 => if v3 < 10 then if v3 = v1 then sX4_aheadOf_36 n σ (sX4_aheadOf_4 n σ k) v0 v1 v2 v3 else zgR σ 5 v0 0 fun x1 => zaI σ x1 v3 fun x2 => if 0 < x2 then zck σ 5 v0 (zb (fX4_isAhead n v0 v3 v1 σ) fun x3 => if x3 = 0 then sX4_aheadOf_36 n σ (sX4_aheadOf_4 n σ k) v0 v1 v2 v3 else sX4_aheadOf_36 n σ (sX4_aheadOf_4 n σ k) v0 v1 (v2 + 1) v3) else sX4_aheadOf_36 n σ (sX4_aheadOf_4 n σ k) v0 v1 v2 v3 else some v2
def fX4_aheadOf (n : Nat) (a0 : Nat) (a1 : Int32) (σ : zW) : Option (Int32) := sX4_aheadOf_4 n σ n a0 a1 0 0
theorem gsX4_aheadOf_36 (F : zFx E) (n : Nat) (σ : zW) (hk : zk E K "LotSales$Standing" cX4_aheadOf 4 1) (he : zend E K (some .int) "aheadOf") (r4 : Nat → Int32 → Int32 → Int32 → Option (Int32)) (hr4 : ∀ (v0 : Nat) (v1 : Int32) (v2 : Int32) (v3 : Int32), zG E K (zfR σ) (r4 v0 v1 v2 v3) σ 4 [some (.inr (.inl v0)), some (.inl v1), some (.inl v2), some (.inl v3)] []) (v0 : Nat) (v1 : Int32) (v2 : Int32) (v3 : Int32) : zG E K (zfR σ) (sX4_aheadOf_36 n σ r4 v0 v1 v2 v3) σ 36 [some (.inr (.inl v0)), some (.inl v1), some (.inl v2), some (.inl v3)] [] := by
  unfold sX4_aheadOf_36
  refine z_run hk hX4_aheadOf_0 21 1 (pc' := 39) (lv' := [some (.inr (.inl v0)), some (.inl v1), some (.inl v2), some (.inl (v3 + 1))]) (st' := []) rfl ?_
  refine z_goto hk (z_row hX4_aheadOf_0 22 rfl) (tgt := 4) rfl ?_
  exact hr4 v0 v1 v2 (v3 + 1)
theorem gsX4_aheadOf_4 (F : zFx E) (n : Nat) (σ : zW) (hk : zk E K "LotSales$Standing" cX4_aheadOf 4 1) (he : zend E K (some .int) "aheadOf") : ∀ (k : Nat) (v0 : Nat) (v1 : Int32) (v2 : Int32) (v3 : Int32), zG E K (zfR σ) (sX4_aheadOf_4 n σ k v0 v1 v2 v3) σ 4 [some (.inr (.inl v0)), some (.inl v1), some (.inl v2), some (.inl v3)] [] := by
  intro k
  induction k with
  | zero =>
    intro v0 v1 v2 v3
    intro hX
    exact z_none hX
  | succ k ih =>
    intro v0 v1 v2 v3
    rw [sX4_aheadOf_4]
    refine z_run hk hX4_aheadOf_0 4 2 (pc' := 7) (lv' := [some (.inr (.inl v0)), some (.inl v1), some (.inl v2), some (.inl v3)]) (st' := [.inl 10, .inl v3]) rfl ?_
    refine z_cge hk (z_row hX4_aheadOf_0 6 rfl) (tgt := 42) rfl ?_ ?_
    · refine z_run hk hX4_aheadOf_0 23 1 (pc' := 43) (lv' := [some (.inr (.inl v0)), some (.inl v1), some (.inl v2), some (.inl v3)]) (st' := [.inl v2]) rfl ?_
      exact z_iret hk he (z_row hX4_aheadOf_0 24 rfl) rfl
    · refine z_run hk hX4_aheadOf_0 7 2 (pc' := 12) (lv' := [some (.inr (.inl v0)), some (.inl v1), some (.inl v2), some (.inl v3)]) (st' := [.inl v1, .inl v3]) rfl ?_
      refine z_ceq hk (z_row hX4_aheadOf_0 9 rfl) (tgt := 36) rfl ?_ ?_
      · exact gsX4_aheadOf_36 F n σ hk he (sX4_aheadOf_4 n σ k) ih v0 v1 v2 v3
      · refine z_run hk hX4_aheadOf_0 10 1 (pc' := 16) (lv' := [some (.inr (.inl v0)), some (.inl v1), some (.inl v2), some (.inl v3)]) (st' := [.inr (.inl v0)]) rfl ?_
        refine z_gR hk 0 (z_row hX4_aheadOf_0 11 rfl) (ci := 4) rfl rfl wd_195 (fun x1 => ?_)
        refine z_run hk hX4_aheadOf_0 12 1 (pc' := 20) (lv' := [some (.inr (.inl v0)), some (.inl v1), some (.inl v2), some (.inl v3)]) (st' := [.inl v3, .inr (.inl x1)]) rfl ?_
        refine z_aI hk (z_row hX4_aheadOf_0 13 rfl) (fun x2 => ?_)
        refine z_le hk (z_row hX4_aheadOf_0 14 rfl) (tgt := 36) rfl ?_ ?_
        · exact gsX4_aheadOf_36 F n σ hk he (sX4_aheadOf_4 n σ k) ih v0 v1 v2 v3
        · refine z_run hk hX4_aheadOf_0 15 3 (pc' := 27) (lv' := [some (.inr (.inl v0)), some (.inl v1), some (.inl v2), some (.inl v3)]) (st' := [.inl v1, .inl v3, .inr (.inl v0)]) rfl ?_
          refine kX4_isAhead F hk (z_row hX4_aheadOf_0 18 rfl) wd_727 (by decide) (Nat.le_of_ble_eq_true rfl) (fun x3 => ?_)
          refine z_eq hk (z_row hX4_aheadOf_0 19 rfl) (tgt := 36) rfl ?_ ?_
          · exact gsX4_aheadOf_36 F n σ hk he (sX4_aheadOf_4 n σ k) ih v0 v1 v2 v3
          · refine z_run hk hX4_aheadOf_0 20 1 (pc' := 36) (lv' := [some (.inr (.inl v0)), some (.inl v1), some (.inl (v2 + 1)), some (.inl v3)]) (st' := []) rfl ?_
            exact gsX4_aheadOf_36 F n σ hk he (sX4_aheadOf_4 n σ k) ih v0 v1 (v2 + 1) v3
theorem mX4_aheadOf (F : zFx E) (n : Nat) (a0 : Nat) (a1 : Int32) (σ : zW) (o : Int32) (hf : fX4_aheadOf n a0 a1 σ = some o) : zM E qX4_aheadOf cX4_aheadOf 4 (some .int) 1 [.inr (.inl a0), .inl a1] σ (some (.int o)) σ := by
  refine zM_of (fin := (zfR σ)) F (by decide +kernel) rfl (Nat.le_of_ble_eq_true rfl) (lv0 := [some (.inr (.inl a0)), some (.inl a1), none, none]) rfl hf rfl (fun K hk he => ?_)
  have hk : zk E K "LotSales$Standing" cX4_aheadOf 4 1 := hk
  unfold fX4_aheadOf
  refine z_run hk hX4_aheadOf_0 0 4 (pc' := 4) (lv' := [some (.inr (.inl a0)), some (.inl a1), some (.inl 0), some (.inl 0)]) (st' := []) rfl ?_
  exact gsX4_aheadOf_4 F n σ hk he n a0 a1 0 0
theorem kX4_aheadOf {n : Nat} {own : String} {cc : ByteArray} {nL h index : Nat} {α : Type} {fin : α → zO} {σ : zW} {pc : Nat} {lv : zLV} {st : List zV} {a0 : Nat} {a1 : Int32} {c : Int32 → Option α} (F : zFx E) (hk : zk E K own cc nL h) (hd : decode cc pc = .ok (.invokevirtual index, 3)) (hl : Cond.methodLink own index qX4_aheadOf ∈ lw_tbl) (hh : 1 + 1 ≤ h) (hs : zcat st ≤ 8) (k : ∀ v, zG E K fin (c v) σ (pc + 3) lv (.inl v :: st)) : zG E K fin (zck σ 5 a0 (zb (fX4_aheadOf n a0 a1 σ) c)) σ pc lv (.inl a1 :: .inr (.inl a0) :: st) :=
  z_vR (n := 1) (y := qX4_aheadOf) (As := [.inl a1]) hk hd hl wd_806 wd_807 wd_7 wd_808 ⟨by decide, by decide, by decide +kernel⟩ ⟨hh, by decide⟩ (ci := 4) rfl rfl rfl (fun o ho => mX4_aheadOf F n a0 a1 σ o ho) hs k
abbrev qX4_bidderAt : MethodName := { cls := "LotSales$Standing", name := "bidderAt", desc := "(I)I" }
def sX4_bidderAt_28 (n : Nat) (σ : zW) (r2 : Nat → Int32 → Int32 → Option (Int32)) (v0 : Nat) (v1 : Int32) (v2 : Int32) : Option (Int32) := r2 v0 v1 (v2 + 1)
def sX4_bidderAt_2 (n : Nat) (σ : zW) : Nat → Nat → Int32 → Int32 → Option (Int32)
  | 0, _, _, _ => none
  | k + 1, v0, v1, v2 => if v2 < 10 then zgR σ 5 v0 0 fun x1 => zaI σ x1 v2 fun x2 => if 0 < x2 then zck σ 5 v0 (zb (fX4_aheadOf n v0 v2 σ) fun x3 => if x3 = v1 then some v2 else sX4_bidderAt_28 n σ (sX4_bidderAt_2 n σ k) v0 v1 v2) else sX4_bidderAt_28 n σ (sX4_bidderAt_2 n σ k) v0 v1 v2 else some (-1)
def fX4_bidderAt (n : Nat) (a0 : Nat) (a1 : Int32) (σ : zW) : Option (Int32) := sX4_bidderAt_2 n σ n a0 a1 0
theorem gsX4_bidderAt_28 (F : zFx E) (n : Nat) (σ : zW) (hk : zk E K "LotSales$Standing" cX4_bidderAt 3 2) (he : zend E K (some .int) "bidderAt") (r2 : Nat → Int32 → Int32 → Option (Int32)) (hr2 : ∀ (v0 : Nat) (v1 : Int32) (v2 : Int32), zG E K (zfR σ) (r2 v0 v1 v2) σ 2 [some (.inr (.inl v0)), some (.inl v1), some (.inl v2)] []) (v0 : Nat) (v1 : Int32) (v2 : Int32) : zG E K (zfR σ) (sX4_bidderAt_28 n σ r2 v0 v1 v2) σ 28 [some (.inr (.inl v0)), some (.inl v1), some (.inl v2)] [] := by
  unfold sX4_bidderAt_28
  refine z_run hk hX4_bidderAt_0 17 1 (pc' := 31) (lv' := [some (.inr (.inl v0)), some (.inl v1), some (.inl (v2 + 1))]) (st' := []) rfl ?_
  refine z_goto hk (z_row hX4_bidderAt_0 18 rfl) (tgt := 2) rfl ?_
  exact hr2 v0 v1 (v2 + 1)
theorem gsX4_bidderAt_2 (F : zFx E) (n : Nat) (σ : zW) (hk : zk E K "LotSales$Standing" cX4_bidderAt 3 2) (he : zend E K (some .int) "bidderAt") : ∀ (k : Nat) (v0 : Nat) (v1 : Int32) (v2 : Int32), zG E K (zfR σ) (sX4_bidderAt_2 n σ k v0 v1 v2) σ 2 [some (.inr (.inl v0)), some (.inl v1), some (.inl v2)] [] := by
  intro k
  induction k with
  | zero =>
    intro v0 v1 v2
    intro hX
    exact z_none hX
  | succ k ih =>
    intro v0 v1 v2
    rw [sX4_bidderAt_2]
    refine z_run hk hX4_bidderAt_0 2 2 (pc' := 5) (lv' := [some (.inr (.inl v0)), some (.inl v1), some (.inl v2)]) (st' := [.inl 10, .inl v2]) rfl ?_
    refine z_cge hk (z_row hX4_bidderAt_0 4 rfl) (tgt := 34) rfl ?_ ?_
    · refine z_run hk hX4_bidderAt_0 19 1 (pc' := 35) (lv' := [some (.inr (.inl v0)), some (.inl v1), some (.inl v2)]) (st' := [.inl (-1)]) rfl ?_
      exact z_iret hk he (z_row hX4_bidderAt_0 20 rfl) rfl
    · refine z_run hk hX4_bidderAt_0 5 1 (pc' := 9) (lv' := [some (.inr (.inl v0)), some (.inl v1), some (.inl v2)]) (st' := [.inr (.inl v0)]) rfl ?_
      refine z_gR hk 0 (z_row hX4_bidderAt_0 6 rfl) (ci := 4) rfl rfl wd_195 (fun x1 => ?_)
      refine z_run hk hX4_bidderAt_0 7 1 (pc' := 13) (lv' := [some (.inr (.inl v0)), some (.inl v1), some (.inl v2)]) (st' := [.inl v2, .inr (.inl x1)]) rfl ?_
      refine z_aI hk (z_row hX4_bidderAt_0 8 rfl) (fun x2 => ?_)
      refine z_le hk (z_row hX4_bidderAt_0 9 rfl) (tgt := 28) rfl ?_ ?_
      · exact gsX4_bidderAt_28 F n σ hk he (sX4_bidderAt_2 n σ k) ih v0 v1 v2
      · refine z_run hk hX4_bidderAt_0 10 2 (pc' := 19) (lv' := [some (.inr (.inl v0)), some (.inl v1), some (.inl v2)]) (st' := [.inl v2, .inr (.inl v0)]) rfl ?_
        refine kX4_aheadOf F hk (z_row hX4_bidderAt_0 12 rfl) wd_805 (by decide) (Nat.le_of_ble_eq_true rfl) (fun x3 => ?_)
        refine z_run hk hX4_bidderAt_0 13 1 (pc' := 23) (lv' := [some (.inr (.inl v0)), some (.inl v1), some (.inl v2)]) (st' := [.inl v1, .inl x3]) rfl ?_
        refine z_cne hk (z_row hX4_bidderAt_0 14 rfl) (tgt := 28) rfl ?_ ?_
        · exact gsX4_bidderAt_28 F n σ hk he (sX4_bidderAt_2 n σ k) ih v0 v1 v2
        · refine z_run hk hX4_bidderAt_0 15 1 (pc' := 27) (lv' := [some (.inr (.inl v0)), some (.inl v1), some (.inl v2)]) (st' := [.inl v2]) rfl ?_
          exact z_iret hk he (z_row hX4_bidderAt_0 16 rfl) rfl
theorem mX4_bidderAt (F : zFx E) (n : Nat) (a0 : Nat) (a1 : Int32) (σ : zW) (o : Int32) (hf : fX4_bidderAt n a0 a1 σ = some o) : zM E qX4_bidderAt cX4_bidderAt 3 (some .int) 2 [.inr (.inl a0), .inl a1] σ (some (.int o)) σ := by
  refine zM_of (fin := (zfR σ)) F (by decide +kernel) rfl (Nat.le_of_ble_eq_true rfl) (lv0 := [some (.inr (.inl a0)), some (.inl a1), none]) rfl hf rfl (fun K hk he => ?_)
  have hk : zk E K "LotSales$Standing" cX4_bidderAt 3 2 := hk
  unfold fX4_bidderAt
  refine z_run hk hX4_bidderAt_0 0 2 (pc' := 2) (lv' := [some (.inr (.inl a0)), some (.inl a1), some (.inl 0)]) (st' := []) rfl ?_
  exact gsX4_bidderAt_2 F n σ hk he n a0 a1 0
theorem kX4_bidderAt {n : Nat} {own : String} {cc : ByteArray} {nL h index : Nat} {α : Type} {fin : α → zO} {σ : zW} {pc : Nat} {lv : zLV} {st : List zV} {a0 : Nat} {a1 : Int32} {c : Int32 → Option α} (F : zFx E) (hk : zk E K own cc nL h) (hd : decode cc pc = .ok (.invokevirtual index, 3)) (hl : Cond.methodLink own index qX4_bidderAt ∈ lw_tbl) (hh : 2 + 1 ≤ h) (hs : zcat st ≤ 8) (k : ∀ v, zG E K fin (c v) σ (pc + 3) lv (.inl v :: st)) : zG E K fin (zck σ 5 a0 (zb (fX4_bidderAt n a0 a1 σ) c)) σ pc lv (.inl a1 :: .inr (.inl a0) :: st) :=
  z_vR (n := 1) (y := qX4_bidderAt) (As := [.inl a1]) hk hd hl wd_802 wd_803 wd_7 wd_804 ⟨by decide, by decide, by decide +kernel⟩ ⟨hh, by decide⟩ (ci := 4) rfl rfl rfl (fun o ho => mX4_bidderAt F n a0 a1 σ o ho) hs k
abbrev qX5_canFollow : MethodName := { cls := "LotSales$Table", name := "canFollow", desc := "(II)Z" }
def sX5_canFollow_33 (n : Nat) (σ : zW) (y0 : Int32) : Option (Int32) := if y0 = 0 ∨ y0 = 1 then some y0 else none
def fX5_canFollow (n : Nat) (a0 : Nat) (a1 : Int32) (a2 : Int32) (σ : zW) : Option (Int32) := if a1 = 0 then if a2 = 0 then sX5_canFollow_33 n σ 1 else sX5_canFollow_33 n σ 0 else zgR σ 6 a0 0 fun x1 => zaI σ x1 (a1 - 1) fun x2 => if x2 < a2 then sX5_canFollow_33 n σ 1 else sX5_canFollow_33 n σ 0
theorem gsX5_canFollow_33 (F : zFx E) (n : Nat) (σ : zW) (hk : zk E K "LotSales$Table" cX5_canFollow 3 0) (he : zend E K (some .boolean) "canFollow") (y0 : Int32) : zG E K (zfR σ) (sX5_canFollow_33 n σ y0) σ 33 [none, none, none] [.inl y0] := by
  unfold sX5_canFollow_33
  exact z_zret (fin := (zfR σ)) (o := y0) hk he (z_row hX5_canFollow_0 19 rfl) rfl
theorem mX5_canFollow (F : zFx E) (n : Nat) (a0 : Nat) (a1 : Int32) (a2 : Int32) (σ : zW) (o : Int32) (hf : fX5_canFollow n a0 a1 a2 σ = some o) : zM E qX5_canFollow cX5_canFollow 3 (some .boolean) 0 [.inr (.inl a0), .inl a1, .inl a2] σ (some (.int o)) σ := by
  refine zM_of (fin := (zfR σ)) F (by decide +kernel) rfl (Nat.le_of_ble_eq_true rfl) (lv0 := [some (.inr (.inl a0)), some (.inl a1), some (.inl a2)]) rfl hf rfl (fun K hk he => ?_)
  have hk : zk E K "LotSales$Table" cX5_canFollow 3 0 := hk
  unfold fX5_canFollow
  refine z_run hk hX5_canFollow_0 0 1 (pc' := 1) (lv' := [some (.inr (.inl a0)), some (.inl a1), some (.inl a2)]) (st' := [.inl a1]) rfl ?_
  refine z_ne hk (z_row hX5_canFollow_0 1 rfl) (tgt := 16) rfl ?_ ?_
  · refine z_run hk hX5_canFollow_0 8 2 (pc' := 18) (lv' := [some (.inr (.inl a0)), some (.inl a1), some (.inl a2)]) (st' := [.inr (.inl a0), .inl a2]) rfl ?_
    refine z_gR hk 0 (z_row hX5_canFollow_0 10 rfl) (ci := 5) rfl rfl wd_50 (fun x1 => ?_)
    refine z_run hk hX5_canFollow_0 11 3 (pc' := 24) (lv' := [some (.inr (.inl a0)), some (.inl a1), some (.inl a2)]) (st' := [.inl (a1 - 1), .inr (.inl x1), .inl a2]) rfl ?_
    refine z_aI hk (z_row hX5_canFollow_0 14 rfl) (fun x2 => ?_)
    refine z_cle hk (z_row hX5_canFollow_0 15 rfl) (tgt := 32) rfl ?_ ?_
    · refine z_run hk hX5_canFollow_0 18 1 (pc' := 33) (lv' := [some (.inr (.inl a0)), some (.inl a1), some (.inl a2)]) (st' := [.inl 0]) rfl ?_
      refine z_mask [false, false, false] rfl ?_
      exact gsX5_canFollow_33 F n σ hk he 0
    · refine z_run hk hX5_canFollow_0 16 1 (pc' := 29) (lv' := [some (.inr (.inl a0)), some (.inl a1), some (.inl a2)]) (st' := [.inl 1]) rfl ?_
      refine z_goto hk (z_row hX5_canFollow_0 17 rfl) (tgt := 33) rfl ?_
      refine z_mask [false, false, false] rfl ?_
      exact gsX5_canFollow_33 F n σ hk he 1
  · refine z_run hk hX5_canFollow_0 2 1 (pc' := 5) (lv' := [some (.inr (.inl a0)), some (.inl a1), some (.inl a2)]) (st' := [.inl a2]) rfl ?_
    refine z_ne hk (z_row hX5_canFollow_0 3 rfl) (tgt := 12) rfl ?_ ?_
    · refine z_run hk hX5_canFollow_0 6 1 (pc' := 13) (lv' := [some (.inr (.inl a0)), some (.inl a1), some (.inl a2)]) (st' := [.inl 0]) rfl ?_
      refine z_goto hk (z_row hX5_canFollow_0 7 rfl) (tgt := 33) rfl ?_
      refine z_mask [false, false, false] rfl ?_
      exact gsX5_canFollow_33 F n σ hk he 0
    · refine z_run hk hX5_canFollow_0 4 1 (pc' := 9) (lv' := [some (.inr (.inl a0)), some (.inl a1), some (.inl a2)]) (st' := [.inl 1]) rfl ?_
      refine z_goto hk (z_row hX5_canFollow_0 5 rfl) (tgt := 33) rfl ?_
      refine z_mask [false, false, false] rfl ?_
      exact gsX5_canFollow_33 F n σ hk he 1
theorem kX5_canFollow {n : Nat} {own : String} {cc : ByteArray} {nL h index : Nat} {α : Type} {fin : α → zO} {σ : zW} {pc : Nat} {lv : zLV} {st : List zV} {a0 : Nat} {a1 : Int32} {a2 : Int32} {c : Int32 → Option α} (F : zFx E) (hk : zk E K own cc nL h) (hd : decode cc pc = .ok (.invokevirtual index, 3)) (hl : Cond.methodLink own index qX5_canFollow ∈ lw_tbl) (hh : 0 + 1 ≤ h) (hs : zcat st ≤ 8) (k : ∀ v, zG E K fin (c v) σ (pc + 3) lv (.inl v :: st)) : zG E K fin (zck σ 6 a0 (zb (fX5_canFollow n a0 a1 a2 σ) c)) σ pc lv (.inl a2 :: .inl a1 :: .inr (.inl a0) :: st) :=
  z_vR (n := 2) (y := qX5_canFollow) (As := [.inl a1, .inl a2]) hk hd hl wd_548 wd_549 wd_3 wd_550 ⟨by decide, by decide, by decide +kernel⟩ ⟨hh, by decide⟩ (ci := 5) rfl rfl rfl (fun o ho => mX5_canFollow F n a0 a1 a2 σ o ho) hs k
abbrev qX5_putLast : MethodName := { cls := "LotSales$Table", name := "putLast", desc := "(III)V" }
def fX5_putLast (n : Nat) (a0 : Nat) (a1 : Int32) (a2 : Int32) (a3 : Int32) (σ : zW) : Option (zW) := zgR σ 6 a0 0 fun x1 => zsI σ x1 a1 a2 fun σ2 => zgR σ2 6 a0 1 fun x3 => zsI σ2 x3 a1 a3 fun σ4 => zpI σ4 6 a0 2 (a1 + 1) fun σ5 => some σ5
theorem mX5_putLast (F : zFx E) (n : Nat) (a0 : Nat) (a1 : Int32) (a2 : Int32) (a3 : Int32) (σ : zW) (o : zW) (hf : fX5_putLast n a0 a1 a2 a3 σ = some o) : zM E qX5_putLast cX5_putLast 4 none 0 [.inr (.inl a0), .inl a1, .inl a2, .inl a3] σ none o := by
  refine zM_of (fin := zfV) F (by decide +kernel) rfl (Nat.le_of_ble_eq_true rfl) (lv0 := [some (.inr (.inl a0)), some (.inl a1), some (.inl a2), some (.inl a3)]) rfl hf rfl (fun K hk he => ?_)
  have hk : zk E K "LotSales$Table" cX5_putLast 4 0 := hk
  unfold fX5_putLast
  refine z_run hk hX5_putLast_0 0 1 (pc' := 1) (lv' := [some (.inr (.inl a0)), some (.inl a1), some (.inl a2), some (.inl a3)]) (st' := [.inr (.inl a0)]) rfl ?_
  refine z_gR hk 0 (z_row hX5_putLast_0 1 rfl) (ci := 5) rfl rfl wd_50 (fun x1 => ?_)
  refine z_run hk hX5_putLast_0 2 2 (pc' := 6) (lv' := [some (.inr (.inl a0)), some (.inl a1), some (.inl a2), some (.inl a3)]) (st' := [.inl a2, .inl a1, .inr (.inl x1)]) rfl ?_
  refine z_sI hk (z_row hX5_putLast_0 4 rfl) (fun σ2 => ?_)
  refine z_run hk hX5_putLast_0 5 1 (pc' := 8) (lv' := [some (.inr (.inl a0)), some (.inl a1), some (.inl a2), some (.inl a3)]) (st' := [.inr (.inl a0)]) rfl ?_
  refine z_gR hk 1 (z_row hX5_putLast_0 6 rfl) (ci := 5) rfl rfl wd_52 (fun x3 => ?_)
  refine z_run hk hX5_putLast_0 7 2 (pc' := 13) (lv' := [some (.inr (.inl a0)), some (.inl a1), some (.inl a2), some (.inl a3)]) (st' := [.inl a3, .inl a1, .inr (.inl x3)]) rfl ?_
  refine z_sI hk (z_row hX5_putLast_0 9 rfl) (fun σ4 => ?_)
  refine z_run hk hX5_putLast_0 10 4 (pc' := 18) (lv' := [some (.inr (.inl a0)), some (.inl a1), some (.inl a2), some (.inl a3)]) (st' := [.inl (a1 + 1), .inr (.inl a0)]) rfl ?_
  refine z_pI hk 2 (z_row hX5_putLast_0 14 rfl) (ci := 5) rfl rfl wd_54 rfl rfl rfl (fun σ5 => ?_)
  exact z_vret hk he (z_row hX5_putLast_0 15 rfl) rfl
theorem kX5_putLast {n : Nat} {own : String} {cc : ByteArray} {nL h index : Nat} {α : Type} {fin : α → zO} {σ : zW} {pc : Nat} {lv : zLV} {st : List zV} {a0 : Nat} {a1 : Int32} {a2 : Int32} {a3 : Int32} {c : zW → Option α} (F : zFx E) (hk : zk E K own cc nL h) (hd : decode cc pc = .ok (.invokevirtual index, 3)) (hl : Cond.methodLink own index qX5_putLast ∈ lw_tbl) (hh : 0 + 1 ≤ h) (hs : zcat st ≤ 8) (k : ∀ s, zG E K fin (c s) s (pc + 3) lv st) : zG E K fin (zck σ 6 a0 (zb (fX5_putLast n a0 a1 a2 a3 σ) c)) σ pc lv (.inl a3 :: .inl a2 :: .inl a1 :: .inr (.inl a0) :: st) :=
  z_vV (n := 3) (y := qX5_putLast) (As := [.inl a1, .inl a2, .inl a3]) hk hd hl wd_554 wd_555 wd_3 wd_556 ⟨by decide, by decide, by decide +kernel⟩ ⟨hh, by decide⟩ (ci := 5) rfl rfl rfl (fun o ho => mX5_putLast F n a0 a1 a2 a3 σ o ho) hs k
abbrev qX5_isStep : MethodName := { cls := "LotSales$Table", name := "isStep", desc := "(I)Z" }
def sX5_isStep_18 (n : Nat) (σ : zW) (y0 : Int32) : Option (Int32) := if y0 = 0 ∨ y0 = 1 then some y0 else none
def sX5_isStep_17 (n : Nat) (σ : zW) : Option (Int32) := sX5_isStep_18 n σ 0
def fX5_isStep (n : Nat) (a0 : Nat) (a1 : Int32) (σ : zW) : Option (Int32) := if 0 < a1 then zck σ 6 a0 (zb (fX5_stepAt n a0 a1 σ) fun x1 => if x1 = a1 then sX5_isStep_18 n σ 1 else sX5_isStep_17 n σ) else sX5_isStep_17 n σ
theorem gsX5_isStep_18 (F : zFx E) (n : Nat) (σ : zW) (hk : zk E K "LotSales$Table" cX5_isStep 2 2) (he : zend E K (some .boolean) "isStep") (y0 : Int32) : zG E K (zfR σ) (sX5_isStep_18 n σ y0) σ 18 [none, none] [.inl y0] := by
  unfold sX5_isStep_18
  exact z_zret (fin := (zfR σ)) (o := y0) hk he (z_row hX5_isStep_0 10 rfl) rfl
theorem gsX5_isStep_17 (F : zFx E) (n : Nat) (σ : zW) (hk : zk E K "LotSales$Table" cX5_isStep 2 2) (he : zend E K (some .boolean) "isStep") : zG E K (zfR σ) (sX5_isStep_17 n σ) σ 17 [none, none] [] := by
  unfold sX5_isStep_17
  refine z_run hk hX5_isStep_0 9 1 (pc' := 18) (lv' := [none, none]) (st' := [.inl 0]) rfl ?_
  exact gsX5_isStep_18 F n σ hk he 0
theorem mX5_isStep (F : zFx E) (n : Nat) (a0 : Nat) (a1 : Int32) (σ : zW) (o : Int32) (hf : fX5_isStep n a0 a1 σ = some o) : zM E qX5_isStep cX5_isStep 2 (some .boolean) 2 [.inr (.inl a0), .inl a1] σ (some (.int o)) σ := by
  refine zM_of (fin := (zfR σ)) F (by decide +kernel) rfl (Nat.le_of_ble_eq_true rfl) (lv0 := [some (.inr (.inl a0)), some (.inl a1)]) rfl hf rfl (fun K hk he => ?_)
  have hk : zk E K "LotSales$Table" cX5_isStep 2 2 := hk
  unfold fX5_isStep
  refine z_run hk hX5_isStep_0 0 1 (pc' := 1) (lv' := [some (.inr (.inl a0)), some (.inl a1)]) (st' := [.inl a1]) rfl ?_
  refine z_le hk (z_row hX5_isStep_0 1 rfl) (tgt := 17) rfl ?_ ?_
  · refine z_mask [false, false] rfl ?_
    exact gsX5_isStep_17 F n σ hk he
  · refine z_run hk hX5_isStep_0 2 2 (pc' := 6) (lv' := [some (.inr (.inl a0)), some (.inl a1)]) (st' := [.inl a1, .inr (.inl a0)]) rfl ?_
    refine kX5_stepAt F hk (z_row hX5_isStep_0 4 rfl) wd_591 (by decide) (Nat.le_of_ble_eq_true rfl) (fun x1 => ?_)
    refine z_run hk hX5_isStep_0 5 1 (pc' := 10) (lv' := [some (.inr (.inl a0)), some (.inl a1)]) (st' := [.inl a1, .inl x1]) rfl ?_
    refine z_cne hk (z_row hX5_isStep_0 6 rfl) (tgt := 17) rfl ?_ ?_
    · refine z_mask [false, false] rfl ?_
      exact gsX5_isStep_17 F n σ hk he
    · refine z_run hk hX5_isStep_0 7 1 (pc' := 14) (lv' := [some (.inr (.inl a0)), some (.inl a1)]) (st' := [.inl 1]) rfl ?_
      refine z_goto hk (z_row hX5_isStep_0 8 rfl) (tgt := 18) rfl ?_
      refine z_mask [false, false] rfl ?_
      exact gsX5_isStep_18 F n σ hk he 1
theorem kX5_isStep {n : Nat} {own : String} {cc : ByteArray} {nL h index : Nat} {α : Type} {fin : α → zO} {σ : zW} {pc : Nat} {lv : zLV} {st : List zV} {a0 : Nat} {a1 : Int32} {c : Int32 → Option α} (F : zFx E) (hk : zk E K own cc nL h) (hd : decode cc pc = .ok (.invokevirtual index, 3)) (hl : Cond.methodLink own index qX5_isStep ∈ lw_tbl) (hh : 2 + 1 ≤ h) (hs : zcat st ≤ 8) (k : ∀ v, zG E K fin (c v) σ (pc + 3) lv (.inl v :: st)) : zG E K fin (zck σ 6 a0 (zb (fX5_isStep n a0 a1 σ) c)) σ pc lv (.inl a1 :: .inr (.inl a0) :: st) :=
  z_vR (n := 1) (y := qX5_isStep) (As := [.inl a1]) hk hd hl wd_752 wd_753 wd_3 wd_754 ⟨by decide, by decide, by decide +kernel⟩ ⟨hh, by decide⟩ (ci := 5) rfl rfl rfl (fun o ho => mX5_isStep F n a0 a1 σ o ho) hs k
abbrev qX6_init : MethodName := { cls := "LotSales$Text", name := "<init>", desc := "()V" }
def fX6_init (n : Nat) (a0 : Nat) (σ : zW) : Option (zW) := if a0 = 0 then none else znA σ 22 60 fun q1 σ2 => zpR σ2 7 a0 0 q1 fun σ3 => znA σ3 20 3 fun q4 σ5 => zpR σ5 7 a0 1 q4 fun σ6 => some σ6
theorem mX6_init (F : zFx E) (n : Nat) (a0 : Nat) (σ : zW) (o : zW) (hf : fX6_init n a0 σ = some o) : zM E qX6_init cX6_init 1 none 1 [.inr (.inl a0)] σ none o := by
  refine zM_of (fin := zfV) F (by decide +kernel) rfl (Nat.le_of_ble_eq_true rfl) (lv0 := [some (.inr (.inl a0))]) rfl hf rfl (fun K hk he => ?_)
  have hk : zk E K "LotSales$Text" cX6_init 1 1 := hk
  unfold fX6_init
  refine z_run hk hX6_init_0 0 1 (pc' := 1) (lv' := [some (.inr (.inl a0))]) (st' := [.inr (.inl a0)]) rfl ?_
  refine z_oinit0 hk (z_row hX6_init_0 1 rfl) wd_243 wd_29 wd_30 (by decide) (Nat.le_of_ble_eq_true rfl) ?_
  refine z_run hk hX6_init_0 2 2 (pc' := 7) (lv' := [some (.inr (.inl a0))]) (st' := [.inl 60, .inr (.inl a0)]) rfl ?_
  refine z_newa hk (κ := 22) (tn := 1) (z_row hX6_init_0 4 rfl) wd_267 rfl rfl (by decide) (by decide) (zhent_c E) (fun q1 σ2 => ?_)
  refine z_pR hk 0 (z_row hX6_init_0 5 rfl) (ci := 6) rfl rfl wd_244 (fun _ => ⟨he.2.1, rfl⟩) (fun _ => ⟨rfl, rfl, rfl, rfl⟩) (fun σ3 => ?_)
  refine z_run hk hX6_init_0 6 2 (pc' := 14) (lv' := [some (.inr (.inl a0))]) (st' := [.inl 3, .inr (.inl a0)]) rfl ?_
  refine z_newa hk (κ := 20) (tn := 0) (z_row hX6_init_0 8 rfl) wd_63 rfl rfl (by decide) (by decide) (zhent_i E) (fun q4 σ5 => ?_)
  refine z_pR hk 1 (z_row hX6_init_0 9 rfl) (ci := 6) rfl rfl wd_245 (fun _ => ⟨he.2.1, rfl⟩) (fun _ => ⟨rfl, rfl, rfl, rfl⟩) (fun σ6 => ?_)
  exact z_vret hk he (z_row hX6_init_0 10 rfl) rfl
theorem kX6_init_n {n : Nat} {own : String} {cc : ByteArray} {nL h index : Nat} {α : Type} {fin : α → zO} {σ : zW} {pc : Nat} {lv : zLV} {st : List zV} {a0 : Nat} {c : zW → Option α} (F : zFx E) (hk : zk E K own cc nL h) (hd : decode cc pc = .ok (.invokespecial index, 3)) (hl : Cond.methodLinkNest own index qX6_init "LotSales" ∈ lw_tbl) (hh : 1 + 1 ≤ h) (hs : zcat st ≤ 8) (k : ∀ s, zG E K fin (c s) s (pc + 3) lv st) : zG E K fin (if a0 = 0 then none else (zb (fX6_init n a0 σ) c)) σ pc lv (.inr (.inl a0) :: st) :=
  z_inV (n := 0) (y := qX6_init) (As := []) hk hd hl wd_241 wd_9 wd_242 rfl ⟨by decide, by decide, by decide +kernel⟩ ⟨hh, by decide⟩ rfl (fun o ho => mX6_init F n a0 σ o ho) hs k
abbrev qX6_add : MethodName := { cls := "LotSales$Text", name := "add", desc := "(C)V" }
def sX6_add_29 (n : Nat) (σ : zW) : Option (zW) := some σ
def fX6_add (n : Nat) (a0 : Nat) (a1 : Int32) (σ : zW) : Option (zW) := zgI σ 7 a0 2 fun x1 => if x1 < 60 then zgR σ 7 a0 0 fun x2 => zgI σ 7 a0 2 fun x3 => zsC σ x2 x3 a1 fun σ4 => zgI σ4 7 a0 2 fun x5 => zpI σ4 7 a0 2 (x5 + 1) fun σ6 => sX6_add_29 n σ6 else sX6_add_29 n σ
theorem gsX6_add_29 (F : zFx E) (n : Nat) (hk : zk E K "LotSales$Text" cX6_add 2 0) (he : zend E K none "add") (σ : zW) : zG E K zfV (sX6_add_29 n σ) σ 29 [none, none] [] := by
  unfold sX6_add_29
  exact z_vret hk he (z_row hX6_add_0 16 rfl) rfl
theorem mX6_add (F : zFx E) (n : Nat) (a0 : Nat) (a1 : Int32) (σ : zW) (o : zW) (hf : fX6_add n a0 a1 σ = some o) : zM E qX6_add cX6_add 2 none 0 [.inr (.inl a0), .inl a1] σ none o := by
  refine zM_of (fin := zfV) F (by decide +kernel) rfl (Nat.le_of_ble_eq_true rfl) (lv0 := [some (.inr (.inl a0)), some (.inl a1)]) rfl hf rfl (fun K hk he => ?_)
  have hk : zk E K "LotSales$Text" cX6_add 2 0 := hk
  unfold fX6_add
  refine z_run hk hX6_add_0 0 1 (pc' := 1) (lv' := [some (.inr (.inl a0)), some (.inl a1)]) (st' := [.inr (.inl a0)]) rfl ?_
  refine z_gI hk 2 (z_row hX6_add_0 1 rfl) (ci := 6) rfl rfl wd_247 (fun x1 => ?_)
  refine z_run hk hX6_add_0 2 1 (pc' := 6) (lv' := [some (.inr (.inl a0)), some (.inl a1)]) (st' := [.inl 60, .inl x1]) rfl ?_
  refine z_cge hk (z_row hX6_add_0 3 rfl) (tgt := 29) rfl ?_ ?_
  · refine z_mask [false, false] rfl ?_
    exact gsX6_add_29 F n hk he σ
  · refine z_run hk hX6_add_0 4 1 (pc' := 10) (lv' := [some (.inr (.inl a0)), some (.inl a1)]) (st' := [.inr (.inl a0)]) rfl ?_
    refine z_gR hk 0 (z_row hX6_add_0 5 rfl) (ci := 6) rfl rfl wd_244 (fun x2 => ?_)
    refine z_run hk hX6_add_0 6 1 (pc' := 14) (lv' := [some (.inr (.inl a0)), some (.inl a1)]) (st' := [.inr (.inl a0), .inr (.inl x2)]) rfl ?_
    refine z_gI hk 2 (z_row hX6_add_0 7 rfl) (ci := 6) rfl rfl wd_247 (fun x3 => ?_)
    refine z_run hk hX6_add_0 8 1 (pc' := 18) (lv' := [some (.inr (.inl a0)), some (.inl a1)]) (st' := [.inl a1, .inl x3, .inr (.inl x2)]) rfl ?_
    refine z_sC hk (z_row hX6_add_0 9 rfl) (fun σ4 => ?_)
    refine z_run hk hX6_add_0 10 2 (pc' := 21) (lv' := [some (.inr (.inl a0)), some (.inl a1)]) (st' := [.inr (.inl a0), .inr (.inl a0)]) rfl ?_
    refine z_gI hk 2 (z_row hX6_add_0 12 rfl) (ci := 6) rfl rfl wd_247 (fun x5 => ?_)
    refine z_run hk hX6_add_0 13 2 (pc' := 26) (lv' := [some (.inr (.inl a0)), some (.inl a1)]) (st' := [.inl (x5 + 1), .inr (.inl a0)]) rfl ?_
    refine z_pI hk 2 (z_row hX6_add_0 15 rfl) (ci := 6) rfl rfl wd_247 rfl rfl rfl (fun σ6 => ?_)
    refine z_mask [false, false] rfl ?_
    exact gsX6_add_29 F n hk he σ6
theorem kX6_add {n : Nat} {own : String} {cc : ByteArray} {nL h index : Nat} {α : Type} {fin : α → zO} {σ : zW} {pc : Nat} {lv : zLV} {st : List zV} {a0 : Nat} {a1 : Int32} {c : zW → Option α} (F : zFx E) (hk : zk E K own cc nL h) (hd : decode cc pc = .ok (.invokevirtual index, 3)) (hl : Cond.methodLink own index qX6_add ∈ lw_tbl) (hh : 0 + 1 ≤ h) (hs : zcat st ≤ 8) (k : ∀ s, zG E K fin (c s) s (pc + 3) lv st) : zG E K fin (zck σ 7 a0 (zb (fX6_add n a0 a1 σ) c)) σ pc lv (.inl a1 :: .inr (.inl a0) :: st) :=
  z_vV (n := 1) (y := qX6_add) (As := [.inl a1]) hk hd hl wd_1046 wd_1047 wd_9 wd_1048 ⟨by decide, by decide, by decide +kernel⟩ ⟨hh, by decide⟩ (ci := 6) rfl rfl rfl (fun o ho => mX6_add F n a0 a1 σ o ho) hs k
abbrev qX6_empty : MethodName := { cls := "LotSales$Text", name := "empty", desc := "()V" }
def fX6_empty (n : Nat) (a0 : Nat) (σ : zW) : Option (zW) := zpI σ 7 a0 2 0 fun σ1 => some σ1
theorem mX6_empty (F : zFx E) (n : Nat) (a0 : Nat) (σ : zW) (o : zW) (hf : fX6_empty n a0 σ = some o) : zM E qX6_empty cX6_empty 1 none 0 [.inr (.inl a0)] σ none o := by
  refine zM_of (fin := zfV) F (by decide +kernel) rfl (Nat.le_of_ble_eq_true rfl) (lv0 := [some (.inr (.inl a0))]) rfl hf rfl (fun K hk he => ?_)
  have hk : zk E K "LotSales$Text" cX6_empty 1 0 := hk
  unfold fX6_empty
  refine z_run hk hX6_empty_0 0 2 (pc' := 2) (lv' := [some (.inr (.inl a0))]) (st' := [.inl 0, .inr (.inl a0)]) rfl ?_
  refine z_pI hk 2 (z_row hX6_empty_0 2 rfl) (ci := 6) rfl rfl wd_247 rfl rfl rfl (fun σ1 => ?_)
  exact z_vret hk he (z_row hX6_empty_0 3 rfl) rfl
theorem kX6_empty {n : Nat} {own : String} {cc : ByteArray} {nL h index : Nat} {α : Type} {fin : α → zO} {σ : zW} {pc : Nat} {lv : zLV} {st : List zV} {a0 : Nat} {c : zW → Option α} (F : zFx E) (hk : zk E K own cc nL h) (hd : decode cc pc = .ok (.invokevirtual index, 3)) (hl : Cond.methodLink own index qX6_empty ∈ lw_tbl) (hh : 0 + 1 ≤ h) (hs : zcat st ≤ 8) (k : ∀ s, zG E K fin (c s) s (pc + 3) lv st) : zG E K fin (zck σ 7 a0 (zb (fX6_empty n a0 σ) c)) σ pc lv (.inr (.inl a0) :: st) :=
  z_vV (n := 0) (y := qX6_empty) (As := []) hk hd hl wd_1076 wd_1077 wd_9 wd_1078 ⟨by decide, by decide, by decide +kernel⟩ ⟨hh, by decide⟩ (ci := 6) rfl rfl rfl (fun o ho => mX6_empty F n a0 σ o ho) hs k
abbrev qX6_numbersBehind : MethodName := { cls := "LotSales$Text", name := "numbersBehind", desc := "(C)I" }
def sX6_numbersBehind_60 (n : Nat) (σ : zW) : Option (Int32) := some 1
def sX6_numbersBehind_64 (n : Nat) (σ : zW) : Option (Int32) := some 3
def fX6_numbersBehind (n : Nat) (a0 : Int32) (σ : zW) : Option (Int32) := if a0 = 97 then sX6_numbersBehind_64 n σ else if a0 = 98 then sX6_numbersBehind_64 n σ else if a0 = 99 then some 2 else if a0 = 104 then sX6_numbersBehind_60 n σ else if a0 = 111 then sX6_numbersBehind_60 n σ else if a0 = 119 then sX6_numbersBehind_60 n σ else some 0
theorem gsX6_numbersBehind_60 (F : zFx E) (n : Nat) (σ : zW) (hk : zk E K "LotSales$Text" cX6_numbersBehind 1 0) (he : zend E K (some .int) "numbersBehind") : zG E K (zfR σ) (sX6_numbersBehind_60 n σ) σ 60 [none] [] := by
  unfold sX6_numbersBehind_60
  refine z_run hk hX6_numbersBehind_0 2 1 (pc' := 61) (lv' := [none]) (st' := [.inl 1]) rfl ?_
  exact z_iret hk he (z_row hX6_numbersBehind_0 3 rfl) rfl
theorem gsX6_numbersBehind_64 (F : zFx E) (n : Nat) (σ : zW) (hk : zk E K "LotSales$Text" cX6_numbersBehind 1 0) (he : zend E K (some .int) "numbersBehind") : zG E K (zfR σ) (sX6_numbersBehind_64 n σ) σ 64 [none] [] := by
  unfold sX6_numbersBehind_64
  refine z_run hk hX6_numbersBehind_0 6 1 (pc' := 65) (lv' := [none]) (st' := [.inl 3]) rfl ?_
  exact z_iret hk he (z_row hX6_numbersBehind_0 7 rfl) rfl
theorem mX6_numbersBehind (F : zFx E) (n : Nat) (a0 : Int32) (σ : zW) (o : Int32) (hf : fX6_numbersBehind n a0 σ = some o) : zM E qX6_numbersBehind cX6_numbersBehind 1 (some .int) 0 [.inl a0] σ (some (.int o)) σ := by
  refine zM_of (fin := (zfR σ)) F (by decide +kernel) rfl (Nat.le_of_ble_eq_true rfl) (lv0 := [some (.inl a0)]) rfl hf rfl (fun K hk he => ?_)
  have hk : zk E K "LotSales$Text" cX6_numbersBehind 1 0 := hk
  unfold fX6_numbersBehind
  refine z_run hk hX6_numbersBehind_0 0 1 (pc' := 1) (lv' := [some (.inl a0)]) (st' := [.inl a0]) rfl ?_
  refine z_lkI hk (z_row hX6_numbersBehind_0 1 rfl) (c := 97) (tgt := 64) (by decide) (by decide) ?_ (fun hn0 => ?_)
  · refine z_mask [false] rfl ?_
    exact gsX6_numbersBehind_64 F n σ hk he
  refine z_lkI hk (z_row hX6_numbersBehind_0 1 rfl) (c := 98) (tgt := 64) (by decide) (by decide) ?_ (fun hn1 => ?_)
  · refine z_mask [false] rfl ?_
    exact gsX6_numbersBehind_64 F n σ hk he
  refine z_lkI hk (z_row hX6_numbersBehind_0 1 rfl) (c := 99) (tgt := 62) (by decide) (by decide) ?_ (fun hn2 => ?_)
  · refine z_run hk hX6_numbersBehind_0 4 1 (pc' := 63) (lv' := [some (.inl a0)]) (st' := [.inl 2]) rfl ?_
    exact z_iret hk he (z_row hX6_numbersBehind_0 5 rfl) rfl
  refine z_lkI hk (z_row hX6_numbersBehind_0 1 rfl) (c := 104) (tgt := 60) (by decide) (by decide) ?_ (fun hn3 => ?_)
  · refine z_mask [false] rfl ?_
    exact gsX6_numbersBehind_60 F n σ hk he
  refine z_lkI hk (z_row hX6_numbersBehind_0 1 rfl) (c := 111) (tgt := 60) (by decide) (by decide) ?_ (fun hn4 => ?_)
  · refine z_mask [false] rfl ?_
    exact gsX6_numbersBehind_60 F n σ hk he
  refine z_lkI hk (z_row hX6_numbersBehind_0 1 rfl) (c := 119) (tgt := 60) (by decide) (by decide) ?_ (fun hn5 => ?_)
  · refine z_mask [false] rfl ?_
    exact gsX6_numbersBehind_60 F n σ hk he
  refine z_lkO hk (z_row hX6_numbersBehind_0 1 rfl) (tgt := 66) (by decide) (by rw [lv_osw hn0 (by decide), lv_osw hn1 (by decide), lv_osw hn2 (by decide), lv_osw hn3 (by decide), lv_osw hn4 (by decide), lv_osw hn5 (by decide), Op.lookupswitch.offset_nil]) rfl ?_
  refine z_run hk hX6_numbersBehind_0 8 1 (pc' := 67) (lv' := [some (.inl a0)]) (st' := [.inl 0]) rfl ?_
  exact z_iret hk he (z_row hX6_numbersBehind_0 9 rfl) rfl
theorem kX6_numbersBehind {n : Nat} {own : String} {cc : ByteArray} {nL h index : Nat} {α : Type} {fin : α → zO} {σ : zW} {pc : Nat} {lv : zLV} {st : List zV} {a0 : Int32} {c : Int32 → Option α} (F : zFx E) (hk : zk E K own cc nL h) (hd : decode cc pc = .ok (.invokestatic index, 3)) (hl : Cond.methodLink own index qX6_numbersBehind ∈ lw_tbl) (hh : 0 + 1 ≤ h) (hs : zcat st ≤ 8) (k : ∀ v, zG E K fin (c v) σ (pc + 3) lv (.inl v :: st)) : zG E K fin (zb (fX6_numbersBehind n a0 σ) c) σ pc lv (.inl a0 :: st) :=
  z_qR (n := 1) (y := qX6_numbersBehind) (As := [.inl a0]) hk hd hl wd_1065 wd_9 wd_1066 ⟨by decide, by decide, by decide +kernel⟩ ⟨hh, by decide⟩ rfl (fun o ho => mX6_numbersBehind F n a0 σ o ho) hs k
abbrev qX6_passes : MethodName := { cls := "LotSales$Text", name := "passes", desc := "(C)Z" }
def sX6_passes_24 (n : Nat) (σ : zW) : Option (Int32 × zW) := if 0 = 0 ∨ 0 = 1 then some (0, σ) else none
def fX6_passes (n : Nat) (a0 : Nat) (a1 : Int32) (σ : zW) : Option (Int32 × zW) := zgI σ 7 a0 3 fun x1 => zgI σ 7 a0 2 fun x2 => if x1 < x2 then zgR σ 7 a0 0 fun x3 => zgI σ 7 a0 3 fun x4 => zaC σ x3 x4 fun x5 => if x5 = a1 then zgI σ 7 a0 3 fun x6 => zpI σ 7 a0 3 (x6 + 1) fun σ7 => if 1 = 0 ∨ 1 = 1 then some (1, σ7) else none else sX6_passes_24 n σ else sX6_passes_24 n σ
theorem gsX6_passes_24 (F : zFx E) (n : Nat) (hk : zk E K "LotSales$Text" cX6_passes 2 0) (he : zend E K (some .boolean) "passes") (σ : zW) : zG E K zfW (sX6_passes_24 n σ) σ 24 [none, none] [] := by
  unfold sX6_passes_24
  refine z_run hk hX6_passes_0 12 1 (pc' := 25) (lv' := [none, none]) (st' := [.inl 0]) rfl ?_
  exact z_zret (fin := zfW) (o := (0, σ)) hk he (z_row hX6_passes_0 13 rfl) rfl
theorem mX6_passes (F : zFx E) (n : Nat) (a0 : Nat) (a1 : Int32) (σ : zW) (o : Int32 × zW) (hf : fX6_passes n a0 a1 σ = some o) : zM E qX6_passes cX6_passes 2 (some .boolean) 0 [.inr (.inl a0), .inl a1] σ (some (.int o.1)) o.2 := by
  refine zM_of (fin := zfW) F (by decide +kernel) rfl (Nat.le_of_ble_eq_true rfl) (lv0 := [some (.inr (.inl a0)), some (.inl a1)]) rfl hf rfl (fun K hk he => ?_)
  have hk : zk E K "LotSales$Text" cX6_passes 2 0 := hk
  unfold fX6_passes
  refine z_run hk hX6_passes_0 0 1 (pc' := 1) (lv' := [some (.inr (.inl a0)), some (.inl a1)]) (st' := [.inr (.inl a0)]) rfl ?_
  refine z_gI hk 3 (z_row hX6_passes_0 1 rfl) (ci := 6) rfl rfl wd_249 (fun x1 => ?_)
  refine z_run hk hX6_passes_0 2 1 (pc' := 5) (lv' := [some (.inr (.inl a0)), some (.inl a1)]) (st' := [.inr (.inl a0), .inl x1]) rfl ?_
  refine z_gI hk 2 (z_row hX6_passes_0 3 rfl) (ci := 6) rfl rfl wd_247 (fun x2 => ?_)
  refine z_cge hk (z_row hX6_passes_0 4 rfl) (tgt := 24) rfl ?_ ?_
  · refine z_mask [false, false] rfl ?_
    exact gsX6_passes_24 F n hk he σ
  · refine z_run hk hX6_passes_0 5 1 (pc' := 12) (lv' := [some (.inr (.inl a0)), some (.inl a1)]) (st' := [.inr (.inl a0)]) rfl ?_
    refine z_gR hk 0 (z_row hX6_passes_0 6 rfl) (ci := 6) rfl rfl wd_244 (fun x3 => ?_)
    refine z_run hk hX6_passes_0 7 1 (pc' := 16) (lv' := [some (.inr (.inl a0)), some (.inl a1)]) (st' := [.inr (.inl a0), .inr (.inl x3)]) rfl ?_
    refine z_gI hk 3 (z_row hX6_passes_0 8 rfl) (ci := 6) rfl rfl wd_249 (fun x4 => ?_)
    refine z_aC hk (z_row hX6_passes_0 9 rfl) (fun x5 => ?_)
    refine z_run hk hX6_passes_0 10 1 (pc' := 21) (lv' := [some (.inr (.inl a0)), some (.inl a1)]) (st' := [.inl a1, .inl x5]) rfl ?_
    refine z_ceq hk (z_row hX6_passes_0 11 rfl) (tgt := 26) rfl ?_ ?_
    · refine z_run hk hX6_passes_0 14 2 (pc' := 28) (lv' := [some (.inr (.inl a0)), some (.inl a1)]) (st' := [.inr (.inl a0), .inr (.inl a0)]) rfl ?_
      refine z_gI hk 3 (z_row hX6_passes_0 16 rfl) (ci := 6) rfl rfl wd_249 (fun x6 => ?_)
      refine z_run hk hX6_passes_0 17 2 (pc' := 33) (lv' := [some (.inr (.inl a0)), some (.inl a1)]) (st' := [.inl (x6 + 1), .inr (.inl a0)]) rfl ?_
      refine z_pI hk 3 (z_row hX6_passes_0 19 rfl) (ci := 6) rfl rfl wd_249 rfl rfl rfl (fun σ7 => ?_)
      refine z_run hk hX6_passes_0 20 1 (pc' := 37) (lv' := [some (.inr (.inl a0)), some (.inl a1)]) (st' := [.inl 1]) rfl ?_
      exact z_zret (fin := zfW) (o := (1, σ7)) hk he (z_row hX6_passes_0 21 rfl) rfl
    · refine z_mask [false, false] rfl ?_
      exact gsX6_passes_24 F n hk he σ
theorem kX6_passes {n : Nat} {own : String} {cc : ByteArray} {nL h index : Nat} {α : Type} {fin : α → zO} {σ : zW} {pc : Nat} {lv : zLV} {st : List zV} {a0 : Nat} {a1 : Int32} {c : Int32 → zW → Option α} (F : zFx E) (hk : zk E K own cc nL h) (hd : decode cc pc = .ok (.invokevirtual index, 3)) (hl : Cond.methodLink own index qX6_passes ∈ lw_tbl) (hh : 0 + 1 ≤ h) (hs : zcat st ≤ 8) (k : ∀ v s, zG E K fin (c v s) s (pc + 3) lv (.inl v :: st)) : zG E K fin (zck σ 7 a0 (zb2 (fX6_passes n a0 a1 σ) c)) σ pc lv (.inl a1 :: .inr (.inl a0) :: st) :=
  z_vW (n := 1) (y := qX6_passes) (As := [.inl a1]) hk hd hl wd_1068 wd_1069 wd_9 wd_1070 ⟨by decide, by decide, by decide +kernel⟩ ⟨hh, by decide⟩ (ci := 6) rfl rfl rfl (fun o ho => mX6_passes F n a0 a1 σ o ho) hs k
abbrev qX6_readNumber : MethodName := { cls := "LotSales$Text", name := "readNumber", desc := "(I)Z" }
def sX6_readNumber_98 (n : Nat) (y0 : Int32) (σ : zW) : Option (Int32 × zW) := if y0 = 0 ∨ y0 = 1 then some (y0, σ) else none
def sX6_readNumber_82 (n : Nat) (v0 : Nat) (v1 : Int32) (v2 : Int32) (v3 : Int32) (σ : zW) : Option (Int32 × zW) := zgR σ 7 v0 1 fun x1 => zsI σ x1 v1 v2 fun σ2 => if 0 < v3 then sX6_readNumber_98 n 1 σ2 else sX6_readNumber_98 n 0 σ2
def sX6_readNumber_4 (n : Nat) : Nat → Nat → Int32 → Int32 → Int32 → zW → Option (Int32 × zW)
  | 0, _, _, _, _, _ => none
  | k + 1, v0, v1, v2, v3, σ => if v3 < 5 then zgI σ 7 v0 3 fun x3 => zgI σ 7 v0 2 fun x4 => if x3 < x4 then zgR σ 7 v0 0 fun x5 => zgI σ 7 v0 3 fun x6 => zaC σ x5 x6 fun x7 => if x7 < 48 then sX6_readNumber_82 n v0 v1 v2 v3 σ else zgR σ 7 v0 0 fun x8 => zgI σ 7 v0 3 fun x9 => zaC σ x8 x9 fun x10 => if 57 < x10 then sX6_readNumber_82 n v0 v1 v2 v3 σ else zgR σ 7 v0 0 fun x11 => zgI σ 7 v0 3 fun x12 => zaC σ x11 x12 fun x13 => zgI σ 7 v0 3 fun x14 => zpI σ 7 v0 3 (x14 + 1) fun σ15 => sX6_readNumber_4 n k v0 v1 ((v2 * 10) + (x13 - 48)) (v3 + 1) σ15 else sX6_readNumber_82 n v0 v1 v2 v3 σ else sX6_readNumber_82 n v0 v1 v2 v3 σ
def fX6_readNumber (n : Nat) (a0 : Nat) (a1 : Int32) (σ : zW) : Option (Int32 × zW) := sX6_readNumber_4 n n a0 a1 0 0 σ
theorem gsX6_readNumber_98 (F : zFx E) (n : Nat) (hk : zk E K "LotSales$Text" cX6_readNumber 4 0) (he : zend E K (some .boolean) "readNumber") (y0 : Int32) (σ : zW) : zG E K zfW (sX6_readNumber_98 n y0 σ) σ 98 [none, none, none, none] [.inl y0] := by
  unfold sX6_readNumber_98
  exact z_zret (fin := zfW) (o := (y0, σ)) hk he (z_row hX6_readNumber_0 56 rfl) rfl
theorem gsX6_readNumber_82 (F : zFx E) (n : Nat) (hk : zk E K "LotSales$Text" cX6_readNumber 4 0) (he : zend E K (some .boolean) "readNumber") (v0 : Nat) (v1 : Int32) (v2 : Int32) (v3 : Int32) (σ : zW) : zG E K zfW (sX6_readNumber_82 n v0 v1 v2 v3 σ) σ 82 [some (.inr (.inl v0)), some (.inl v1), some (.inl v2), some (.inl v3)] [] := by
  unfold sX6_readNumber_82
  refine z_run hk hX6_readNumber_0 46 1 (pc' := 83) (lv' := [some (.inr (.inl v0)), some (.inl v1), some (.inl v2), some (.inl v3)]) (st' := [.inr (.inl v0)]) rfl ?_
  refine z_gR hk 1 (z_row hX6_readNumber_0 47 rfl) (ci := 6) rfl rfl wd_245 (fun x1 => ?_)
  refine z_run hk hX6_readNumber_0 48 2 (pc' := 88) (lv' := [some (.inr (.inl v0)), some (.inl v1), some (.inl v2), some (.inl v3)]) (st' := [.inl v2, .inl v1, .inr (.inl x1)]) rfl ?_
  refine z_sI hk (z_row hX6_readNumber_0 50 rfl) (fun σ2 => ?_)
  refine z_run hk hX6_readNumber_0 51 1 (pc' := 90) (lv' := [some (.inr (.inl v0)), some (.inl v1), some (.inl v2), some (.inl v3)]) (st' := [.inl v3]) rfl ?_
  refine z_le hk (z_row hX6_readNumber_0 52 rfl) (tgt := 97) rfl ?_ ?_
  · refine z_run hk hX6_readNumber_0 55 1 (pc' := 98) (lv' := [some (.inr (.inl v0)), some (.inl v1), some (.inl v2), some (.inl v3)]) (st' := [.inl 0]) rfl ?_
    refine z_mask [false, false, false, false] rfl ?_
    exact gsX6_readNumber_98 F n hk he 0 σ2
  · refine z_run hk hX6_readNumber_0 53 1 (pc' := 94) (lv' := [some (.inr (.inl v0)), some (.inl v1), some (.inl v2), some (.inl v3)]) (st' := [.inl 1]) rfl ?_
    refine z_goto hk (z_row hX6_readNumber_0 54 rfl) (tgt := 98) rfl ?_
    refine z_mask [false, false, false, false] rfl ?_
    exact gsX6_readNumber_98 F n hk he 1 σ2
theorem gsX6_readNumber_4 (F : zFx E) (n : Nat) (hk : zk E K "LotSales$Text" cX6_readNumber 4 0) (he : zend E K (some .boolean) "readNumber") : ∀ (k : Nat) (v0 : Nat) (v1 : Int32) (v2 : Int32) (v3 : Int32) (σ : zW), zG E K zfW (sX6_readNumber_4 n k v0 v1 v2 v3 σ) σ 4 [some (.inr (.inl v0)), some (.inl v1), some (.inl v2), some (.inl v3)] [] := by
  intro k
  induction k with
  | zero =>
    intro v0 v1 v2 v3 σ
    intro hX
    exact z_none hX
  | succ k ih =>
    intro v0 v1 v2 v3 σ
    rw [sX6_readNumber_4]
    refine z_run hk hX6_readNumber_0 4 2 (pc' := 6) (lv' := [some (.inr (.inl v0)), some (.inl v1), some (.inl v2), some (.inl v3)]) (st' := [.inl 5, .inl v3]) rfl ?_
    refine z_cge hk (z_row hX6_readNumber_0 6 rfl) (tgt := 82) rfl ?_ ?_
    · exact gsX6_readNumber_82 F n hk he v0 v1 v2 v3 σ
    · refine z_run hk hX6_readNumber_0 7 1 (pc' := 10) (lv' := [some (.inr (.inl v0)), some (.inl v1), some (.inl v2), some (.inl v3)]) (st' := [.inr (.inl v0)]) rfl ?_
      refine z_gI hk 3 (z_row hX6_readNumber_0 8 rfl) (ci := 6) rfl rfl wd_249 (fun x3 => ?_)
      refine z_run hk hX6_readNumber_0 9 1 (pc' := 14) (lv' := [some (.inr (.inl v0)), some (.inl v1), some (.inl v2), some (.inl v3)]) (st' := [.inr (.inl v0), .inl x3]) rfl ?_
      refine z_gI hk 2 (z_row hX6_readNumber_0 10 rfl) (ci := 6) rfl rfl wd_247 (fun x4 => ?_)
      refine z_cge hk (z_row hX6_readNumber_0 11 rfl) (tgt := 82) rfl ?_ ?_
      · exact gsX6_readNumber_82 F n hk he v0 v1 v2 v3 σ
      · refine z_run hk hX6_readNumber_0 12 1 (pc' := 21) (lv' := [some (.inr (.inl v0)), some (.inl v1), some (.inl v2), some (.inl v3)]) (st' := [.inr (.inl v0)]) rfl ?_
        refine z_gR hk 0 (z_row hX6_readNumber_0 13 rfl) (ci := 6) rfl rfl wd_244 (fun x5 => ?_)
        refine z_run hk hX6_readNumber_0 14 1 (pc' := 25) (lv' := [some (.inr (.inl v0)), some (.inl v1), some (.inl v2), some (.inl v3)]) (st' := [.inr (.inl v0), .inr (.inl x5)]) rfl ?_
        refine z_gI hk 3 (z_row hX6_readNumber_0 15 rfl) (ci := 6) rfl rfl wd_249 (fun x6 => ?_)
        refine z_aC hk (z_row hX6_readNumber_0 16 rfl) (fun x7 => ?_)
        refine z_run hk hX6_readNumber_0 17 1 (pc' := 31) (lv' := [some (.inr (.inl v0)), some (.inl v1), some (.inl v2), some (.inl v3)]) (st' := [.inl 48, .inl x7]) rfl ?_
        refine z_clt hk (z_row hX6_readNumber_0 18 rfl) (tgt := 82) rfl ?_ ?_
        · exact gsX6_readNumber_82 F n hk he v0 v1 v2 v3 σ
        · refine z_run hk hX6_readNumber_0 19 1 (pc' := 35) (lv' := [some (.inr (.inl v0)), some (.inl v1), some (.inl v2), some (.inl v3)]) (st' := [.inr (.inl v0)]) rfl ?_
          refine z_gR hk 0 (z_row hX6_readNumber_0 20 rfl) (ci := 6) rfl rfl wd_244 (fun x8 => ?_)
          refine z_run hk hX6_readNumber_0 21 1 (pc' := 39) (lv' := [some (.inr (.inl v0)), some (.inl v1), some (.inl v2), some (.inl v3)]) (st' := [.inr (.inl v0), .inr (.inl x8)]) rfl ?_
          refine z_gI hk 3 (z_row hX6_readNumber_0 22 rfl) (ci := 6) rfl rfl wd_249 (fun x9 => ?_)
          refine z_aC hk (z_row hX6_readNumber_0 23 rfl) (fun x10 => ?_)
          refine z_run hk hX6_readNumber_0 24 1 (pc' := 45) (lv' := [some (.inr (.inl v0)), some (.inl v1), some (.inl v2), some (.inl v3)]) (st' := [.inl 57, .inl x10]) rfl ?_
          refine z_cgt hk (z_row hX6_readNumber_0 25 rfl) (tgt := 82) rfl ?_ ?_
          · exact gsX6_readNumber_82 F n hk he v0 v1 v2 v3 σ
          · refine z_run hk hX6_readNumber_0 26 4 (pc' := 53) (lv' := [some (.inr (.inl v0)), some (.inl v1), some (.inl v2), some (.inl v3)]) (st' := [.inr (.inl v0), .inl (v2 * 10)]) rfl ?_
            refine z_gR hk 0 (z_row hX6_readNumber_0 30 rfl) (ci := 6) rfl rfl wd_244 (fun x11 => ?_)
            refine z_run hk hX6_readNumber_0 31 1 (pc' := 57) (lv' := [some (.inr (.inl v0)), some (.inl v1), some (.inl v2), some (.inl v3)]) (st' := [.inr (.inl v0), .inr (.inl x11), .inl (v2 * 10)]) rfl ?_
            refine z_gI hk 3 (z_row hX6_readNumber_0 32 rfl) (ci := 6) rfl rfl wd_249 (fun x12 => ?_)
            refine z_aC hk (z_row hX6_readNumber_0 33 rfl) (fun x13 => ?_)
            refine z_run hk hX6_readNumber_0 34 7 (pc' := 71) (lv' := [some (.inr (.inl v0)), some (.inl v1), some (.inl ((v2 * 10) + (x13 - 48))), some (.inl (v3 + 1))]) (st' := [.inr (.inl v0), .inr (.inl v0)]) rfl ?_
            refine z_gI hk 3 (z_row hX6_readNumber_0 41 rfl) (ci := 6) rfl rfl wd_249 (fun x14 => ?_)
            refine z_run hk hX6_readNumber_0 42 2 (pc' := 76) (lv' := [some (.inr (.inl v0)), some (.inl v1), some (.inl ((v2 * 10) + (x13 - 48))), some (.inl (v3 + 1))]) (st' := [.inl (x14 + 1), .inr (.inl v0)]) rfl ?_
            refine z_pI hk 3 (z_row hX6_readNumber_0 44 rfl) (ci := 6) rfl rfl wd_249 rfl rfl rfl (fun σ15 => ?_)
            refine z_goto hk (z_row hX6_readNumber_0 45 rfl) (tgt := 4) rfl ?_
            exact ih v0 v1 ((v2 * 10) + (x13 - 48)) (v3 + 1) σ15
theorem mX6_readNumber (F : zFx E) (n : Nat) (a0 : Nat) (a1 : Int32) (σ : zW) (o : Int32 × zW) (hf : fX6_readNumber n a0 a1 σ = some o) : zM E qX6_readNumber cX6_readNumber 4 (some .boolean) 0 [.inr (.inl a0), .inl a1] σ (some (.int o.1)) o.2 := by
  refine zM_of (fin := zfW) F (by decide +kernel) rfl (Nat.le_of_ble_eq_true rfl) (lv0 := [some (.inr (.inl a0)), some (.inl a1), none, none]) rfl hf rfl (fun K hk he => ?_)
  have hk : zk E K "LotSales$Text" cX6_readNumber 4 0 := hk
  unfold fX6_readNumber
  refine z_run hk hX6_readNumber_0 0 4 (pc' := 4) (lv' := [some (.inr (.inl a0)), some (.inl a1), some (.inl 0), some (.inl 0)]) (st' := []) rfl ?_
  exact gsX6_readNumber_4 F n hk he n a0 a1 0 0 σ
theorem kX6_readNumber {n : Nat} {own : String} {cc : ByteArray} {nL h index : Nat} {α : Type} {fin : α → zO} {σ : zW} {pc : Nat} {lv : zLV} {st : List zV} {a0 : Nat} {a1 : Int32} {c : Int32 → zW → Option α} (F : zFx E) (hk : zk E K own cc nL h) (hd : decode cc pc = .ok (.invokevirtual index, 3)) (hl : Cond.methodLink own index qX6_readNumber ∈ lw_tbl) (hh : 0 + 1 ≤ h) (hs : zcat st ≤ 8) (k : ∀ v s, zG E K fin (c v s) s (pc + 3) lv (.inl v :: st)) : zG E K fin (zck σ 7 a0 (zb2 (fX6_readNumber n a0 a1 σ) c)) σ pc lv (.inl a1 :: .inr (.inl a0) :: st) :=
  z_vW (n := 1) (y := qX6_readNumber) (As := [.inl a1]) hk hd hl wd_1072 wd_1073 wd_9 wd_1074 ⟨by decide, by decide, by decide +kernel⟩ ⟨hh, by decide⟩ (ci := 6) rfl rfl rfl (fun o ho => mX6_readNumber F n a0 a1 σ o ho) hs k
abbrev qX6_readCommand : MethodName := { cls := "LotSales$Text", name := "readCommand", desc := "()Z" }
def sX6_readCommand_79 (n : Nat) (r59 : Nat → Int32 → Int32 → zW → Option (Int32 × zW)) (v0 : Nat) (v1 : Int32) (v2 : Int32) (σ : zW) : Option (Int32 × zW) := zck σ 7 v0 (zb2 (fX6_readNumber n v0 v2 σ) fun x1 σ2 => if x1 = 0 then if 0 = 0 ∨ 0 = 1 then some (0, σ2) else none else r59 v0 v1 (v2 + 1) σ2)
def sX6_readCommand_59 (n : Nat) : Nat → Nat → Int32 → Int32 → zW → Option (Int32 × zW)
  | 0, _, _, _, _ => none
  | k + 1, v0, v1, v2, σ => if v2 < v1 then if 0 < v2 then zck σ 7 v0 (zb2 (fX6_passes n v0 44 σ) fun x3 σ4 => if x3 = 0 then if 0 = 0 ∨ 0 = 1 then some (0, σ4) else none else sX6_readCommand_79 n (sX6_readCommand_59 n k) v0 v1 v2 σ4) else sX6_readCommand_79 n (sX6_readCommand_59 n k) v0 v1 v2 σ else if 1 = 0 ∨ 1 = 1 then some (1, σ) else none
def sX6_readCommand_27 (n : Nat) (v0 : Nat) (y0 : Int32) (σ : zW) : Option (Int32 × zW) := if y0 = 0 then if 0 = 0 ∨ 0 = 1 then some (0, σ) else none else zgR σ 7 v0 0 fun x5 => zgI σ 7 v0 3 fun x6 => zaC σ x5 x6 fun x7 => if 0 ≤ x7 ∧ x7 ≤ 65535 then (zpI σ 7 v0 5 x7 fun σ8 => zgI σ8 7 v0 3 fun x9 => zpI σ8 7 v0 3 (x9 + 1) fun σ10 => sX6_readCommand_59 n n v0 y0 0 σ10) else none
def fX6_readCommand (n : Nat) (a0 : Nat) (σ : zW) : Option (Int32 × zW) := zgI σ 7 a0 3 fun x11 => zgI σ 7 a0 2 fun x12 => if x11 < x12 then zgR σ 7 a0 0 fun x13 => zgI σ 7 a0 3 fun x14 => zaC σ x13 x14 fun x15 => zb (fX6_numbersBehind n x15 σ) fun x16 => sX6_readCommand_27 n a0 x16 σ else sX6_readCommand_27 n a0 0 σ
theorem gsX6_readCommand_79 (F : zFx E) (n : Nat) (hk : zk E K "LotSales$Text" cX6_readCommand 3 1) (he : zend E K (some .boolean) "readCommand") (r59 : Nat → Int32 → Int32 → zW → Option (Int32 × zW)) (hr59 : ∀ (v0 : Nat) (v1 : Int32) (v2 : Int32) (σ : zW), zG E K zfW (r59 v0 v1 v2 σ) σ 59 [some (.inr (.inl v0)), some (.inl v1), some (.inl v2)] []) (v0 : Nat) (v1 : Int32) (v2 : Int32) (σ : zW) : zG E K zfW (sX6_readCommand_79 n r59 v0 v1 v2 σ) σ 79 [some (.inr (.inl v0)), some (.inl v1), some (.inl v2)] [] := by
  unfold sX6_readCommand_79
  refine z_run hk hX6_readCommand_0 44 2 (pc' := 81) (lv' := [some (.inr (.inl v0)), some (.inl v1), some (.inl v2)]) (st' := [.inl v2, .inr (.inl v0)]) rfl ?_
  refine kX6_readNumber F hk (z_row hX6_readCommand_0 46 rfl) wd_1071 (by decide) (Nat.le_of_ble_eq_true rfl) (fun x1 σ2 => ?_)
  refine z_ne hk (z_row hX6_readCommand_0 47 rfl) (tgt := 89) rfl ?_ ?_
  · refine z_run hk hX6_readCommand_0 50 1 (pc' := 92) (lv' := [some (.inr (.inl v0)), some (.inl v1), some (.inl (v2 + 1))]) (st' := []) rfl ?_
    refine z_goto hk (z_row hX6_readCommand_0 51 rfl) (tgt := 59) rfl ?_
    exact hr59 v0 v1 (v2 + 1) σ2
  · refine z_run hk hX6_readCommand_0 48 1 (pc' := 88) (lv' := [some (.inr (.inl v0)), some (.inl v1), some (.inl v2)]) (st' := [.inl 0]) rfl ?_
    exact z_zret (fin := zfW) (o := (0, σ2)) hk he (z_row hX6_readCommand_0 49 rfl) rfl
theorem gsX6_readCommand_59 (F : zFx E) (n : Nat) (hk : zk E K "LotSales$Text" cX6_readCommand 3 1) (he : zend E K (some .boolean) "readCommand") : ∀ (k : Nat) (v0 : Nat) (v1 : Int32) (v2 : Int32) (σ : zW), zG E K zfW (sX6_readCommand_59 n k v0 v1 v2 σ) σ 59 [some (.inr (.inl v0)), some (.inl v1), some (.inl v2)] [] := by
  intro k
  induction k with
  | zero =>
    intro v0 v1 v2 σ
    intro hX
    exact z_none hX
  | succ k ih =>
    intro v0 v1 v2 σ
    rw [sX6_readCommand_59]
    refine z_run hk hX6_readCommand_0 33 2 (pc' := 61) (lv' := [some (.inr (.inl v0)), some (.inl v1), some (.inl v2)]) (st' := [.inl v1, .inl v2]) rfl ?_
    refine z_cge hk (z_row hX6_readCommand_0 35 rfl) (tgt := 95) rfl ?_ ?_
    · refine z_run hk hX6_readCommand_0 52 1 (pc' := 96) (lv' := [some (.inr (.inl v0)), some (.inl v1), some (.inl v2)]) (st' := [.inl 1]) rfl ?_
      exact z_zret (fin := zfW) (o := (1, σ)) hk he (z_row hX6_readCommand_0 53 rfl) rfl
    · refine z_run hk hX6_readCommand_0 36 1 (pc' := 65) (lv' := [some (.inr (.inl v0)), some (.inl v1), some (.inl v2)]) (st' := [.inl v2]) rfl ?_
      refine z_le hk (z_row hX6_readCommand_0 37 rfl) (tgt := 79) rfl ?_ ?_
      · exact gsX6_readCommand_79 F n hk he (sX6_readCommand_59 n k) ih v0 v1 v2 σ
      · refine z_run hk hX6_readCommand_0 38 2 (pc' := 71) (lv' := [some (.inr (.inl v0)), some (.inl v1), some (.inl v2)]) (st' := [.inl 44, .inr (.inl v0)]) rfl ?_
        refine kX6_passes F hk (z_row hX6_readCommand_0 40 rfl) wd_1067 (by decide) (Nat.le_of_ble_eq_true rfl) (fun x3 σ4 => ?_)
        refine z_ne hk (z_row hX6_readCommand_0 41 rfl) (tgt := 79) rfl ?_ ?_
        · exact gsX6_readCommand_79 F n hk he (sX6_readCommand_59 n k) ih v0 v1 v2 σ4
        · refine z_run hk hX6_readCommand_0 42 1 (pc' := 78) (lv' := [some (.inr (.inl v0)), some (.inl v1), some (.inl v2)]) (st' := [.inl 0]) rfl ?_
          exact z_zret (fin := zfW) (o := (0, σ4)) hk he (z_row hX6_readCommand_0 43 rfl) rfl
theorem gsX6_readCommand_27 (F : zFx E) (n : Nat) (hk : zk E K "LotSales$Text" cX6_readCommand 3 1) (he : zend E K (some .boolean) "readCommand") (v0 : Nat) (y0 : Int32) (σ : zW) : zG E K zfW (sX6_readCommand_27 n v0 y0 σ) σ 27 [some (.inr (.inl v0)), none, none] [.inl y0] := by
  unfold sX6_readCommand_27
  refine z_run hk hX6_readCommand_0 13 2 (pc' := 29) (lv' := [some (.inr (.inl v0)), some (.inl y0), none]) (st' := [.inl y0]) rfl ?_
  refine z_ne hk (z_row hX6_readCommand_0 15 rfl) (tgt := 34) rfl ?_ ?_
  · refine z_run hk hX6_readCommand_0 18 2 (pc' := 36) (lv' := [some (.inr (.inl v0)), some (.inl y0), none]) (st' := [.inr (.inl v0), .inr (.inl v0)]) rfl ?_
    refine z_gR hk 0 (z_row hX6_readCommand_0 20 rfl) (ci := 6) rfl rfl wd_244 (fun x5 => ?_)
    refine z_run hk hX6_readCommand_0 21 1 (pc' := 40) (lv' := [some (.inr (.inl v0)), some (.inl y0), none]) (st' := [.inr (.inl v0), .inr (.inl x5), .inr (.inl v0)]) rfl ?_
    refine z_gI hk 3 (z_row hX6_readCommand_0 22 rfl) (ci := 6) rfl rfl wd_249 (fun x6 => ?_)
    refine z_aC hk (z_row hX6_readCommand_0 23 rfl) (fun x7 => ?_)
    refine z_pC hk 5 (z_row hX6_readCommand_0 24 rfl) (ci := 6) rfl rfl wd_252 rfl rfl (fun σ8 => ?_)
    refine z_run hk hX6_readCommand_0 25 2 (pc' := 49) (lv' := [some (.inr (.inl v0)), some (.inl y0), none]) (st' := [.inr (.inl v0), .inr (.inl v0)]) rfl ?_
    refine z_gI hk 3 (z_row hX6_readCommand_0 27 rfl) (ci := 6) rfl rfl wd_249 (fun x9 => ?_)
    refine z_run hk hX6_readCommand_0 28 2 (pc' := 54) (lv' := [some (.inr (.inl v0)), some (.inl y0), none]) (st' := [.inl (x9 + 1), .inr (.inl v0)]) rfl ?_
    refine z_pI hk 3 (z_row hX6_readCommand_0 30 rfl) (ci := 6) rfl rfl wd_249 rfl rfl rfl (fun σ10 => ?_)
    refine z_run hk hX6_readCommand_0 31 2 (pc' := 59) (lv' := [some (.inr (.inl v0)), some (.inl y0), some (.inl 0)]) (st' := []) rfl ?_
    exact gsX6_readCommand_59 F n hk he n v0 y0 0 σ10
  · refine z_run hk hX6_readCommand_0 16 1 (pc' := 33) (lv' := [some (.inr (.inl v0)), some (.inl y0), none]) (st' := [.inl 0]) rfl ?_
    exact z_zret (fin := zfW) (o := (0, σ)) hk he (z_row hX6_readCommand_0 17 rfl) rfl
theorem mX6_readCommand (F : zFx E) (n : Nat) (a0 : Nat) (σ : zW) (o : Int32 × zW) (hf : fX6_readCommand n a0 σ = some o) : zM E qX6_readCommand cX6_readCommand 3 (some .boolean) 1 [.inr (.inl a0)] σ (some (.int o.1)) o.2 := by
  refine zM_of (fin := zfW) F (by decide +kernel) rfl (Nat.le_of_ble_eq_true rfl) (lv0 := [some (.inr (.inl a0)), none, none]) rfl hf rfl (fun K hk he => ?_)
  have hk : zk E K "LotSales$Text" cX6_readCommand 3 1 := hk
  unfold fX6_readCommand
  refine z_run hk hX6_readCommand_0 0 1 (pc' := 1) (lv' := [some (.inr (.inl a0)), none, none]) (st' := [.inr (.inl a0)]) rfl ?_
  refine z_gI hk 3 (z_row hX6_readCommand_0 1 rfl) (ci := 6) rfl rfl wd_249 (fun x11 => ?_)
  refine z_run hk hX6_readCommand_0 2 1 (pc' := 5) (lv' := [some (.inr (.inl a0)), none, none]) (st' := [.inr (.inl a0), .inl x11]) rfl ?_
  refine z_gI hk 2 (z_row hX6_readCommand_0 3 rfl) (ci := 6) rfl rfl wd_247 (fun x12 => ?_)
  refine z_cge hk (z_row hX6_readCommand_0 4 rfl) (tgt := 26) rfl ?_ ?_
  · refine z_run hk hX6_readCommand_0 12 1 (pc' := 27) (lv' := [some (.inr (.inl a0)), none, none]) (st' := [.inl 0]) rfl ?_
    exact gsX6_readCommand_27 F n hk he a0 0 σ
  · refine z_run hk hX6_readCommand_0 5 1 (pc' := 12) (lv' := [some (.inr (.inl a0)), none, none]) (st' := [.inr (.inl a0)]) rfl ?_
    refine z_gR hk 0 (z_row hX6_readCommand_0 6 rfl) (ci := 6) rfl rfl wd_244 (fun x13 => ?_)
    refine z_run hk hX6_readCommand_0 7 1 (pc' := 16) (lv' := [some (.inr (.inl a0)), none, none]) (st' := [.inr (.inl a0), .inr (.inl x13)]) rfl ?_
    refine z_gI hk 3 (z_row hX6_readCommand_0 8 rfl) (ci := 6) rfl rfl wd_249 (fun x14 => ?_)
    refine z_aC hk (z_row hX6_readCommand_0 9 rfl) (fun x15 => ?_)
    refine kX6_numbersBehind F hk (z_row hX6_readCommand_0 10 rfl) wd_1064 (by decide) (Nat.le_of_ble_eq_true rfl) (fun x16 => ?_)
    refine z_goto hk (z_row hX6_readCommand_0 11 rfl) (tgt := 27) rfl ?_
    exact gsX6_readCommand_27 F n hk he a0 x16 σ
theorem kX6_readCommand {n : Nat} {own : String} {cc : ByteArray} {nL h index : Nat} {α : Type} {fin : α → zO} {σ : zW} {pc : Nat} {lv : zLV} {st : List zV} {a0 : Nat} {c : Int32 → zW → Option α} (F : zFx E) (hk : zk E K own cc nL h) (hd : decode cc pc = .ok (.invokevirtual index, 3)) (hl : Cond.methodLink own index qX6_readCommand ∈ lw_tbl) (hh : 1 + 1 ≤ h) (hs : zcat st ≤ 8) (k : ∀ v s, zG E K fin (c v s) s (pc + 3) lv (.inl v :: st)) : zG E K fin (zck σ 7 a0 (zb2 (fX6_readCommand n a0 σ) c)) σ pc lv (.inr (.inl a0) :: st) :=
  z_vW (n := 0) (y := qX6_readCommand) (As := []) hk hd hl wd_1061 wd_1062 wd_9 wd_1063 ⟨by decide, by decide, by decide +kernel⟩ ⟨hh, by decide⟩ (ci := 6) rfl rfl rfl (fun o ho => mX6_readCommand F n a0 σ o ho) hs k
abbrev qX6_findFault : MethodName := { cls := "LotSales$Text", name := "findFault", desc := "()I" }
def sX6_findFault_7 (n : Nat) : Nat → Nat → Int32 → zW → Option (Int32 × zW)
  | 0, _, _, _ => none
  | k + 1, v0, v1, σ => if 60 < v1 then zgI σ 7 v0 3 fun x1 => some (x1, σ) else zck σ 7 v0 (zb2 (fX6_readCommand n v0 σ) fun x2 σ3 => if x2 = 0 then zgI σ3 7 v0 3 fun x10 => some (x10, σ3) else zgI σ3 7 v0 3 fun x4 => zgI σ3 7 v0 2 fun x5 => if x4 = x5 then zpI σ3 7 v0 4 v1 fun σ9 => some ((-1), σ9) else zck σ3 7 v0 (zb2 (fX6_passes n v0 59 σ3) fun x6 σ7 => if x6 = 0 then zgI σ7 7 v0 3 fun x8 => some (x8, σ7) else sX6_findFault_7 n k v0 (v1 + 1) σ7))
def fX6_findFault (n : Nat) (a0 : Nat) (σ : zW) : Option (Int32 × zW) := zpI σ 7 a0 3 0 fun σ11 => sX6_findFault_7 n n a0 1 σ11
theorem gsX6_findFault_7 (F : zFx E) (n : Nat) (hk : zk E K "LotSales$Text" cX6_findFault 2 2) (he : zend E K (some .int) "findFault") : ∀ (k : Nat) (v0 : Nat) (v1 : Int32) (σ : zW), zG E K zfW (sX6_findFault_7 n k v0 v1 σ) σ 7 [some (.inr (.inl v0)), some (.inl v1)] [] := by
  intro k
  induction k with
  | zero =>
    intro v0 v1 σ
    intro hX
    exact z_none hX
  | succ k ih =>
    intro v0 v1 σ
    rw [sX6_findFault_7]
    refine z_run hk hX6_findFault_0 5 2 (pc' := 10) (lv' := [some (.inr (.inl v0)), some (.inl v1)]) (st' := [.inl 60, .inl v1]) rfl ?_
    refine z_cgt hk (z_row hX6_findFault_0 7 rfl) (tgt := 63) rfl ?_ ?_
    · refine z_run hk hX6_findFault_0 33 1 (pc' := 64) (lv' := [some (.inr (.inl v0)), some (.inl v1)]) (st' := [.inr (.inl v0)]) rfl ?_
      refine z_gI hk 3 (z_row hX6_findFault_0 34 rfl) (ci := 6) rfl rfl wd_249 (fun x1 => ?_)
      exact z_iret hk he (z_row hX6_findFault_0 35 rfl) rfl
    · refine z_run hk hX6_findFault_0 8 1 (pc' := 14) (lv' := [some (.inr (.inl v0)), some (.inl v1)]) (st' := [.inr (.inl v0)]) rfl ?_
      refine kX6_readCommand F hk (z_row hX6_findFault_0 9 rfl) wd_1060 (by decide) (Nat.le_of_ble_eq_true rfl) (fun x2 σ3 => ?_)
      refine z_ne hk (z_row hX6_findFault_0 10 rfl) (tgt := 25) rfl ?_ ?_
      · refine z_run hk hX6_findFault_0 14 1 (pc' := 26) (lv' := [some (.inr (.inl v0)), some (.inl v1)]) (st' := [.inr (.inl v0)]) rfl ?_
        refine z_gI hk 3 (z_row hX6_findFault_0 15 rfl) (ci := 6) rfl rfl wd_249 (fun x4 => ?_)
        refine z_run hk hX6_findFault_0 16 1 (pc' := 30) (lv' := [some (.inr (.inl v0)), some (.inl v1)]) (st' := [.inr (.inl v0), .inl x4]) rfl ?_
        refine z_gI hk 2 (z_row hX6_findFault_0 17 rfl) (ci := 6) rfl rfl wd_247 (fun x5 => ?_)
        refine z_cne hk (z_row hX6_findFault_0 18 rfl) (tgt := 43) rfl ?_ ?_
        · refine z_run hk hX6_findFault_0 24 2 (pc' := 46) (lv' := [some (.inr (.inl v0)), some (.inl v1)]) (st' := [.inl 59, .inr (.inl v0)]) rfl ?_
          refine kX6_passes F hk (z_row hX6_findFault_0 26 rfl) wd_1067 (by decide) (Nat.le_of_ble_eq_true rfl) (fun x6 σ7 => ?_)
          refine z_ne hk (z_row hX6_findFault_0 27 rfl) (tgt := 57) rfl ?_ ?_
          · refine z_run hk hX6_findFault_0 31 1 (pc' := 60) (lv' := [some (.inr (.inl v0)), some (.inl (v1 + 1))]) (st' := []) rfl ?_
            refine z_goto hk (z_row hX6_findFault_0 32 rfl) (tgt := 7) rfl ?_
            exact ih v0 (v1 + 1) σ7
          · refine z_run hk hX6_findFault_0 28 1 (pc' := 53) (lv' := [some (.inr (.inl v0)), some (.inl v1)]) (st' := [.inr (.inl v0)]) rfl ?_
            refine z_gI hk 3 (z_row hX6_findFault_0 29 rfl) (ci := 6) rfl rfl wd_249 (fun x8 => ?_)
            exact z_iret hk he (z_row hX6_findFault_0 30 rfl) rfl
        · refine z_run hk hX6_findFault_0 19 2 (pc' := 38) (lv' := [some (.inr (.inl v0)), some (.inl v1)]) (st' := [.inl v1, .inr (.inl v0)]) rfl ?_
          refine z_pI hk 4 (z_row hX6_findFault_0 21 rfl) (ci := 6) rfl rfl wd_250 rfl rfl rfl (fun σ9 => ?_)
          refine z_run hk hX6_findFault_0 22 1 (pc' := 42) (lv' := [some (.inr (.inl v0)), some (.inl v1)]) (st' := [.inl (-1)]) rfl ?_
          exact z_iret hk he (z_row hX6_findFault_0 23 rfl) rfl
      · refine z_run hk hX6_findFault_0 11 1 (pc' := 21) (lv' := [some (.inr (.inl v0)), some (.inl v1)]) (st' := [.inr (.inl v0)]) rfl ?_
        refine z_gI hk 3 (z_row hX6_findFault_0 12 rfl) (ci := 6) rfl rfl wd_249 (fun x10 => ?_)
        exact z_iret hk he (z_row hX6_findFault_0 13 rfl) rfl
theorem mX6_findFault (F : zFx E) (n : Nat) (a0 : Nat) (σ : zW) (o : Int32 × zW) (hf : fX6_findFault n a0 σ = some o) : zM E qX6_findFault cX6_findFault 2 (some .int) 2 [.inr (.inl a0)] σ (some (.int o.1)) o.2 := by
  refine zM_of (fin := zfW) F (by decide +kernel) rfl (Nat.le_of_ble_eq_true rfl) (lv0 := [some (.inr (.inl a0)), none]) rfl hf rfl (fun K hk he => ?_)
  have hk : zk E K "LotSales$Text" cX6_findFault 2 2 := hk
  unfold fX6_findFault
  refine z_run hk hX6_findFault_0 0 2 (pc' := 2) (lv' := [some (.inr (.inl a0)), none]) (st' := [.inl 0, .inr (.inl a0)]) rfl ?_
  refine z_pI hk 3 (z_row hX6_findFault_0 2 rfl) (ci := 6) rfl rfl wd_249 rfl rfl rfl (fun σ11 => ?_)
  refine z_run hk hX6_findFault_0 3 2 (pc' := 7) (lv' := [some (.inr (.inl a0)), some (.inl 1)]) (st' := []) rfl ?_
  exact gsX6_findFault_7 F n hk he n a0 1 σ11
theorem kX6_findFault {n : Nat} {own : String} {cc : ByteArray} {nL h index : Nat} {α : Type} {fin : α → zO} {σ : zW} {pc : Nat} {lv : zLV} {st : List zV} {a0 : Nat} {c : Int32 → zW → Option α} (F : zFx E) (hk : zk E K own cc nL h) (hd : decode cc pc = .ok (.invokevirtual index, 3)) (hl : Cond.methodLink own index qX6_findFault ∈ lw_tbl) (hh : 2 + 1 ≤ h) (hs : zcat st ≤ 8) (k : ∀ v s, zG E K fin (c v s) s (pc + 3) lv (.inl v :: st)) : zG E K fin (zck σ 7 a0 (zb2 (fX6_findFault n a0 σ) c)) σ pc lv (.inr (.inl a0) :: st) :=
  z_vW (n := 0) (y := qX6_findFault) (As := []) hk hd hl wd_1057 wd_1058 wd_9 wd_1059 ⟨by decide, by decide, by decide +kernel⟩ ⟨hh, by decide⟩ (ci := 6) rfl rfl rfl (fun o ho => mX6_findFault F n a0 σ o ho) hs k
abbrev qX6_readNext : MethodName := { cls := "LotSales$Text", name := "readNext", desc := "(I)Z" }
def sX6_readNext_35 (n : Nat) (y0 : Int32) (σ : zW) : Option (Int32 × zW) := if y0 = 0 ∨ y0 = 1 then some (y0, σ) else none
def sX6_readNext_34 (n : Nat) (σ : zW) : Option (Int32 × zW) := sX6_readNext_35 n 0 σ
def fX6_readNext (n : Nat) (a0 : Nat) (a1 : Int32) (σ : zW) : Option (Int32 × zW) := if a1 = 0 then zpI σ 7 a0 3 0 fun σ5 => zck σ5 7 a0 (zb2 (fX6_readCommand n a0 σ5) fun x6 σ7 => if x6 = 0 ∨ x6 = 1 then some (x6, σ7) else none) else zck σ 7 a0 (zb2 (fX6_passes n a0 59 σ) fun x1 σ2 => if x1 = 0 then sX6_readNext_34 n σ2 else zck σ2 7 a0 (zb2 (fX6_readCommand n a0 σ2) fun x3 σ4 => if x3 = 0 then sX6_readNext_34 n σ4 else sX6_readNext_35 n 1 σ4))
theorem gsX6_readNext_35 (F : zFx E) (n : Nat) (hk : zk E K "LotSales$Text" cX6_readNext 2 2) (he : zend E K (some .boolean) "readNext") (y0 : Int32) (σ : zW) : zG E K zfW (sX6_readNext_35 n y0 σ) σ 35 [none, none] [.inl y0] := by
  unfold sX6_readNext_35
  exact z_zret (fin := zfW) (o := (y0, σ)) hk he (z_row hX6_readNext_0 18 rfl) rfl
theorem gsX6_readNext_34 (F : zFx E) (n : Nat) (hk : zk E K "LotSales$Text" cX6_readNext 2 2) (he : zend E K (some .boolean) "readNext") (σ : zW) : zG E K zfW (sX6_readNext_34 n σ) σ 34 [none, none] [] := by
  unfold sX6_readNext_34
  refine z_run hk hX6_readNext_0 17 1 (pc' := 35) (lv' := [none, none]) (st' := [.inl 0]) rfl ?_
  exact gsX6_readNext_35 F n hk he 0 σ
theorem mX6_readNext (F : zFx E) (n : Nat) (a0 : Nat) (a1 : Int32) (σ : zW) (o : Int32 × zW) (hf : fX6_readNext n a0 a1 σ = some o) : zM E qX6_readNext cX6_readNext 2 (some .boolean) 2 [.inr (.inl a0), .inl a1] σ (some (.int o.1)) o.2 := by
  refine zM_of (fin := zfW) F (by decide +kernel) rfl (Nat.le_of_ble_eq_true rfl) (lv0 := [some (.inr (.inl a0)), some (.inl a1)]) rfl hf rfl (fun K hk he => ?_)
  have hk : zk E K "LotSales$Text" cX6_readNext 2 2 := hk
  unfold fX6_readNext
  refine z_run hk hX6_readNext_0 0 1 (pc' := 1) (lv' := [some (.inr (.inl a0)), some (.inl a1)]) (st' := [.inl a1]) rfl ?_
  refine z_ne hk (z_row hX6_readNext_0 1 rfl) (tgt := 14) rfl ?_ ?_
  · refine z_run hk hX6_readNext_0 8 2 (pc' := 17) (lv' := [some (.inr (.inl a0)), some (.inl a1)]) (st' := [.inl 59, .inr (.inl a0)]) rfl ?_
    refine kX6_passes F hk (z_row hX6_readNext_0 10 rfl) wd_1067 (by decide) (Nat.le_of_ble_eq_true rfl) (fun x1 σ2 => ?_)
    refine z_eq hk (z_row hX6_readNext_0 11 rfl) (tgt := 34) rfl ?_ ?_
    · refine z_mask [false, false] rfl ?_
      exact gsX6_readNext_34 F n hk he σ2
    · refine z_run hk hX6_readNext_0 12 1 (pc' := 24) (lv' := [some (.inr (.inl a0)), some (.inl a1)]) (st' := [.inr (.inl a0)]) rfl ?_
      refine kX6_readCommand F hk (z_row hX6_readNext_0 13 rfl) wd_1060 (by decide) (Nat.le_of_ble_eq_true rfl) (fun x3 σ4 => ?_)
      refine z_eq hk (z_row hX6_readNext_0 14 rfl) (tgt := 34) rfl ?_ ?_
      · refine z_mask [false, false] rfl ?_
        exact gsX6_readNext_34 F n hk he σ4
      · refine z_run hk hX6_readNext_0 15 1 (pc' := 31) (lv' := [some (.inr (.inl a0)), some (.inl a1)]) (st' := [.inl 1]) rfl ?_
        refine z_goto hk (z_row hX6_readNext_0 16 rfl) (tgt := 35) rfl ?_
        refine z_mask [false, false] rfl ?_
        exact gsX6_readNext_35 F n hk he 1 σ4
  · refine z_run hk hX6_readNext_0 2 2 (pc' := 6) (lv' := [some (.inr (.inl a0)), some (.inl a1)]) (st' := [.inl 0, .inr (.inl a0)]) rfl ?_
    refine z_pI hk 3 (z_row hX6_readNext_0 4 rfl) (ci := 6) rfl rfl wd_249 rfl rfl rfl (fun σ5 => ?_)
    refine z_run hk hX6_readNext_0 5 1 (pc' := 10) (lv' := [some (.inr (.inl a0)), some (.inl a1)]) (st' := [.inr (.inl a0)]) rfl ?_
    refine kX6_readCommand F hk (z_row hX6_readNext_0 6 rfl) wd_1060 (by decide) (Nat.le_of_ble_eq_true rfl) (fun x6 σ7 => ?_)
    exact z_zret (fin := zfW) (o := (x6, σ7)) hk he (z_row hX6_readNext_0 7 rfl) rfl
theorem kX6_readNext {n : Nat} {own : String} {cc : ByteArray} {nL h index : Nat} {α : Type} {fin : α → zO} {σ : zW} {pc : Nat} {lv : zLV} {st : List zV} {a0 : Nat} {a1 : Int32} {c : Int32 → zW → Option α} (F : zFx E) (hk : zk E K own cc nL h) (hd : decode cc pc = .ok (.invokevirtual index, 3)) (hl : Cond.methodLink own index qX6_readNext ∈ lw_tbl) (hh : 2 + 1 ≤ h) (hs : zcat st ≤ 8) (k : ∀ v s, zG E K fin (c v s) s (pc + 3) lv (.inl v :: st)) : zG E K fin (zck σ 7 a0 (zb2 (fX6_readNext n a0 a1 σ) c)) σ pc lv (.inl a1 :: .inr (.inl a0) :: st) :=
  z_vW (n := 1) (y := qX6_readNext) (As := [.inl a1]) hk hd hl wd_1081 wd_1082 wd_9 wd_1083 ⟨by decide, by decide, by decide +kernel⟩ ⟨hh, by decide⟩ (ci := 6) rfl rfl rfl (fun o ho => mX6_readNext F n a0 a1 σ o ho) hs k
abbrev qX7_init : MethodName := { cls := "LotSales", name := "<init>", desc := "()V" }
def fX7_init (n : Nat) (a0 : Nat) (σ : zW) : Option (zW) := if a0 = 0 then none else znO σ 4 7 fun q1 σ2 => if q1 = 0 then none else (zb (fX3_init n q1 σ2) fun σ3 => zpR σ3 8 a0 0 q1 fun σ4 => znO σ4 5 6 fun q5 σ6 => if q5 = 0 then none else (zb (fX4_init n q5 σ6) fun σ7 => zpR σ7 8 a0 1 q5 fun σ8 => znO σ8 1 3 fun q9 σ10 => if q9 = 0 then none else (zb (fX0_init n q9 σ10) fun σ11 => zpR σ11 8 a0 2 q9 fun σ12 => znO σ12 7 6 fun q13 σ14 => if q13 = 0 then none else (zb (fX6_init n q13 σ14) fun σ15 => zpR σ15 8 a0 3 q13 fun σ16 => zpI σ16 8 a0 5 0 fun σ17 => zpI σ17 8 a0 6 (-1) fun σ18 => some σ18))))
theorem mX7_init (F : zFx E) (n : Nat) (a0 : Nat) (σ : zW) (o : zW) (hf : fX7_init n a0 σ = some o) : zM E qX7_init cX7_init 1 none 4 [.inr (.inl a0)] σ none o := by
  refine zM_of (fin := zfV) F (by decide +kernel) rfl (Nat.le_of_ble_eq_true rfl) (lv0 := [some (.inr (.inl a0))]) rfl hf rfl (fun K hk he => ?_)
  have hk : zk E K "LotSales" cX7_init 1 4 := hk
  unfold fX7_init
  refine z_run hk hX7_init_0 0 1 (pc' := 1) (lv' := [some (.inr (.inl a0))]) (st' := [.inr (.inl a0)]) rfl ?_
  refine z_oinit0 hk (z_row hX7_init_0 1 rfl) wd_28 wd_29 wd_30 (by decide) (Nat.le_of_ble_eq_true rfl) ?_
  refine z_run hk hX7_init_0 2 1 (pc' := 5) (lv' := [some (.inr (.inl a0))]) (st' := [.inr (.inl a0)]) rfl ?_
  refine z_new hk (z_row hX7_init_0 3 rfl) (ci := 3) rfl wd_31 wd_32 wd_2 (fun q1 σ2 => ?_)
  refine z_run hk hX7_init_0 4 1 (pc' := 9) (lv' := [some (.inr (.inl a0))]) (st' := [.inr (.inl q1), .inr (.inl q1), .inr (.inl a0)]) rfl ?_
  refine kX3_init F hk (z_row hX7_init_0 5 rfl) wd_33 (by decide) (Nat.le_of_ble_eq_true rfl) (fun σ3 => ?_)
  refine z_pR hk 0 (z_row hX7_init_0 6 rfl) (ci := 7) rfl rfl wd_268 (fun _ => ⟨he.2.1, rfl⟩) (fun _ => ⟨rfl, rfl, rfl, rfl⟩) (fun σ4 => ?_)
  refine z_run hk hX7_init_0 7 1 (pc' := 16) (lv' := [some (.inr (.inl a0))]) (st' := [.inr (.inl a0)]) rfl ?_
  refine z_new hk (z_row hX7_init_0 8 rfl) (ci := 4) rfl wd_189 wd_190 wd_7 (fun q5 σ6 => ?_)
  refine z_run hk hX7_init_0 9 1 (pc' := 20) (lv' := [some (.inr (.inl a0))]) (st' := [.inr (.inl q5), .inr (.inl q5), .inr (.inl a0)]) rfl ?_
  refine kX4_init_n F hk (z_row hX7_init_0 10 rfl) wd_191 (by decide) (Nat.le_of_ble_eq_true rfl) (fun σ7 => ?_)
  refine z_pR hk 1 (z_row hX7_init_0 11 rfl) (ci := 7) rfl rfl wd_269 (fun _ => ⟨he.2.1, rfl⟩) (fun _ => ⟨rfl, rfl, rfl, rfl⟩) (fun σ8 => ?_)
  refine z_run hk hX7_init_0 12 1 (pc' := 27) (lv' := [some (.inr (.inl a0))]) (st' := [.inr (.inl a0)]) rfl ?_
  refine z_new hk (z_row hX7_init_0 13 rfl) (ci := 0) rfl wd_219 wd_220 wd_8 (fun q9 σ10 => ?_)
  refine z_run hk hX7_init_0 14 1 (pc' := 31) (lv' := [some (.inr (.inl a0))]) (st' := [.inr (.inl q9), .inr (.inl q9), .inr (.inl a0)]) rfl ?_
  refine kX0_init_n F hk (z_row hX7_init_0 15 rfl) wd_221 (by decide) (Nat.le_of_ble_eq_true rfl) (fun σ11 => ?_)
  refine z_pR hk 2 (z_row hX7_init_0 16 rfl) (ci := 7) rfl rfl wd_270 (fun _ => ⟨he.2.1, rfl⟩) (fun _ => ⟨rfl, rfl, rfl, rfl⟩) (fun σ12 => ?_)
  refine z_run hk hX7_init_0 17 1 (pc' := 38) (lv' := [some (.inr (.inl a0))]) (st' := [.inr (.inl a0)]) rfl ?_
  refine z_new hk (z_row hX7_init_0 18 rfl) (ci := 6) rfl wd_238 wd_239 wd_9 (fun q13 σ14 => ?_)
  refine z_run hk hX7_init_0 19 1 (pc' := 42) (lv' := [some (.inr (.inl a0))]) (st' := [.inr (.inl q13), .inr (.inl q13), .inr (.inl a0)]) rfl ?_
  refine kX6_init_n F hk (z_row hX7_init_0 20 rfl) wd_240 (by decide) (Nat.le_of_ble_eq_true rfl) (fun σ15 => ?_)
  refine z_pR hk 3 (z_row hX7_init_0 21 rfl) (ci := 7) rfl rfl wd_271 (fun _ => ⟨he.2.1, rfl⟩) (fun _ => ⟨rfl, rfl, rfl, rfl⟩) (fun σ16 => ?_)
  refine z_run hk hX7_init_0 22 2 (pc' := 50) (lv' := [some (.inr (.inl a0))]) (st' := [.inl 0, .inr (.inl a0)]) rfl ?_
  refine z_pI hk 5 (z_row hX7_init_0 24 rfl) (ci := 7) rfl rfl wd_273 rfl rfl rfl (fun σ17 => ?_)
  refine z_run hk hX7_init_0 25 2 (pc' := 55) (lv' := [some (.inr (.inl a0))]) (st' := [.inl (-1), .inr (.inl a0)]) rfl ?_
  refine z_pI hk 6 (z_row hX7_init_0 27 rfl) (ci := 7) rfl rfl wd_274 rfl rfl rfl (fun σ18 => ?_)
  exact z_vret hk he (z_row hX7_init_0 28 rfl) rfl
theorem kX7_init {n : Nat} {own : String} {cc : ByteArray} {nL h index : Nat} {α : Type} {fin : α → zO} {σ : zW} {pc : Nat} {lv : zLV} {st : List zV} {a0 : Nat} {c : zW → Option α} (F : zFx E) (hk : zk E K own cc nL h) (hd : decode cc pc = .ok (.invokespecial index, 3)) (hl : Cond.methodLink own index qX7_init ∈ lw_tbl) (hh : 4 + 1 ≤ h) (hs : zcat st ≤ 8) (k : ∀ s, zG E K fin (c s) s (pc + 3) lv st) : zG E K fin (if a0 = 0 then none else (zb (fX7_init n a0 σ) c)) σ pc lv (.inr (.inl a0) :: st) :=
  z_iV (n := 0) (y := qX7_init) (As := []) hk hd hl wd_26 wd_1 wd_27 rfl ⟨by decide, by decide, by decide +kernel⟩ ⟨hh, by decide⟩ rfl (fun o ho => mX7_init F n a0 σ o ho) hs k
abbrev qX7_needWithin : MethodName := { cls := "LotSales", name := "needWithin", desc := "(III)V" }
def sX7_needWithin_10 (n : Nat) (σ : zW) : Option ((Unit ⊕ Nat) × zW) := zth σ fun σ1 => some (.inr 2, σ1)
def fX7_needWithin (n : Nat) (a0 : Int32) (a1 : Int32) (a2 : Int32) (σ : zW) : Option ((Unit ⊕ Nat) × zW) := if a0 < a1 then sX7_needWithin_10 n σ else if a2 < a0 then sX7_needWithin_10 n σ else some (.inl (), σ)
theorem gsX7_needWithin_10 (F : zFx E) (n : Nat) (hk : zk E K "LotSales" cX7_needWithin 3 6) (he : zend E K none "needWithin") (ht : zthr E K) (σ : zW) : zG E K zfU (sX7_needWithin_10 n σ) σ 10 [none, none, none] [] := by
  unfold sX7_needWithin_10
  exact z_throwW hk ht (is := 401) (text := "an argument is out of range") (kx := 2) (by decide) (by decide) (by decide) (fun _ => rfl) (fun _ => rfl) wd_398 wd_353 wd_14 (by decide +kernel) (z_row hX7_needWithin_0 6 rfl) (z_row hX7_needWithin_0 7 rfl) (z_row hX7_needWithin_0 8 rfl) (z_row hX7_needWithin_0 9 rfl) (z_row hX7_needWithin_0 10 rfl) (by decide) (Nat.le_of_ble_eq_true rfl)
theorem mX7_needWithin (F : zFx E) (n : Nat) (a0 : Int32) (a1 : Int32) (a2 : Int32) (σ : zW) (o : (Unit ⊕ Nat) × zW) (hf : fX7_needWithin n a0 a1 a2 σ = some o) : zMX E qX7_needWithin (.code qX7_needWithin cX7_needWithin 3 none) 6 [.inl a0, .inl a1, .inl a2] σ (zfU o) := by
  refine zMX_of (fin := zfU) F (by decide +kernel) rfl (Nat.le_of_ble_eq_true rfl) (lv0 := [some (.inl a0), some (.inl a1), some (.inl a2)]) rfl hf rfl (fun K hk he ht => ?_)
  have hk : zk E K "LotSales" cX7_needWithin 3 6 := hk
  unfold fX7_needWithin
  refine z_run hk hX7_needWithin_0 0 2 (pc' := 2) (lv' := [some (.inl a0), some (.inl a1), some (.inl a2)]) (st' := [.inl a1, .inl a0]) rfl ?_
  refine z_clt hk (z_row hX7_needWithin_0 2 rfl) (tgt := 10) rfl ?_ ?_
  · refine z_mask [false, false, false] rfl ?_
    exact gsX7_needWithin_10 F n hk he ht σ
  · refine z_run hk hX7_needWithin_0 3 2 (pc' := 7) (lv' := [some (.inl a0), some (.inl a1), some (.inl a2)]) (st' := [.inl a2, .inl a0]) rfl ?_
    refine z_cle hk (z_row hX7_needWithin_0 5 rfl) (tgt := 21) rfl ?_ ?_
    · exact z_vret hk he (z_row hX7_needWithin_0 11 rfl) rfl
    · refine z_mask [false, false, false] rfl ?_
      exact gsX7_needWithin_10 F n hk he ht σ
theorem kX7_needWithin {n : Nat} {own : String} {cc : ByteArray} {nL h index : Nat} {α : Type} {fin : α → zO} {σ : zW} {pc : Nat} {lv : zLV} {st : List zV} {a0 : Int32} {a1 : Int32} {a2 : Int32} {c : Unit → zW → Option α} {t : Nat → zW → Option α} (F : zFx E) (hk : zk E K own cc nL h) (hd : decode cc pc = .ok (.invokestatic index, 3)) (hl : Cond.methodLink own index qX7_needWithin ∈ lw_tbl) (hh : 6 + 1 ≤ h) (hs : zcat st ≤ 8) (k : ∀ v s, zG E K fin (c v s) s (pc + 3) lv (st)) (kt : ∀ kx s, zT E K fin (t kx s) kx s pc lv) : zG E K fin (zbx (fX7_needWithin n a0 a1 a2 σ) c t) σ pc lv (.inl a2 :: .inl a1 :: .inl a0 :: st) :=
  z_qU (n := 3) (y := qX7_needWithin) (As := [.inl a0, .inl a1, .inl a2]) hk hd hl wd_351 wd_1 wd_352 ⟨by decide, by decide, by decide +kernel⟩ ⟨hh, by decide⟩ rfl (fun o ho => mX7_needWithin F n a0 a1 a2 σ o ho) hs k kt
abbrev qX7_needRoomForLots : MethodName := { cls := "LotSales", name := "needRoomForLots", desc := "(I)V" }
def fX7_needRoomForLots (n : Nat) (a0 : Nat) (a1 : Int32) (σ : zW) : Option ((Unit ⊕ Nat) × zW) := zgR σ 8 a0 0 fun x1 => zgI σ 4 x1 5 fun x2 => if 20 < (x2 + a1) then zth σ fun σ3 => some (.inr 3, σ3) else some (.inl (), σ)
theorem mX7_needRoomForLots (F : zFx E) (n : Nat) (a0 : Nat) (a1 : Int32) (σ : zW) (o : (Unit ⊕ Nat) × zW) (hf : fX7_needRoomForLots n a0 a1 σ = some o) : zMX E qX7_needRoomForLots (.code qX7_needRoomForLots cX7_needRoomForLots 2 none) 6 [.inr (.inl a0), .inl a1] σ (zfU o) := by
  refine zMX_of (fin := zfU) F (by decide +kernel) rfl (Nat.le_of_ble_eq_true rfl) (lv0 := [some (.inr (.inl a0)), some (.inl a1)]) rfl hf rfl (fun K hk he ht => ?_)
  have hk : zk E K "LotSales" cX7_needRoomForLots 2 6 := hk
  unfold fX7_needRoomForLots
  refine z_run hk hX7_needRoomForLots_0 0 1 (pc' := 1) (lv' := [some (.inr (.inl a0)), some (.inl a1)]) (st' := [.inr (.inl a0)]) rfl ?_
  refine z_gR hk 0 (z_row hX7_needRoomForLots_0 1 rfl) (ci := 7) rfl rfl wd_268 (fun x1 => ?_)
  refine z_gI hk 5 (z_row hX7_needRoomForLots_0 2 rfl) (ci := 3) rfl rfl wd_171 (fun x2 => ?_)
  refine z_run hk hX7_needRoomForLots_0 3 3 (pc' := 11) (lv' := [some (.inr (.inl a0)), some (.inl a1)]) (st' := [.inl 20, .inl (x2 + a1)]) rfl ?_
  refine z_cle hk (z_row hX7_needRoomForLots_0 6 rfl) (tgt := 25) rfl ?_ ?_
  · exact z_vret hk he (z_row hX7_needRoomForLots_0 12 rfl) rfl
  · exact z_throwW hk ht (is := 405) (text := "too many lots") (kx := 3) (by decide) (by decide) (by decide) (fun _ => rfl) (fun _ => rfl) wd_439 wd_430 wd_15 (by decide +kernel) (z_row hX7_needRoomForLots_0 7 rfl) (z_row hX7_needRoomForLots_0 8 rfl) (z_row hX7_needRoomForLots_0 9 rfl) (z_row hX7_needRoomForLots_0 10 rfl) (z_row hX7_needRoomForLots_0 11 rfl) (by decide) (Nat.le_of_ble_eq_true rfl)
theorem kX7_needRoomForLots {n : Nat} {own : String} {cc : ByteArray} {nL h index : Nat} {α : Type} {fin : α → zO} {σ : zW} {pc : Nat} {lv : zLV} {st : List zV} {a0 : Nat} {a1 : Int32} {c : Unit → zW → Option α} {t : Nat → zW → Option α} (F : zFx E) (hk : zk E K own cc nL h) (hd : decode cc pc = .ok (.invokevirtual index, 3)) (hl : Cond.methodLink own index qX7_needRoomForLots ∈ lw_tbl) (hh : 6 + 1 ≤ h) (hs : zcat st ≤ 8) (k : ∀ v s, zG E K fin (c v s) s (pc + 3) lv (st)) (kt : ∀ kx s, zT E K fin (t kx s) kx s pc lv) : zG E K fin (zck σ 8 a0 (zbx (fX7_needRoomForLots n a0 a1 σ) c t)) σ pc lv (.inl a1 :: .inr (.inl a0) :: st) :=
  z_vU (n := 1) (y := qX7_needRoomForLots) (As := [.inl a1]) hk hd hl wd_428 ws_1 wd_1 wd_429 ⟨by decide, by decide, by decide +kernel⟩ ⟨hh, by decide⟩ (ci := 7) rfl rfl rfl (fun o ho => mX7_needRoomForLots F n a0 a1 σ o ho) hs k kt
abbrev qX7_addLot : MethodName := { cls := "LotSales", name := "addLot", desc := "(III)I" }
def fX7_addLot (n : Nat) (a0 : Nat) (a1 : Int32) (a2 : Int32) (a3 : Int32) (σ : zW) : Option ((Int32 ⊕ Nat) × zW) := zbx (fX7_needWithin n a1 0 5 σ) (fun _ σ2 => zbx (fX7_needWithin n a2 1 20 σ2) (fun _ σ6 => zbx (fX7_needWithin n a3 0 90000 σ6) (fun _ σ10 => zck σ10 8 a0 (zbx (fX7_needRoomForLots n a0 1 σ10) (fun _ σ14 => zgR σ14 8 a0 2 fun x17 => zgR σ14 8 a0 0 fun x18 => zck σ14 1 x17 (zb (fX0_keep n x17 x18 σ14) fun σ19 => zgR σ19 8 a0 0 fun x20 => zck σ19 4 x20 (zb2 (fX3_makeLot n x20 a1 a2 a3 σ19) fun x21 σ22 => some (.inl x21, σ22)))) (fun e15 σ16 => some (.inr e15, σ16)))) (fun e11 σ12 => some (.inr e11, σ12))) (fun e7 σ8 => some (.inr e7, σ8))) (fun e3 σ4 => some (.inr e3, σ4))
theorem mX7_addLot (F : zFx E) (n : Nat) (a0 : Nat) (a1 : Int32) (a2 : Int32) (a3 : Int32) (σ : zW) (o : (Int32 ⊕ Nat) × zW) (hf : fX7_addLot n a0 a1 a2 a3 σ = some o) : zMX E qX7_addLot (.code qX7_addLot cX7_addLot 4 (some .int)) 7 [.inr (.inl a0), .inl a1, .inl a2, .inl a3] σ (zfT o) := by
  refine zMX_of (fin := zfT) F (by decide +kernel) rfl (Nat.le_of_ble_eq_true rfl) (lv0 := [some (.inr (.inl a0)), some (.inl a1), some (.inl a2), some (.inl a3)]) rfl hf rfl (fun K hk he ht => ?_)
  have hk : zk E K "LotSales" cX7_addLot 4 7 := hk
  unfold fX7_addLot
  refine z_run hk hX7_addLot_0 0 3 (pc' := 3) (lv' := [some (.inr (.inl a0)), some (.inl a1), some (.inl a2), some (.inl a3)]) (st' := [.inl 5, .inl 0, .inl a1]) rfl ?_
  refine kX7_needWithin F hk (z_row hX7_addLot_0 3 rfl) wd_350 (by decide) (Nat.le_of_ble_eq_true rfl) (fun x1 σ2 => ?_) (fun e3 σ4 => ?_)
  · refine z_run hk hX7_addLot_0 4 3 (pc' := 10) (lv' := [some (.inr (.inl a0)), some (.inl a1), some (.inl a2), some (.inl a3)]) (st' := [.inl 20, .inl 1, .inl a2]) rfl ?_
    refine kX7_needWithin F hk (z_row hX7_addLot_0 7 rfl) wd_350 (by decide) (Nat.le_of_ble_eq_true rfl) (fun x5 σ6 => ?_) (fun e7 σ8 => ?_)
    · refine z_run hk hX7_addLot_0 8 2 (pc' := 15) (lv' := [some (.inr (.inl a0)), some (.inl a1), some (.inl a2), some (.inl a3)]) (st' := [.inl 0, .inl a3]) rfl ?_
      refine z_ldc hk (z_row hX7_addLot_0 10 rfl) wd_425 ?_
      refine kX7_needWithin F hk (z_row hX7_addLot_0 11 rfl) wd_350 (by decide) (Nat.le_of_ble_eq_true rfl) (fun x9 σ10 => ?_) (fun e11 σ12 => ?_)
      · refine z_run hk hX7_addLot_0 12 2 (pc' := 22) (lv' := [some (.inr (.inl a0)), some (.inl a1), some (.inl a2), some (.inl a3)]) (st' := [.inl 1, .inr (.inl a0)]) rfl ?_
        refine kX7_needRoomForLots F hk (z_row hX7_addLot_0 14 rfl) wd_426 (by decide) (Nat.le_of_ble_eq_true rfl) (fun x13 σ14 => ?_) (fun e15 σ16 => ?_)
        · refine z_run hk hX7_addLot_0 15 1 (pc' := 26) (lv' := [some (.inr (.inl a0)), some (.inl a1), some (.inl a2), some (.inl a3)]) (st' := [.inr (.inl a0)]) rfl ?_
          refine z_gR hk 2 (z_row hX7_addLot_0 16 rfl) (ci := 7) rfl rfl wd_270 (fun x17 => ?_)
          refine z_run hk hX7_addLot_0 17 1 (pc' := 30) (lv' := [some (.inr (.inl a0)), some (.inl a1), some (.inl a2), some (.inl a3)]) (st' := [.inr (.inl a0), .inr (.inl x17)]) rfl ?_
          refine z_gR hk 0 (z_row hX7_addLot_0 18 rfl) (ci := 7) rfl rfl wd_268 (fun x18 => ?_)
          refine kX0_keep F hk (z_row hX7_addLot_0 19 rfl) wd_446 (by decide) (Nat.le_of_ble_eq_true rfl) (fun σ19 => ?_)
          refine z_run hk hX7_addLot_0 20 1 (pc' := 37) (lv' := [some (.inr (.inl a0)), some (.inl a1), some (.inl a2), some (.inl a3)]) (st' := [.inr (.inl a0)]) rfl ?_
          refine z_gR hk 0 (z_row hX7_addLot_0 21 rfl) (ci := 7) rfl rfl wd_268 (fun x20 => ?_)
          refine z_run hk hX7_addLot_0 22 3 (pc' := 43) (lv' := [some (.inr (.inl a0)), some (.inl a1), some (.inl a2), some (.inl a3)]) (st' := [.inl a3, .inl a2, .inl a1, .inr (.inl x20)]) rfl ?_
          refine kX3_makeLot F hk (z_row hX7_addLot_0 25 rfl) wd_455 (by decide) (Nat.le_of_ble_eq_true rfl) (fun x21 σ22 => ?_)
          exact z_iret hk he (z_row hX7_addLot_0 26 rfl) rfl
        · exact z_out hk ht rfl
      · exact z_out hk ht rfl
    · exact z_out hk ht rfl
  · exact z_out hk ht rfl
theorem kX7_addLot {n : Nat} {own : String} {cc : ByteArray} {nL h index : Nat} {α : Type} {fin : α → zO} {σ : zW} {pc : Nat} {lv : zLV} {st : List zV} {a0 : Nat} {a1 : Int32} {a2 : Int32} {a3 : Int32} {c : Int32 → zW → Option α} {t : Nat → zW → Option α} (F : zFx E) (hk : zk E K own cc nL h) (hd : decode cc pc = .ok (.invokevirtual index, 3)) (hl : Cond.methodLink own index qX7_addLot ∈ lw_tbl) (hh : 7 + 1 ≤ h) (hs : zcat st ≤ 8) (k : ∀ v s, zG E K fin (c v s) s (pc + 3) lv (.inl v :: st)) (kt : ∀ kx s, zT E K fin (t kx s) kx s pc lv) : zG E K fin (zck σ 8 a0 (zbx (fX7_addLot n a0 a1 a2 a3 σ) c t)) σ pc lv (.inl a3 :: .inl a2 :: .inl a1 :: .inr (.inl a0) :: st) :=
  z_vT (n := 3) (y := qX7_addLot) (As := [.inl a1, .inl a2, .inl a3]) hk hd hl wd_347 wd_348 wd_1 wd_349 ⟨by decide, by decide, by decide +kernel⟩ ⟨hh, by decide⟩ (ci := 7) rfl rfl rfl (fun o ho => mX7_addLot F n a0 a1 a2 a3 σ o ho) hs k kt
abbrev qX7_needLot : MethodName := { cls := "LotSales", name := "needLot", desc := "(I)V" }
def fX7_needLot (n : Nat) (a0 : Nat) (a1 : Int32) (σ : zW) : Option ((Unit ⊕ Nat) × zW) := zgR σ 8 a0 0 fun x1 => zck σ 4 x1 (zb (fX3_has n x1 a1 σ) fun x2 => if x2 = 0 then zth σ fun σ3 => some (.inr 1, σ3) else some (.inl (), σ))
theorem mX7_needLot (F : zFx E) (n : Nat) (a0 : Nat) (a1 : Int32) (σ : zW) (o : (Unit ⊕ Nat) × zW) (hf : fX7_needLot n a0 a1 σ = some o) : zMX E qX7_needLot (.code qX7_needLot cX7_needLot 2 none) 6 [.inr (.inl a0), .inl a1] σ (zfU o) := by
  refine zMX_of (fin := zfU) F (by decide +kernel) rfl (Nat.le_of_ble_eq_true rfl) (lv0 := [some (.inr (.inl a0)), some (.inl a1)]) rfl hf rfl (fun K hk he ht => ?_)
  have hk : zk E K "LotSales" cX7_needLot 2 6 := hk
  unfold fX7_needLot
  refine z_run hk hX7_needLot_0 0 1 (pc' := 1) (lv' := [some (.inr (.inl a0)), some (.inl a1)]) (st' := [.inr (.inl a0)]) rfl ?_
  refine z_gR hk 0 (z_row hX7_needLot_0 1 rfl) (ci := 7) rfl rfl wd_268 (fun x1 => ?_)
  refine z_run hk hX7_needLot_0 2 1 (pc' := 5) (lv' := [some (.inr (.inl a0)), some (.inl a1)]) (st' := [.inl a1, .inr (.inl x1)]) rfl ?_
  refine kX3_has F hk (z_row hX7_needLot_0 3 rfl) wd_514 (by decide) (Nat.le_of_ble_eq_true rfl) (fun x2 => ?_)
  refine z_ne hk (z_row hX7_needLot_0 4 rfl) (tgt := 22) rfl ?_ ?_
  · exact z_vret hk he (z_row hX7_needLot_0 10 rfl) rfl
  · exact z_throwW hk ht (is := 394) (text := "no such lot") (kx := 1) (by decide) (by decide) (by decide) (fun _ => rfl) (fun _ => rfl) wd_524 wd_515 wd_17 (by decide +kernel) (z_row hX7_needLot_0 5 rfl) (z_row hX7_needLot_0 6 rfl) (z_row hX7_needLot_0 7 rfl) (z_row hX7_needLot_0 8 rfl) (z_row hX7_needLot_0 9 rfl) (by decide) (Nat.le_of_ble_eq_true rfl)
theorem kX7_needLot {n : Nat} {own : String} {cc : ByteArray} {nL h index : Nat} {α : Type} {fin : α → zO} {σ : zW} {pc : Nat} {lv : zLV} {st : List zV} {a0 : Nat} {a1 : Int32} {c : Unit → zW → Option α} {t : Nat → zW → Option α} (F : zFx E) (hk : zk E K own cc nL h) (hd : decode cc pc = .ok (.invokevirtual index, 3)) (hl : Cond.methodLink own index qX7_needLot ∈ lw_tbl) (hh : 6 + 1 ≤ h) (hs : zcat st ≤ 8) (k : ∀ v s, zG E K fin (c v s) s (pc + 3) lv (st)) (kt : ∀ kx s, zT E K fin (t kx s) kx s pc lv) : zG E K fin (zck σ 8 a0 (zbx (fX7_needLot n a0 a1 σ) c t)) σ pc lv (.inl a1 :: .inr (.inl a0) :: st) :=
  z_vU (n := 1) (y := qX7_needLot) (As := [.inl a1]) hk hd hl wd_512 ws_2 wd_1 wd_513 ⟨by decide, by decide, by decide +kernel⟩ ⟨hh, by decide⟩ (ci := 7) rfl rfl rfl (fun o ho => mX7_needLot F n a0 a1 σ o ho) hs k kt
abbrev qX7_lot : MethodName := { cls := "LotSales", name := "lot", desc := "(II)I" }
def fX7_lot (n : Nat) (a0 : Nat) (a1 : Int32) (a2 : Int32) (σ : zW) : Option ((Int32 ⊕ Nat) × zW) := zck σ 8 a0 (zbx (fX7_needLot n a0 a1 σ) (fun _ σ2 => zbx (fX7_needWithin n a2 0 4 σ2) (fun _ σ6 => zgR σ6 8 a0 0 fun x9 => zgR σ6 4 x9 3 fun x10 => zaR σ6 25 x10 a1 fun x11 => if a2 = 0 then zgI σ6 3 x11 4 fun x12 => some (.inl x12, σ6) else if a2 = 1 then zgI σ6 3 x11 5 fun x13 => some (.inl x13, σ6) else if a2 = 2 then zgI σ6 3 x11 6 fun x14 => some (.inl x14, σ6) else if a2 = 3 then zgI σ6 3 x11 7 fun x15 => some (.inl x15, σ6) else zgI σ6 3 x11 8 fun x16 => some (.inl x16, σ6)) (fun e7 σ8 => some (.inr e7, σ8))) (fun e3 σ4 => some (.inr e3, σ4)))
theorem mX7_lot (F : zFx E) (n : Nat) (a0 : Nat) (a1 : Int32) (a2 : Int32) (σ : zW) (o : (Int32 ⊕ Nat) × zW) (hf : fX7_lot n a0 a1 a2 σ = some o) : zMX E qX7_lot (.code qX7_lot cX7_lot 4 (some .int)) 7 [.inr (.inl a0), .inl a1, .inl a2] σ (zfT o) := by
  refine zMX_of (fin := zfT) F (by decide +kernel) rfl (Nat.le_of_ble_eq_true rfl) (lv0 := [some (.inr (.inl a0)), some (.inl a1), some (.inl a2), none]) rfl hf rfl (fun K hk he ht => ?_)
  have hk : zk E K "LotSales" cX7_lot 4 7 := hk
  unfold fX7_lot
  refine z_run hk hX7_lot_0 0 2 (pc' := 2) (lv' := [some (.inr (.inl a0)), some (.inl a1), some (.inl a2), none]) (st' := [.inl a1, .inr (.inl a0)]) rfl ?_
  refine kX7_needLot F hk (z_row hX7_lot_0 2 rfl) wd_510 (by decide) (Nat.le_of_ble_eq_true rfl) (fun x1 σ2 => ?_) (fun e3 σ4 => ?_)
  · refine z_run hk hX7_lot_0 3 3 (pc' := 8) (lv' := [some (.inr (.inl a0)), some (.inl a1), some (.inl a2), none]) (st' := [.inl 4, .inl 0, .inl a2]) rfl ?_
    refine kX7_needWithin F hk (z_row hX7_lot_0 6 rfl) wd_350 (by decide) (Nat.le_of_ble_eq_true rfl) (fun x5 σ6 => ?_) (fun e7 σ8 => ?_)
    · refine z_run hk hX7_lot_0 7 1 (pc' := 12) (lv' := [some (.inr (.inl a0)), some (.inl a1), some (.inl a2), none]) (st' := [.inr (.inl a0)]) rfl ?_
      refine z_gR hk 0 (z_row hX7_lot_0 8 rfl) (ci := 7) rfl rfl wd_268 (fun x9 => ?_)
      refine z_gR hk 3 (z_row hX7_lot_0 9 rfl) (ci := 3) rfl rfl wd_167 (fun x10 => ?_)
      refine z_run hk hX7_lot_0 10 1 (pc' := 19) (lv' := [some (.inr (.inl a0)), some (.inl a1), some (.inl a2), none]) (st' := [.inl a1, .inr (.inl x10)]) rfl ?_
      refine z_aR hk (κ := 25) (by decide) (z_row hX7_lot_0 11 rfl) (fun x11 => ?_)
      refine z_run hk hX7_lot_0 12 2 (pc' := 22) (lv' := [some (.inr (.inl a0)), some (.inl a1), some (.inl a2), some (.inr (.inl x11))]) (st' := [.inl a2]) rfl ?_
      refine z_tabI hk (z_row hX7_lot_0 14 rfl) (c := 0) (tgt := 52) (by decide) (by decide) rfl rfl ?_ (fun hn0 => ?_)
      · refine z_run hk hX7_lot_0 15 1 (pc' := 53) (lv' := [some (.inr (.inl a0)), some (.inl a1), some (.inl a2), some (.inr (.inl x11))]) (st' := [.inr (.inl x11)]) rfl ?_
        refine z_gI hk 4 (z_row hX7_lot_0 16 rfl) (ci := 2) rfl rfl wd_113 (fun x12 => ?_)
        exact z_iret hk he (z_row hX7_lot_0 17 rfl) rfl
      refine z_tabI hk (z_row hX7_lot_0 14 rfl) (c := 1) (tgt := 57) (by decide) (by decide) rfl rfl ?_ (fun hn1 => ?_)
      · refine z_run hk hX7_lot_0 18 1 (pc' := 58) (lv' := [some (.inr (.inl a0)), some (.inl a1), some (.inl a2), some (.inr (.inl x11))]) (st' := [.inr (.inl x11)]) rfl ?_
        refine z_gI hk 5 (z_row hX7_lot_0 19 rfl) (ci := 2) rfl rfl wd_116 (fun x13 => ?_)
        exact z_iret hk he (z_row hX7_lot_0 20 rfl) rfl
      refine z_tabI hk (z_row hX7_lot_0 14 rfl) (c := 2) (tgt := 62) (by decide) (by decide) rfl rfl ?_ (fun hn2 => ?_)
      · refine z_run hk hX7_lot_0 21 1 (pc' := 63) (lv' := [some (.inr (.inl a0)), some (.inl a1), some (.inl a2), some (.inr (.inl x11))]) (st' := [.inr (.inl x11)]) rfl ?_
        refine z_gI hk 6 (z_row hX7_lot_0 22 rfl) (ci := 2) rfl rfl wd_119 (fun x14 => ?_)
        exact z_iret hk he (z_row hX7_lot_0 23 rfl) rfl
      refine z_tabI hk (z_row hX7_lot_0 14 rfl) (c := 3) (tgt := 67) (by decide) (by decide) rfl rfl ?_ (fun hn3 => ?_)
      · refine z_run hk hX7_lot_0 24 1 (pc' := 68) (lv' := [some (.inr (.inl a0)), some (.inl a1), some (.inl a2), some (.inr (.inl x11))]) (st' := [.inr (.inl x11)]) rfl ?_
        refine z_gI hk 7 (z_row hX7_lot_0 25 rfl) (ci := 2) rfl rfl wd_123 (fun x15 => ?_)
        exact z_iret hk he (z_row hX7_lot_0 26 rfl) rfl
      have hi0 := z_ne_toInt hn0 (n := 0) (by decide)
      have hi1 := z_ne_toInt hn1 (n := 1) (by decide)
      have hi2 := z_ne_toInt hn2 (n := 2) (by decide)
      have hi3 := z_ne_toInt hn3 (n := 3) (by decide)
      refine z_tabO hk (z_row hX7_lot_0 14 rfl) (tgt := 72) (by omega) rfl ?_
      refine z_run hk hX7_lot_0 27 1 (pc' := 73) (lv' := [some (.inr (.inl a0)), some (.inl a1), some (.inl a2), some (.inr (.inl x11))]) (st' := [.inr (.inl x11)]) rfl ?_
      refine z_gI hk 8 (z_row hX7_lot_0 28 rfl) (ci := 2) rfl rfl wd_126 (fun x16 => ?_)
      exact z_iret hk he (z_row hX7_lot_0 29 rfl) rfl
    · exact z_out hk ht rfl
  · exact z_out hk ht rfl
theorem kX7_lot {n : Nat} {own : String} {cc : ByteArray} {nL h index : Nat} {α : Type} {fin : α → zO} {σ : zW} {pc : Nat} {lv : zLV} {st : List zV} {a0 : Nat} {a1 : Int32} {a2 : Int32} {c : Int32 → zW → Option α} {t : Nat → zW → Option α} (F : zFx E) (hk : zk E K own cc nL h) (hd : decode cc pc = .ok (.invokevirtual index, 3)) (hl : Cond.methodLink own index qX7_lot ∈ lw_tbl) (hh : 7 + 1 ≤ h) (hs : zcat st ≤ 8) (k : ∀ v s, zG E K fin (c v s) s (pc + 3) lv (.inl v :: st)) (kt : ∀ kx s, zT E K fin (t kx s) kx s pc lv) : zG E K fin (zck σ 8 a0 (zbx (fX7_lot n a0 a1 a2 σ) c t)) σ pc lv (.inl a2 :: .inl a1 :: .inr (.inl a0) :: st) :=
  z_vT (n := 2) (y := qX7_lot) (As := [.inl a1, .inl a2]) hk hd hl wd_507 wd_508 wd_1 wd_509 ⟨by decide, by decide, by decide +kernel⟩ ⟨hh, by decide⟩ (ci := 7) rfl rfl rfl (fun o ho => mX7_lot F n a0 a1 a2 σ o ho) hs k kt
abbrev qX7_lots : MethodName := { cls := "LotSales", name := "lots", desc := "(I)I" }
def sX7_lots_30 (n : Nat) (y0 : Int32) (σ : zW) : Option ((Int32 ⊕ Nat) × zW) := some (.inl y0, σ)
def fX7_lots (n : Nat) (a0 : Nat) (a1 : Int32) (σ : zW) : Option ((Int32 ⊕ Nat) × zW) := zbx (fX7_needWithin n a1 (-1) 6 σ) (fun _ σ2 => if a1 = (-1) then zgR σ2 8 a0 0 fun x7 => zgI σ2 4 x7 5 fun x8 => sX7_lots_30 n x8 σ2 else zgR σ2 8 a0 0 fun x5 => zck σ2 4 x5 (zb (fX3_lotsIn n x5 a1 σ2) fun x6 => sX7_lots_30 n x6 σ2)) (fun e3 σ4 => some (.inr e3, σ4))
theorem gsX7_lots_30 (F : zFx E) (n : Nat) (hk : zk E K "LotSales" cX7_lots 2 7) (he : zend E K (some .int) "lots") (ht : zthr E K) (y0 : Int32) (σ : zW) : zG E K zfT (sX7_lots_30 n y0 σ) σ 30 [none, none] [.inl y0] := by
  unfold sX7_lots_30
  exact z_iret hk he (z_row hX7_lots_0 15 rfl) rfl
theorem mX7_lots (F : zFx E) (n : Nat) (a0 : Nat) (a1 : Int32) (σ : zW) (o : (Int32 ⊕ Nat) × zW) (hf : fX7_lots n a0 a1 σ = some o) : zMX E qX7_lots (.code qX7_lots cX7_lots 2 (some .int)) 7 [.inr (.inl a0), .inl a1] σ (zfT o) := by
  refine zMX_of (fin := zfT) F (by decide +kernel) rfl (Nat.le_of_ble_eq_true rfl) (lv0 := [some (.inr (.inl a0)), some (.inl a1)]) rfl hf rfl (fun K hk he ht => ?_)
  have hk : zk E K "LotSales" cX7_lots 2 7 := hk
  unfold fX7_lots
  refine z_run hk hX7_lots_0 0 3 (pc' := 4) (lv' := [some (.inr (.inl a0)), some (.inl a1)]) (st' := [.inl 6, .inl (-1), .inl a1]) rfl ?_
  refine kX7_needWithin F hk (z_row hX7_lots_0 3 rfl) wd_350 (by decide) (Nat.le_of_ble_eq_true rfl) (fun x1 σ2 => ?_) (fun e3 σ4 => ?_)
  · refine z_run hk hX7_lots_0 4 2 (pc' := 9) (lv' := [some (.inr (.inl a0)), some (.inl a1)]) (st' := [.inl (-1), .inl a1]) rfl ?_
    refine z_cne hk (z_row hX7_lots_0 6 rfl) (tgt := 22) rfl ?_ ?_
    · refine z_run hk hX7_lots_0 11 1 (pc' := 23) (lv' := [some (.inr (.inl a0)), some (.inl a1)]) (st' := [.inr (.inl a0)]) rfl ?_
      refine z_gR hk 0 (z_row hX7_lots_0 12 rfl) (ci := 7) rfl rfl wd_268 (fun x5 => ?_)
      refine z_run hk hX7_lots_0 13 1 (pc' := 27) (lv' := [some (.inr (.inl a0)), some (.inl a1)]) (st' := [.inl a1, .inr (.inl x5)]) rfl ?_
      refine kX3_lotsIn F hk (z_row hX7_lots_0 14 rfl) wd_535 (by decide) (Nat.le_of_ble_eq_true rfl) (fun x6 => ?_)
      refine z_mask [false, false] rfl ?_
      exact gsX7_lots_30 F n hk he ht x6 σ2
    · refine z_run hk hX7_lots_0 7 1 (pc' := 13) (lv' := [some (.inr (.inl a0)), some (.inl a1)]) (st' := [.inr (.inl a0)]) rfl ?_
      refine z_gR hk 0 (z_row hX7_lots_0 8 rfl) (ci := 7) rfl rfl wd_268 (fun x7 => ?_)
      refine z_gI hk 5 (z_row hX7_lots_0 9 rfl) (ci := 3) rfl rfl wd_171 (fun x8 => ?_)
      refine z_goto hk (z_row hX7_lots_0 10 rfl) (tgt := 30) rfl ?_
      refine z_mask [false, false] rfl ?_
      exact gsX7_lots_30 F n hk he ht x8 σ2
  · exact z_out hk ht rfl
theorem kX7_lots {n : Nat} {own : String} {cc : ByteArray} {nL h index : Nat} {α : Type} {fin : α → zO} {σ : zW} {pc : Nat} {lv : zLV} {st : List zV} {a0 : Nat} {a1 : Int32} {c : Int32 → zW → Option α} {t : Nat → zW → Option α} (F : zFx E) (hk : zk E K own cc nL h) (hd : decode cc pc = .ok (.invokevirtual index, 3)) (hl : Cond.methodLink own index qX7_lots ∈ lw_tbl) (hh : 7 + 1 ≤ h) (hs : zcat st ≤ 8) (k : ∀ v s, zG E K fin (c v s) s (pc + 3) lv (.inl v :: st)) (kt : ∀ kx s, zT E K fin (t kx s) kx s pc lv) : zG E K fin (zck σ 8 a0 (zbx (fX7_lots n a0 a1 σ) c t)) σ pc lv (.inl a1 :: .inr (.inl a0) :: st) :=
  z_vT (n := 1) (y := qX7_lots) (As := [.inl a1]) hk hd hl wd_532 wd_533 wd_1 wd_534 ⟨by decide, by decide, by decide +kernel⟩ ⟨hh, by decide⟩ (ci := 7) rfl rfl rfl (fun o ho => mX7_lots F n a0 a1 σ o ho) hs k kt
abbrev qX7_setRows : MethodName := { cls := "LotSales", name := "setRows", desc := "(III)I" }
def sX7_setRows_24 (n : Nat) (σ : zW) : Option ((Int32 ⊕ Nat) × zW) := zth σ fun σ1 => some (.inr 1, σ1)
def fX7_setRows (n : Nat) (a0 : Nat) (a1 : Int32) (a2 : Int32) (a3 : Int32) (σ : zW) : Option ((Int32 ⊕ Nat) × zW) := if a1 < 0 then sX7_setRows_24 n σ else if a1 < 6 then zgR σ 8 a0 0 fun x2 => zgR σ 4 x2 0 fun x3 => zgI σ 6 x3 2 fun x4 => if x4 < a1 then sX7_setRows_24 n σ else zbx (fX7_needWithin n a2 0 90000 σ) (fun _ σ6 => zbx (fX7_needWithin n a3 1 5000 σ6) (fun _ σ10 => zgR σ10 8 a0 0 fun x13 => zgR σ10 4 x13 0 fun x14 => zck σ10 6 x14 (zb (fX5_canFollow n x14 a1 a2 σ10) fun x15 => if x15 = 0 then zth σ10 fun σ28 => some (.inr 2, σ28) else zgR σ10 8 a0 0 fun x16 => zck σ10 4 x16 (zb (fX3_lotsIn n x16 1 σ10) fun x17 => if 0 < x17 then zth σ10 fun σ27 => some (.inr 3, σ27) else zgR σ10 8 a0 2 fun x18 => zgR σ10 8 a0 0 fun x19 => zck σ10 1 x18 (zb (fX0_keep n x18 x19 σ10) fun σ20 => zgR σ20 8 a0 0 fun x21 => zgR σ20 4 x21 0 fun x22 => zck σ20 6 x22 (zb (fX5_putLast n x22 a1 a2 a3 σ20) fun σ23 => zgR σ23 8 a0 0 fun x24 => zgR σ23 4 x24 0 fun x25 => zgI σ23 6 x25 2 fun x26 => some (.inl x26, σ23)))))) (fun e11 σ12 => some (.inr e11, σ12))) (fun e7 σ8 => some (.inr e7, σ8)) else sX7_setRows_24 n σ
theorem gsX7_setRows_24 (F : zFx E) (n : Nat) (hk : zk E K "LotSales" cX7_setRows 4 7) (he : zend E K (some .int) "setRows") (ht : zthr E K) (σ : zW) : zG E K zfT (sX7_setRows_24 n σ) σ 24 [none, none, none, none] [] := by
  unfold sX7_setRows_24
  exact z_throw hk ht (is := 103) (text := "so many rows cannot stay") (kx := 1) (by decide) (by decide) (by decide) (fun _ => rfl) (fun _ => rfl) wd_546 wd_515 wd_17 (by decide +kernel) (z_row hX7_setRows_0 11 rfl) (z_row hX7_setRows_0 12 rfl) (z_row hX7_setRows_0 13 rfl) (z_row hX7_setRows_0 14 rfl) (z_row hX7_setRows_0 15 rfl) (by decide) (Nat.le_of_ble_eq_true rfl)
theorem mX7_setRows (F : zFx E) (n : Nat) (a0 : Nat) (a1 : Int32) (a2 : Int32) (a3 : Int32) (σ : zW) (o : (Int32 ⊕ Nat) × zW) (hf : fX7_setRows n a0 a1 a2 a3 σ = some o) : zMX E qX7_setRows (.code qX7_setRows cX7_setRows 4 (some .int)) 7 [.inr (.inl a0), .inl a1, .inl a2, .inl a3] σ (zfT o) := by
  refine zMX_of (fin := zfT) F (by decide +kernel) rfl (Nat.le_of_ble_eq_true rfl) (lv0 := [some (.inr (.inl a0)), some (.inl a1), some (.inl a2), some (.inl a3)]) rfl hf rfl (fun K hk he ht => ?_)
  have hk : zk E K "LotSales" cX7_setRows 4 7 := hk
  unfold fX7_setRows
  refine z_run hk hX7_setRows_0 0 1 (pc' := 1) (lv' := [some (.inr (.inl a0)), some (.inl a1), some (.inl a2), some (.inl a3)]) (st' := [.inl a1]) rfl ?_
  refine z_lt hk (z_row hX7_setRows_0 1 rfl) (tgt := 24) rfl ?_ ?_
  · refine z_mask [false, false, false, false] rfl ?_
    exact gsX7_setRows_24 F n hk he ht σ
  · refine z_run hk hX7_setRows_0 2 2 (pc' := 7) (lv' := [some (.inr (.inl a0)), some (.inl a1), some (.inl a2), some (.inl a3)]) (st' := [.inl 6, .inl a1]) rfl ?_
    refine z_cge hk (z_row hX7_setRows_0 4 rfl) (tgt := 24) rfl ?_ ?_
    · refine z_mask [false, false, false, false] rfl ?_
      exact gsX7_setRows_24 F n hk he ht σ
    · refine z_run hk hX7_setRows_0 5 2 (pc' := 12) (lv' := [some (.inr (.inl a0)), some (.inl a1), some (.inl a2), some (.inl a3)]) (st' := [.inr (.inl a0), .inl a1]) rfl ?_
      refine z_gR hk 0 (z_row hX7_setRows_0 7 rfl) (ci := 7) rfl rfl wd_268 (fun x2 => ?_)
      refine z_gR hk 0 (z_row hX7_setRows_0 8 rfl) (ci := 3) rfl rfl wd_161 (fun x3 => ?_)
      refine z_gI hk 2 (z_row hX7_setRows_0 9 rfl) (ci := 5) rfl rfl wd_55 (fun x4 => ?_)
      refine z_cle hk (z_row hX7_setRows_0 10 rfl) (tgt := 34) rfl ?_ ?_
      · refine z_run hk hX7_setRows_0 16 2 (pc' := 36) (lv' := [some (.inr (.inl a0)), some (.inl a1), some (.inl a2), some (.inl a3)]) (st' := [.inl 0, .inl a2]) rfl ?_
        refine z_ldc hk (z_row hX7_setRows_0 18 rfl) wd_425 ?_
        refine kX7_needWithin F hk (z_row hX7_setRows_0 19 rfl) wd_350 (by decide) (Nat.le_of_ble_eq_true rfl) (fun x5 σ6 => ?_) (fun e7 σ8 => ?_)
        · refine z_run hk hX7_setRows_0 20 3 (pc' := 46) (lv' := [some (.inr (.inl a0)), some (.inl a1), some (.inl a2), some (.inl a3)]) (st' := [.inl 5000, .inl 1, .inl a3]) rfl ?_
          refine kX7_needWithin F hk (z_row hX7_setRows_0 23 rfl) wd_350 (by decide) (Nat.le_of_ble_eq_true rfl) (fun x9 σ10 => ?_) (fun e11 σ12 => ?_)
          · refine z_run hk hX7_setRows_0 24 1 (pc' := 50) (lv' := [some (.inr (.inl a0)), some (.inl a1), some (.inl a2), some (.inl a3)]) (st' := [.inr (.inl a0)]) rfl ?_
            refine z_gR hk 0 (z_row hX7_setRows_0 25 rfl) (ci := 7) rfl rfl wd_268 (fun x13 => ?_)
            refine z_gR hk 0 (z_row hX7_setRows_0 26 rfl) (ci := 3) rfl rfl wd_161 (fun x14 => ?_)
            refine z_run hk hX7_setRows_0 27 2 (pc' := 58) (lv' := [some (.inr (.inl a0)), some (.inl a1), some (.inl a2), some (.inl a3)]) (st' := [.inl a2, .inl a1, .inr (.inl x14)]) rfl ?_
            refine kX5_canFollow F hk (z_row hX7_setRows_0 29 rfl) wd_547 (by decide) (Nat.le_of_ble_eq_true rfl) (fun x15 => ?_)
            refine z_ne hk (z_row hX7_setRows_0 30 rfl) (tgt := 74) rfl ?_ ?_
            · refine z_run hk hX7_setRows_0 36 1 (pc' := 75) (lv' := [some (.inr (.inl a0)), some (.inl a1), some (.inl a2), some (.inl a3)]) (st' := [.inr (.inl a0)]) rfl ?_
              refine z_gR hk 0 (z_row hX7_setRows_0 37 rfl) (ci := 7) rfl rfl wd_268 (fun x16 => ?_)
              refine z_run hk hX7_setRows_0 38 1 (pc' := 79) (lv' := [some (.inr (.inl a0)), some (.inl a1), some (.inl a2), some (.inl a3)]) (st' := [.inl 1, .inr (.inl x16)]) rfl ?_
              refine kX3_lotsIn F hk (z_row hX7_setRows_0 39 rfl) wd_535 (by decide) (Nat.le_of_ble_eq_true rfl) (fun x17 => ?_)
              refine z_le hk (z_row hX7_setRows_0 40 rfl) (tgt := 95) rfl ?_ ?_
              · refine z_run hk hX7_setRows_0 46 1 (pc' := 96) (lv' := [some (.inr (.inl a0)), some (.inl a1), some (.inl a2), some (.inl a3)]) (st' := [.inr (.inl a0)]) rfl ?_
                refine z_gR hk 2 (z_row hX7_setRows_0 47 rfl) (ci := 7) rfl rfl wd_270 (fun x18 => ?_)
                refine z_run hk hX7_setRows_0 48 1 (pc' := 100) (lv' := [some (.inr (.inl a0)), some (.inl a1), some (.inl a2), some (.inl a3)]) (st' := [.inr (.inl a0), .inr (.inl x18)]) rfl ?_
                refine z_gR hk 0 (z_row hX7_setRows_0 49 rfl) (ci := 7) rfl rfl wd_268 (fun x19 => ?_)
                refine kX0_keep F hk (z_row hX7_setRows_0 50 rfl) wd_446 (by decide) (Nat.le_of_ble_eq_true rfl) (fun σ20 => ?_)
                refine z_run hk hX7_setRows_0 51 1 (pc' := 107) (lv' := [some (.inr (.inl a0)), some (.inl a1), some (.inl a2), some (.inl a3)]) (st' := [.inr (.inl a0)]) rfl ?_
                refine z_gR hk 0 (z_row hX7_setRows_0 52 rfl) (ci := 7) rfl rfl wd_268 (fun x21 => ?_)
                refine z_gR hk 0 (z_row hX7_setRows_0 53 rfl) (ci := 3) rfl rfl wd_161 (fun x22 => ?_)
                refine z_run hk hX7_setRows_0 54 3 (pc' := 116) (lv' := [some (.inr (.inl a0)), some (.inl a1), some (.inl a2), some (.inl a3)]) (st' := [.inl a3, .inl a2, .inl a1, .inr (.inl x22)]) rfl ?_
                refine kX5_putLast F hk (z_row hX7_setRows_0 57 rfl) wd_553 (by decide) (Nat.le_of_ble_eq_true rfl) (fun σ23 => ?_)
                refine z_run hk hX7_setRows_0 58 1 (pc' := 120) (lv' := [some (.inr (.inl a0)), some (.inl a1), some (.inl a2), some (.inl a3)]) (st' := [.inr (.inl a0)]) rfl ?_
                refine z_gR hk 0 (z_row hX7_setRows_0 59 rfl) (ci := 7) rfl rfl wd_268 (fun x24 => ?_)
                refine z_gR hk 0 (z_row hX7_setRows_1 0 rfl) (ci := 3) rfl rfl wd_161 (fun x25 => ?_)
                refine z_gI hk 2 (z_row hX7_setRows_1 1 rfl) (ci := 5) rfl rfl wd_55 (fun x26 => ?_)
                exact z_iret hk he (z_row hX7_setRows_1 2 rfl) rfl
              · exact z_throw hk ht (is := 119) (text := "a lot is open") (kx := 3) (by decide) (by decide) (by decide) (fun _ => rfl) (fun _ => rfl) wd_552 wd_430 wd_15 (by decide +kernel) (z_row hX7_setRows_0 41 rfl) (z_row hX7_setRows_0 42 rfl) (z_row hX7_setRows_0 43 rfl) (z_row hX7_setRows_0 44 rfl) (z_row hX7_setRows_0 45 rfl) (by decide) (Nat.le_of_ble_eq_true rfl)
            · exact z_throw hk ht (is := 114) (text := "the bounds do not ascend from 0") (kx := 2) (by decide) (by decide) (by decide) (fun _ => rfl) (fun _ => rfl) wd_551 wd_353 wd_14 (by decide +kernel) (z_row hX7_setRows_0 31 rfl) (z_row hX7_setRows_0 32 rfl) (z_row hX7_setRows_0 33 rfl) (z_row hX7_setRows_0 34 rfl) (z_row hX7_setRows_0 35 rfl) (by decide) (Nat.le_of_ble_eq_true rfl)
          · exact z_out hk ht rfl
        · exact z_out hk ht rfl
      · refine z_mask [false, false, false, false] rfl ?_
        exact gsX7_setRows_24 F n hk he ht σ
theorem kX7_setRows {n : Nat} {own : String} {cc : ByteArray} {nL h index : Nat} {α : Type} {fin : α → zO} {σ : zW} {pc : Nat} {lv : zLV} {st : List zV} {a0 : Nat} {a1 : Int32} {a2 : Int32} {a3 : Int32} {c : Int32 → zW → Option α} {t : Nat → zW → Option α} (F : zFx E) (hk : zk E K own cc nL h) (hd : decode cc pc = .ok (.invokevirtual index, 3)) (hl : Cond.methodLink own index qX7_setRows ∈ lw_tbl) (hh : 7 + 1 ≤ h) (hs : zcat st ≤ 8) (k : ∀ v s, zG E K fin (c v s) s (pc + 3) lv (.inl v :: st)) (kt : ∀ kx s, zT E K fin (t kx s) kx s pc lv) : zG E K fin (zck σ 8 a0 (zbx (fX7_setRows n a0 a1 a2 a3 σ) c t)) σ pc lv (.inl a3 :: .inl a2 :: .inl a1 :: .inr (.inl a0) :: st) :=
  z_vT (n := 3) (y := qX7_setRows) (As := [.inl a1, .inl a2, .inl a3]) hk hd hl wd_543 wd_544 wd_1 wd_545 ⟨by decide, by decide, by decide +kernel⟩ ⟨hh, by decide⟩ (ci := 7) rfl rfl rfl (fun o ho => mX7_setRows F n a0 a1 a2 a3 σ o ho) hs k kt
abbrev qX7_row : MethodName := { cls := "LotSales", name := "row", desc := "(II)I" }
def sX7_row_18 (n : Nat) (σ : zW) : Option ((Int32 ⊕ Nat) × zW) := zth σ fun σ1 => some (.inr 1, σ1)
def sX7_row_65 (n : Nat) (y0 : Int32) (σ : zW) : Option ((Int32 ⊕ Nat) × zW) := some (.inl y0, σ)
def fX7_row (n : Nat) (a0 : Nat) (a1 : Int32) (a2 : Int32) (σ : zW) : Option ((Int32 ⊕ Nat) × zW) := if a1 < 0 then sX7_row_18 n σ else zgR σ 8 a0 0 fun x2 => zgR σ 4 x2 0 fun x3 => zgI σ 6 x3 2 fun x4 => if a1 < x4 then zbx (fX7_needWithin n a2 0 1 σ) (fun _ σ6 => if a2 = 0 then zgR σ6 8 a0 0 fun x13 => zgR σ6 4 x13 0 fun x14 => zgR σ6 6 x14 0 fun x15 => zaI σ6 x15 a1 fun x16 => sX7_row_65 n x16 σ6 else zgR σ6 8 a0 0 fun x9 => zgR σ6 4 x9 0 fun x10 => zgR σ6 6 x10 1 fun x11 => zaI σ6 x11 a1 fun x12 => sX7_row_65 n x12 σ6) (fun e7 σ8 => some (.inr e7, σ8)) else sX7_row_18 n σ
theorem gsX7_row_18 (F : zFx E) (n : Nat) (hk : zk E K "LotSales" cX7_row 3 7) (he : zend E K (some .int) "row") (ht : zthr E K) (σ : zW) : zG E K zfT (sX7_row_18 n σ) σ 18 [none, none, none] [] := by
  unfold sX7_row_18
  exact z_throw hk ht (is := 125) (text := "no such row") (kx := 1) (by decide) (by decide) (by decide) (fun _ => rfl) (fun _ => rfl) wd_564 wd_515 wd_17 (by decide +kernel) (z_row hX7_row_0 8 rfl) (z_row hX7_row_0 9 rfl) (z_row hX7_row_0 10 rfl) (z_row hX7_row_0 11 rfl) (z_row hX7_row_0 12 rfl) (by decide) (Nat.le_of_ble_eq_true rfl)
theorem gsX7_row_65 (F : zFx E) (n : Nat) (hk : zk E K "LotSales" cX7_row 3 7) (he : zend E K (some .int) "row") (ht : zthr E K) (y0 : Int32) (σ : zW) : zG E K zfT (sX7_row_65 n y0 σ) σ 65 [none, none, none] [.inl y0] := by
  unfold sX7_row_65
  exact z_iret hk he (z_row hX7_row_0 32 rfl) rfl
theorem mX7_row (F : zFx E) (n : Nat) (a0 : Nat) (a1 : Int32) (a2 : Int32) (σ : zW) (o : (Int32 ⊕ Nat) × zW) (hf : fX7_row n a0 a1 a2 σ = some o) : zMX E qX7_row (.code qX7_row cX7_row 3 (some .int)) 7 [.inr (.inl a0), .inl a1, .inl a2] σ (zfT o) := by
  refine zMX_of (fin := zfT) F (by decide +kernel) rfl (Nat.le_of_ble_eq_true rfl) (lv0 := [some (.inr (.inl a0)), some (.inl a1), some (.inl a2)]) rfl hf rfl (fun K hk he ht => ?_)
  have hk : zk E K "LotSales" cX7_row 3 7 := hk
  unfold fX7_row
  refine z_run hk hX7_row_0 0 1 (pc' := 1) (lv' := [some (.inr (.inl a0)), some (.inl a1), some (.inl a2)]) (st' := [.inl a1]) rfl ?_
  refine z_lt hk (z_row hX7_row_0 1 rfl) (tgt := 18) rfl ?_ ?_
  · refine z_mask [false, false, false] rfl ?_
    exact gsX7_row_18 F n hk he ht σ
  · refine z_run hk hX7_row_0 2 2 (pc' := 6) (lv' := [some (.inr (.inl a0)), some (.inl a1), some (.inl a2)]) (st' := [.inr (.inl a0), .inl a1]) rfl ?_
    refine z_gR hk 0 (z_row hX7_row_0 4 rfl) (ci := 7) rfl rfl wd_268 (fun x2 => ?_)
    refine z_gR hk 0 (z_row hX7_row_0 5 rfl) (ci := 3) rfl rfl wd_161 (fun x3 => ?_)
    refine z_gI hk 2 (z_row hX7_row_0 6 rfl) (ci := 5) rfl rfl wd_55 (fun x4 => ?_)
    refine z_clt hk (z_row hX7_row_0 7 rfl) (tgt := 28) rfl ?_ ?_
    · refine z_run hk hX7_row_0 13 3 (pc' := 31) (lv' := [some (.inr (.inl a0)), some (.inl a1), some (.inl a2)]) (st' := [.inl 1, .inl 0, .inl a2]) rfl ?_
      refine kX7_needWithin F hk (z_row hX7_row_0 16 rfl) wd_350 (by decide) (Nat.le_of_ble_eq_true rfl) (fun x5 σ6 => ?_) (fun e7 σ8 => ?_)
      · refine z_run hk hX7_row_0 17 1 (pc' := 35) (lv' := [some (.inr (.inl a0)), some (.inl a1), some (.inl a2)]) (st' := [.inl a2]) rfl ?_
        refine z_ne hk (z_row hX7_row_0 18 rfl) (tgt := 53) rfl ?_ ?_
        · refine z_run hk hX7_row_0 26 1 (pc' := 54) (lv' := [some (.inr (.inl a0)), some (.inl a1), some (.inl a2)]) (st' := [.inr (.inl a0)]) rfl ?_
          refine z_gR hk 0 (z_row hX7_row_0 27 rfl) (ci := 7) rfl rfl wd_268 (fun x9 => ?_)
          refine z_gR hk 0 (z_row hX7_row_0 28 rfl) (ci := 3) rfl rfl wd_161 (fun x10 => ?_)
          refine z_gR hk 1 (z_row hX7_row_0 29 rfl) (ci := 5) rfl rfl wd_53 (fun x11 => ?_)
          refine z_run hk hX7_row_0 30 1 (pc' := 64) (lv' := [some (.inr (.inl a0)), some (.inl a1), some (.inl a2)]) (st' := [.inl a1, .inr (.inl x11)]) rfl ?_
          refine z_aI hk (z_row hX7_row_0 31 rfl) (fun x12 => ?_)
          refine z_mask [false, false, false] rfl ?_
          exact gsX7_row_65 F n hk he ht x12 σ6
        · refine z_run hk hX7_row_0 19 1 (pc' := 39) (lv' := [some (.inr (.inl a0)), some (.inl a1), some (.inl a2)]) (st' := [.inr (.inl a0)]) rfl ?_
          refine z_gR hk 0 (z_row hX7_row_0 20 rfl) (ci := 7) rfl rfl wd_268 (fun x13 => ?_)
          refine z_gR hk 0 (z_row hX7_row_0 21 rfl) (ci := 3) rfl rfl wd_161 (fun x14 => ?_)
          refine z_gR hk 0 (z_row hX7_row_0 22 rfl) (ci := 5) rfl rfl wd_51 (fun x15 => ?_)
          refine z_run hk hX7_row_0 23 1 (pc' := 49) (lv' := [some (.inr (.inl a0)), some (.inl a1), some (.inl a2)]) (st' := [.inl a1, .inr (.inl x15)]) rfl ?_
          refine z_aI hk (z_row hX7_row_0 24 rfl) (fun x16 => ?_)
          refine z_goto hk (z_row hX7_row_0 25 rfl) (tgt := 65) rfl ?_
          refine z_mask [false, false, false] rfl ?_
          exact gsX7_row_65 F n hk he ht x16 σ6
      · exact z_out hk ht rfl
    · refine z_mask [false, false, false] rfl ?_
      exact gsX7_row_18 F n hk he ht σ
theorem kX7_row {n : Nat} {own : String} {cc : ByteArray} {nL h index : Nat} {α : Type} {fin : α → zO} {σ : zW} {pc : Nat} {lv : zLV} {st : List zV} {a0 : Nat} {a1 : Int32} {a2 : Int32} {c : Int32 → zW → Option α} {t : Nat → zW → Option α} (F : zFx E) (hk : zk E K own cc nL h) (hd : decode cc pc = .ok (.invokevirtual index, 3)) (hl : Cond.methodLink own index qX7_row ∈ lw_tbl) (hh : 7 + 1 ≤ h) (hs : zcat st ≤ 8) (k : ∀ v s, zG E K fin (c v s) s (pc + 3) lv (.inl v :: st)) (kt : ∀ kx s, zT E K fin (t kx s) kx s pc lv) : zG E K fin (zck σ 8 a0 (zbx (fX7_row n a0 a1 a2 σ) c t)) σ pc lv (.inl a2 :: .inl a1 :: .inr (.inl a0) :: st) :=
  z_vT (n := 2) (y := qX7_row) (As := [.inl a1, .inl a2]) hk hd hl wd_561 wd_562 wd_1 wd_563 ⟨by decide, by decide, by decide +kernel⟩ ⟨hh, by decide⟩ (ci := 7) rfl rfl rfl (fun o ho => mX7_row F n a0 a1 a2 σ o ho) hs k kt
abbrev qX7_step : MethodName := { cls := "LotSales", name := "step", desc := "(I)I" }
def fX7_step (n : Nat) (a0 : Nat) (a1 : Int32) (σ : zW) : Option ((Int32 ⊕ Nat) × zW) := zbx (fX7_needWithin n a1 0 99999 σ) (fun _ σ2 => zgR σ2 8 a0 0 fun x5 => zgR σ2 4 x5 0 fun x6 => zck σ2 6 x6 (zb (fX5_stepAt n x6 a1 σ2) fun x7 => some (.inl x7, σ2))) (fun e3 σ4 => some (.inr e3, σ4))
theorem mX7_step (F : zFx E) (n : Nat) (a0 : Nat) (a1 : Int32) (σ : zW) (o : (Int32 ⊕ Nat) × zW) (hf : fX7_step n a0 a1 σ = some o) : zMX E qX7_step (.code qX7_step cX7_step 2 (some .int)) 7 [.inr (.inl a0), .inl a1] σ (zfT o) := by
  refine zMX_of (fin := zfT) F (by decide +kernel) rfl (Nat.le_of_ble_eq_true rfl) (lv0 := [some (.inr (.inl a0)), some (.inl a1)]) rfl hf rfl (fun K hk he ht => ?_)
  have hk : zk E K "LotSales" cX7_step 2 7 := hk
  unfold fX7_step
  refine z_run hk hX7_step_0 0 2 (pc' := 2) (lv' := [some (.inr (.inl a0)), some (.inl a1)]) (st' := [.inl 0, .inl a1]) rfl ?_
  refine z_ldc hk (z_row hX7_step_0 2 rfl) wd_572 ?_
  refine kX7_needWithin F hk (z_row hX7_step_0 3 rfl) wd_350 (by decide) (Nat.le_of_ble_eq_true rfl) (fun x1 σ2 => ?_) (fun e3 σ4 => ?_)
  · refine z_run hk hX7_step_0 4 1 (pc' := 8) (lv' := [some (.inr (.inl a0)), some (.inl a1)]) (st' := [.inr (.inl a0)]) rfl ?_
    refine z_gR hk 0 (z_row hX7_step_0 5 rfl) (ci := 7) rfl rfl wd_268 (fun x5 => ?_)
    refine z_gR hk 0 (z_row hX7_step_0 6 rfl) (ci := 3) rfl rfl wd_161 (fun x6 => ?_)
    refine z_run hk hX7_step_0 7 1 (pc' := 15) (lv' := [some (.inr (.inl a0)), some (.inl a1)]) (st' := [.inl a1, .inr (.inl x6)]) rfl ?_
    refine kX5_stepAt F hk (z_row hX7_step_0 8 rfl) wd_573 (by decide) (Nat.le_of_ble_eq_true rfl) (fun x7 => ?_)
    exact z_iret hk he (z_row hX7_step_0 9 rfl) rfl
  · exact z_out hk ht rfl
theorem kX7_step {n : Nat} {own : String} {cc : ByteArray} {nL h index : Nat} {α : Type} {fin : α → zO} {σ : zW} {pc : Nat} {lv : zLV} {st : List zV} {a0 : Nat} {a1 : Int32} {c : Int32 → zW → Option α} {t : Nat → zW → Option α} (F : zFx E) (hk : zk E K own cc nL h) (hd : decode cc pc = .ok (.invokevirtual index, 3)) (hl : Cond.methodLink own index qX7_step ∈ lw_tbl) (hh : 7 + 1 ≤ h) (hs : zcat st ≤ 8) (k : ∀ v s, zG E K fin (c v s) s (pc + 3) lv (.inl v :: st)) (kt : ∀ kx s, zT E K fin (t kx s) kx s pc lv) : zG E K fin (zck σ 8 a0 (zbx (fX7_step n a0 a1 σ) c t)) σ pc lv (.inl a1 :: .inr (.inl a0) :: st) :=
  z_vT (n := 1) (y := qX7_step) (As := [.inl a1]) hk hd hl wd_569 wd_570 wd_1 wd_571 ⟨by decide, by decide, by decide +kernel⟩ ⟨hh, by decide⟩ (ci := 7) rfl rfl rfl (fun o ho => mX7_step F n a0 a1 σ o ho) hs k kt
end
