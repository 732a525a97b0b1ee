/-! THE SALE READ: what the class's counting and summing methods answer, over the numbers a -/
def mk (a : Nat → Int32) : Nat := (a 23).toNatClampNeg
def kp (a : Nat → Int32) : Nat := (a 991).toNatClampNeg
/-- the counters lie in their bounds -/
def Cn (a : Nat → Int32) : Prop := a 23 = Int32.ofNat (mk a) ∧ mk a ≤ 20 ∧ a 991 = Int32.ofNat (kp a) ∧ kp a ≤ 250
theorem io_zx {i L : Nat} (h : i < L) (hi : i < 2147483648) : zix (Int32.ofNat i) L = True := eq_true (io_zix h hi)
def oc (a : Nat → Int32) (i : Nat) : Int32 := zsm 10 (fun b => if 0 < a (184 + 10 * i + b) then 1 else 0)
def prm (p : Int32) : Int32 := ((if 1000 < p then 1000 else p) * 25) / 100 + (((if 5000 < p then 5000 else p) - (if 1000 < p then 1000 else p)) * 20) / 100 + ((p - ((if 5000 < p then 5000 else p) - (if 1000 < p then 1000 else p)) - (if 1000 < p then 1000 else p)) * 12) / 100
def cms (p : Int32) : Int32 := if (if 5 < p / 10 then p / 10 else 5) < p then (if 5 < p / 10 then p / 10 else 5) else p
section
variable {σ : zW} {s i n : Nat} {a : Nat → Int32}
theorem c_premiumOf {p : Int32} : fX7_premiumOf n p σ = some (prm p) := by
  simp only [fX7_premiumOf, zdv]
  rfl
theorem c_commissionOf {p : Int32} : fX7_commissionOf n p σ = some (cms p) := by
  simp only [fX7_commissionOf, zdv]
  rfl
theorem c_feeOf {p : Int32} : fX7_feeOf n p σ = some (p * 2 / 100) := by
  simp only [fX7_feeOf, zdv]
  rfl
theorem c_isBidder {p : Int32} : fX7_isBidder n p σ = some (if 0 ≤ p ∧ p < 10 then 1 else 0) := by
  simp only [fX7_isBidder, sX7_isBidder_14, sX7_isBidder_15]
  by_cases h1 : p < 0
  · have : ¬ 0 ≤ p := Int32.not_le.mpr h1
    simp [h1, this]
  · have h2 : 0 ≤ p := Int32.not_lt.mp h1
    by_cases h3 : p < 10 <;> simp [h1, h2, h3]
theorem c_has (h : Rep σ s a) {p : Int32} : fX3_has n s p σ = some (if 0 ≤ p ∧ p < a 23 then 1 else 0) := by
  simp only [fX3_has, sX3_has_16, sX3_has_17, zgI, zgR, zaI, zaR, zaC, zck, zb_some, zb2_some, zbx_inl, zbx_inr, zdv, true_or, or_true, true_and, and_true, if_true, ↓reduceIte, h.1.kS, h.1.r0, h.1.r1, h.1.r2, h.1.r3, h.1.r4, h.1.kT, h.1.rT0, h.1.rT1, h.1.kB, h.1.lB, h.1.kC, h.1.lC, h.1.kR, h.1.lR, h.1.kF, h.1.lF, h.1.kO, h.1.lO, h.1.kG, h.1.rG0, h.1.kG0, h.1.lG0, h.1.rG1, h.1.kG1, h.1.lG1, h.1.rG2, h.1.kG2, h.1.lG2, h.1.rG3, h.1.kG3, h.1.lG3, h.1.rL, h.1.kL, h.1.rL0, h.1.kL0, h.1.lL0, h.1.rL1, h.1.kL1, h.1.lL1, h.1.rL2, h.1.kL2, h.1.lL2, h.1.rL3, h.1.kL3, h.1.lL3, h.rows, h.bnd, h.inc, h.crd, h.fee, h.cnt, h.num, h.kept, h.ev0, h.ev1, h.ev2, h.ev3, h.l0, h.l1, h.l2, h.l3, h.l4, h.l5, h.l6, h.l7, h.p0, h.p1, h.p2, h.p3]
  by_cases h1 : p < 0
  · have : ¬ 0 ≤ p := Int32.not_le.mpr h1
    simp [h1, this]
  · have h2 : 0 ≤ p := Int32.not_lt.mp h1
    by_cases h3 : p < a 23 <;> simp [h1, h2, h3]
theorem c_isSoldTo (h : Rep σ s a) (hm : mk a ≤ 20) (hi : i < mk a) {b : Int32} : fX3_isSoldTo n s (Int32.ofNat i) b σ = some (if a (24 + 8 * i + 3) = 2 ∧ a (24 + 8 * i + 6) = b then 1 else 0) := by
  have hv : i < (a 23).toNatClampNeg := hi
  simp (disch := omega) only [fX3_isSoldTo, sX3_isSoldTo_30, sX3_isSoldTo_31, zgI, zgR, zaI, zaR, zaC, zck, zb_some, zb2_some, zbx_inl, zbx_inr, zdv, true_or, or_true, true_and, and_true, if_true, ↓reduceIte, h.1.kS, h.1.r0, h.1.r1, h.1.r2, h.1.r3, h.1.r4, h.1.kT, h.1.rT0, h.1.rT1, h.1.kB, h.1.lB, h.1.kC, h.1.lC, h.1.kR, h.1.lR, h.1.kF, h.1.lF, h.1.kO, h.1.lO, h.1.kG, h.1.rG0, h.1.kG0, h.1.lG0, h.1.rG1, h.1.kG1, h.1.lG1, h.1.rG2, h.1.kG2, h.1.lG2, h.1.rG3, h.1.kG3, h.1.lG3, h.1.rL, h.1.kL, h.1.rL0, h.1.kL0, h.1.lL0, h.1.rL1, h.1.kL1, h.1.lL1, h.1.rL2, h.1.kL2, h.1.lL2, h.1.rL3, h.1.kL3, h.1.lL3, h.rows, h.bnd, h.inc, h.crd, h.fee, h.cnt, h.num, h.kept, h.ev0, h.ev1, h.ev2, h.ev3, h.l0, h.l1, h.l2, h.l3, h.l4, h.l5, h.l6, h.l7, h.p0, h.p1, h.p2, h.p3, io_zx, io_nat, io_succ, io_lt]
  by_cases h1 : a (24 + 8 * i + 3) = 2 <;> by_cases h2 : a (24 + 8 * i + 6) = b <;> simp [h1, h2]

theorem c_ordersLot (h : Rep σ s a) (hm : mk a ≤ 20) (hn : 1000 < n) (hi : i < mk a) : fX2_orderCount n (lo s i) σ = some (oc a i) := by
  have hv : i < (a 23).toNatClampNeg := hi
  unfold fX2_orderCount
  refine zsm_loop (s := fun k acc b => sX2_orderCount_4 n σ k (lo s i) acc b) (N := 10) (e := some) (by omega) ?_ ?_
  · intro k acc b hb
    show sX2_orderCount_4 n σ (k + 1) (lo s i) acc (Int32.ofNat b) = _
    rw [sX2_orderCount_4, show (10 : Int32) = Int32.ofNat 10 from rfl]
    simp (disch := omega) only [zgI, zgR, zaI, zaR, zaC, zck, zb_some, zb2_some, zbx_inl, zbx_inr, zdv, true_or, or_true, true_and, and_true, if_true, ↓reduceIte, h.1.kS, h.1.r0, h.1.r1, h.1.r2, h.1.r3, h.1.r4, h.1.kT, h.1.rT0, h.1.rT1, h.1.kB, h.1.lB, h.1.kC, h.1.lC, h.1.kR, h.1.lR, h.1.kF, h.1.lF, h.1.kO, h.1.lO, h.1.kG, h.1.rG0, h.1.kG0, h.1.lG0, h.1.rG1, h.1.kG1, h.1.lG1, h.1.rG2, h.1.kG2, h.1.lG2, h.1.rG3, h.1.kG3, h.1.lG3, h.1.rL, h.1.kL, h.1.rL0, h.1.kL0, h.1.lL0, h.1.rL1, h.1.kL1, h.1.lL1, h.1.rL2, h.1.kL2, h.1.lL2, h.1.rL3, h.1.kL3, h.1.lL3, h.rows, h.bnd, h.inc, h.crd, h.fee, h.cnt, h.num, h.kept, h.ev0, h.ev1, h.ev2, h.ev3, h.l0, h.l1, h.l2, h.l3, h.l4, h.l5, h.l6, h.l7, h.p0, h.p1, h.p2, h.p3, io_zx, io_nat, io_succ, io_lt, hb, sX2_orderCount_22]
    split <;> simp only [Int32.add_zero]
  · intro k acc
    show sX2_orderCount_4 n σ (k + 1) (lo s i) acc (Int32.ofNat 10) = _
    rw [sX2_orderCount_4]
    rfl

theorem c_orderCount (h : Rep σ s a) (hc : Cn a) (hn : 1000 < n) : fX3_orderCount n s σ = some (zsm (mk a) (fun i => oc a i)) := by
  obtain ⟨h23, hm, h991, hkp⟩ := hc
  unfold fX3_orderCount
  refine zsm_loop (s := fun k acc i => sX3_orderCount_4 n σ k s acc i) (N := (mk a)) (e := some) (by omega) ?_ ?_
  · intro k acc i hi
    have hv : i < (a 23).toNatClampNeg := hi
    show sX3_orderCount_4 n σ (k + 1) s acc (Int32.ofNat i) = _
    rw [sX3_orderCount_4]
    simp (disch := omega) only [zgI, zgR, zaI, zaR, zaC, zck, zb_some, zb2_some, zbx_inl, zbx_inr, zdv, true_or, or_true, true_and, and_true, if_true, ↓reduceIte, h.1.kS, h.1.r0, h.1.r1, h.1.r2, h.1.r3, h.1.r4, h.1.kT, h.1.rT0, h.1.rT1, h.1.kB, h.1.lB, h.1.kC, h.1.lC, h.1.kR, h.1.lR, h.1.kF, h.1.lF, h.1.kO, h.1.lO, h.1.kG, h.1.rG0, h.1.kG0, h.1.lG0, h.1.rG1, h.1.kG1, h.1.lG1, h.1.rG2, h.1.kG2, h.1.lG2, h.1.rG3, h.1.kG3, h.1.lG3, h.1.rL, h.1.kL, h.1.rL0, h.1.kL0, h.1.lL0, h.1.rL1, h.1.kL1, h.1.lL1, h.1.rL2, h.1.kL2, h.1.lL2, h.1.rL3, h.1.kL3, h.1.lL3, h.rows, h.bnd, h.inc, h.crd, h.fee, h.cnt, h.num, h.kept, h.ev0, h.ev1, h.ev2, h.ev3, h.l0, h.l1, h.l2, h.l3, h.l4, h.l5, h.l6, h.l7, h.p0, h.p1, h.p2, h.p3, h23, io_zx, io_nat, io_succ, io_lt, hi, c_ordersLot h hm hn, c_ordersLot h hm hn hi]
    try ((repeat' split) <;> simp_all)
  · intro k acc
    show sX3_orderCount_4 n σ (k + 1) s acc (Int32.ofNat (mk a)) = _
    rw [sX3_orderCount_4]
    simp (disch := omega) only [zgI, zgR, zaI, zaR, zaC, zck, zb_some, zb2_some, zbx_inl, zbx_inr, zdv, true_or, or_true, true_and, and_true, if_true, ↓reduceIte, h.1.kS, h.1.r0, h.1.r1, h.1.r2, h.1.r3, h.1.r4, h.1.kT, h.1.rT0, h.1.rT1, h.1.kB, h.1.lB, h.1.kC, h.1.lC, h.1.kR, h.1.lR, h.1.kF, h.1.lF, h.1.kO, h.1.lO, h.1.kG, h.1.rG0, h.1.kG0, h.1.lG0, h.1.rG1, h.1.kG1, h.1.lG1, h.1.rG2, h.1.kG2, h.1.lG2, h.1.rG3, h.1.kG3, h.1.lG3, h.1.rL, h.1.kL, h.1.rL0, h.1.kL0, h.1.lL0, h.1.rL1, h.1.kL1, h.1.lL1, h.1.rL2, h.1.kL2, h.1.lL2, h.1.rL3, h.1.kL3, h.1.lL3, h.rows, h.bnd, h.inc, h.crd, h.fee, h.cnt, h.num, h.kept, h.ev0, h.ev1, h.ev2, h.ev3, h.l0, h.l1, h.l2, h.l3, h.l4, h.l5, h.l6, h.l7, h.p0, h.p1, h.p2, h.p3, h23, io_zx, io_nat, io_succ, io_lt, Nat.lt_irrefl, if_false]

theorem c_lotsIn (h : Rep σ s a) (hc : Cn a) (hn : 1000 < n) (st : Int32) : fX3_lotsIn n s st σ = some (zsm (mk a) (fun i => if a (24 + 8 * i + 3) = st then 1 else 0)) := by
  obtain ⟨h23, hm, h991, hkp⟩ := hc
  unfold fX3_lotsIn
  refine zsm_loop (s := fun k acc i => sX3_lotsIn_4 n σ k s st acc i) (N := (mk a)) (e := some) (by omega) ?_ ?_
  · intro k acc i hi
    have hv : i < (a 23).toNatClampNeg := hi
    show sX3_lotsIn_4 n σ (k + 1) s st acc (Int32.ofNat i) = _
    rw [sX3_lotsIn_4]
    simp (disch := omega) only [zgI, zgR, zaI, zaR, zaC, zck, zb_some, zb2_some, zbx_inl, zbx_inr, zdv, true_or, or_true, true_and, and_true, if_true, ↓reduceIte, h.1.kS, h.1.r0, h.1.r1, h.1.r2, h.1.r3, h.1.r4, h.1.kT, h.1.rT0, h.1.rT1, h.1.kB, h.1.lB, h.1.kC, h.1.lC, h.1.kR, h.1.lR, h.1.kF, h.1.lF, h.1.kO, h.1.lO, h.1.kG, h.1.rG0, h.1.kG0, h.1.lG0, h.1.rG1, h.1.kG1, h.1.lG1, h.1.rG2, h.1.kG2, h.1.lG2, h.1.rG3, h.1.kG3, h.1.lG3, h.1.rL, h.1.kL, h.1.rL0, h.1.kL0, h.1.lL0, h.1.rL1, h.1.kL1, h.1.lL1, h.1.rL2, h.1.kL2, h.1.lL2, h.1.rL3, h.1.kL3, h.1.lL3, h.rows, h.bnd, h.inc, h.crd, h.fee, h.cnt, h.num, h.kept, h.ev0, h.ev1, h.ev2, h.ev3, h.l0, h.l1, h.l2, h.l3, h.l4, h.l5, h.l6, h.l7, h.p0, h.p1, h.p2, h.p3, h23, io_zx, io_nat, io_succ, io_lt, hi, sX3_lotsIn_28]
    try ((repeat' split) <;> simp_all)
  · intro k acc
    show sX3_lotsIn_4 n σ (k + 1) s st acc (Int32.ofNat (mk a)) = _
    rw [sX3_lotsIn_4]
    simp (disch := omega) only [zgI, zgR, zaI, zaR, zaC, zck, zb_some, zb2_some, zbx_inl, zbx_inr, zdv, true_or, or_true, true_and, and_true, if_true, ↓reduceIte, h.1.kS, h.1.r0, h.1.r1, h.1.r2, h.1.r3, h.1.r4, h.1.kT, h.1.rT0, h.1.rT1, h.1.kB, h.1.lB, h.1.kC, h.1.lC, h.1.kR, h.1.lR, h.1.kF, h.1.lF, h.1.kO, h.1.lO, h.1.kG, h.1.rG0, h.1.kG0, h.1.lG0, h.1.rG1, h.1.kG1, h.1.lG1, h.1.rG2, h.1.kG2, h.1.lG2, h.1.rG3, h.1.kG3, h.1.lG3, h.1.rL, h.1.kL, h.1.rL0, h.1.kL0, h.1.lL0, h.1.rL1, h.1.kL1, h.1.lL1, h.1.rL2, h.1.kL2, h.1.lL2, h.1.rL3, h.1.kL3, h.1.lL3, h.rows, h.bnd, h.inc, h.crd, h.fee, h.cnt, h.num, h.kept, h.ev0, h.ev1, h.ev2, h.ev3, h.l0, h.l1, h.l2, h.l3, h.l4, h.l5, h.l6, h.l7, h.p0, h.p1, h.p2, h.p3, h23, io_zx, io_nat, io_succ, io_lt, Nat.lt_irrefl, if_false]

theorem c_lotsTo (h : Rep σ s a) (hc : Cn a) (hn : 1000 < n) (b : Int32) : fX3_lotsTo n s b σ = some (zsm (mk a) (fun i => if a (24 + 8 * i + 3) = 2 ∧ a (24 + 8 * i + 6) = b then 1 else 0)) := by
  obtain ⟨h23, hm, h991, hkp⟩ := hc
  unfold fX3_lotsTo
  refine zsm_loop (s := fun k acc i => sX3_lotsTo_4 n σ k s b acc i) (N := (mk a)) (e := some) (by omega) ?_ ?_
  · intro k acc i hi
    have hv : i < (a 23).toNatClampNeg := hi
    show sX3_lotsTo_4 n σ (k + 1) s b acc (Int32.ofNat i) = _
    rw [sX3_lotsTo_4]
    simp (disch := omega) only [zgI, zgR, zaI, zaR, zaC, zck, zb_some, zb2_some, zbx_inl, zbx_inr, zdv, true_or, or_true, true_and, and_true, if_true, ↓reduceIte, h.1.kS, h.1.r0, h.1.r1, h.1.r2, h.1.r3, h.1.r4, h.1.kT, h.1.rT0, h.1.rT1, h.1.kB, h.1.lB, h.1.kC, h.1.lC, h.1.kR, h.1.lR, h.1.kF, h.1.lF, h.1.kO, h.1.lO, h.1.kG, h.1.rG0, h.1.kG0, h.1.lG0, h.1.rG1, h.1.kG1, h.1.lG1, h.1.rG2, h.1.kG2, h.1.lG2, h.1.rG3, h.1.kG3, h.1.lG3, h.1.rL, h.1.kL, h.1.rL0, h.1.kL0, h.1.lL0, h.1.rL1, h.1.kL1, h.1.lL1, h.1.rL2, h.1.kL2, h.1.lL2, h.1.rL3, h.1.kL3, h.1.lL3, h.rows, h.bnd, h.inc, h.crd, h.fee, h.cnt, h.num, h.kept, h.ev0, h.ev1, h.ev2, h.ev3, h.l0, h.l1, h.l2, h.l3, h.l4, h.l5, h.l6, h.l7, h.p0, h.p1, h.p2, h.p3, h23, io_zx, io_nat, io_succ, io_lt, hi, c_isSoldTo h hm hi, sX3_lotsTo_24]
    try ((repeat' split) <;> simp_all)
  · intro k acc
    show sX3_lotsTo_4 n σ (k + 1) s b acc (Int32.ofNat (mk a)) = _
    rw [sX3_lotsTo_4]
    simp (disch := omega) only [zgI, zgR, zaI, zaR, zaC, zck, zb_some, zb2_some, zbx_inl, zbx_inr, zdv, true_or, or_true, true_and, and_true, if_true, ↓reduceIte, h.1.kS, h.1.r0, h.1.r1, h.1.r2, h.1.r3, h.1.r4, h.1.kT, h.1.rT0, h.1.rT1, h.1.kB, h.1.lB, h.1.kC, h.1.lC, h.1.kR, h.1.lR, h.1.kF, h.1.lF, h.1.kO, h.1.lO, h.1.kG, h.1.rG0, h.1.kG0, h.1.lG0, h.1.rG1, h.1.kG1, h.1.lG1, h.1.rG2, h.1.kG2, h.1.lG2, h.1.rG3, h.1.kG3, h.1.lG3, h.1.rL, h.1.kL, h.1.rL0, h.1.kL0, h.1.lL0, h.1.rL1, h.1.kL1, h.1.lL1, h.1.rL2, h.1.kL2, h.1.lL2, h.1.rL3, h.1.kL3, h.1.lL3, h.rows, h.bnd, h.inc, h.crd, h.fee, h.cnt, h.num, h.kept, h.ev0, h.ev1, h.ev2, h.ev3, h.l0, h.l1, h.l2, h.l3, h.l4, h.l5, h.l6, h.l7, h.p0, h.p1, h.p2, h.p3, h23, io_zx, io_nat, io_succ, io_lt, Nat.lt_irrefl, if_false]

theorem c_pricesTo (h : Rep σ s a) (hc : Cn a) (hn : 1000 < n) (b : Int32) : fX3_pricesTo n s b σ = some (zsm (mk a) (fun i => if a (24 + 8 * i + 3) = 2 ∧ a (24 + 8 * i + 6) = b then a (24 + 8 * i + 7) else 0)) := by
  obtain ⟨h23, hm, h991, hkp⟩ := hc
  unfold fX3_pricesTo
  refine zsm_loop (s := fun k acc i => sX3_pricesTo_4 n σ k s b acc i) (N := (mk a)) (e := some) (by omega) ?_ ?_
  · intro k acc i hi
    have hv : i < (a 23).toNatClampNeg := hi
    show sX3_pricesTo_4 n σ (k + 1) s b acc (Int32.ofNat i) = _
    rw [sX3_pricesTo_4]
    simp (disch := omega) only [zgI, zgR, zaI, zaR, zaC, zck, zb_some, zb2_some, zbx_inl, zbx_inr, zdv, true_or, or_true, true_and, and_true, if_true, ↓reduceIte, h.1.kS, h.1.r0, h.1.r1, h.1.r2, h.1.r3, h.1.r4, h.1.kT, h.1.rT0, h.1.rT1, h.1.kB, h.1.lB, h.1.kC, h.1.lC, h.1.kR, h.1.lR, h.1.kF, h.1.lF, h.1.kO, h.1.lO, h.1.kG, h.1.rG0, h.1.kG0, h.1.lG0, h.1.rG1, h.1.kG1, h.1.lG1, h.1.rG2, h.1.kG2, h.1.lG2, h.1.rG3, h.1.kG3, h.1.lG3, h.1.rL, h.1.kL, h.1.rL0, h.1.kL0, h.1.lL0, h.1.rL1, h.1.kL1, h.1.lL1, h.1.rL2, h.1.kL2, h.1.lL2, h.1.rL3, h.1.kL3, h.1.lL3, h.rows, h.bnd, h.inc, h.crd, h.fee, h.cnt, h.num, h.kept, h.ev0, h.ev1, h.ev2, h.ev3, h.l0, h.l1, h.l2, h.l3, h.l4, h.l5, h.l6, h.l7, h.p0, h.p1, h.p2, h.p3, h23, io_zx, io_nat, io_succ, io_lt, hi, c_isSoldTo h hm hi, sX3_pricesTo_33]
    try ((repeat' split) <;> simp_all)
  · intro k acc
    show sX3_pricesTo_4 n σ (k + 1) s b acc (Int32.ofNat (mk a)) = _
    rw [sX3_pricesTo_4]
    simp (disch := omega) only [zgI, zgR, zaI, zaR, zaC, zck, zb_some, zb2_some, zbx_inl, zbx_inr, zdv, true_or, or_true, true_and, and_true, if_true, ↓reduceIte, h.1.kS, h.1.r0, h.1.r1, h.1.r2, h.1.r3, h.1.r4, h.1.kT, h.1.rT0, h.1.rT1, h.1.kB, h.1.lB, h.1.kC, h.1.lC, h.1.kR, h.1.lR, h.1.kF, h.1.lF, h.1.kO, h.1.lO, h.1.kG, h.1.rG0, h.1.kG0, h.1.lG0, h.1.rG1, h.1.kG1, h.1.lG1, h.1.rG2, h.1.kG2, h.1.lG2, h.1.rG3, h.1.kG3, h.1.lG3, h.1.rL, h.1.kL, h.1.rL0, h.1.kL0, h.1.lL0, h.1.rL1, h.1.kL1, h.1.lL1, h.1.rL2, h.1.kL2, h.1.lL2, h.1.rL3, h.1.kL3, h.1.lL3, h.rows, h.bnd, h.inc, h.crd, h.fee, h.cnt, h.num, h.kept, h.ev0, h.ev1, h.ev2, h.ev3, h.l0, h.l1, h.l2, h.l3, h.l4, h.l5, h.l6, h.l7, h.p0, h.p1, h.p2, h.p3, h23, io_zx, io_nat, io_succ, io_lt, Nat.lt_irrefl, if_false]

theorem c_premiumsOf (h : Rep σ s a) (hc : Cn a) (hn : 1000 < n) (b : Int32) : fX3_premiumsOf n s b σ = some (zsm (mk a) (fun i => if a (24 + 8 * i + 3) = 2 ∧ a (24 + 8 * i + 6) = b then prm (a (24 + 8 * i + 7)) else 0)) := by
  obtain ⟨h23, hm, h991, hkp⟩ := hc
  unfold fX3_premiumsOf
  refine zsm_loop (s := fun k acc i => sX3_premiumsOf_4 n σ k s b acc i) (N := (mk a)) (e := some) (by omega) ?_ ?_
  · intro k acc i hi
    have hv : i < (a 23).toNatClampNeg := hi
    show sX3_premiumsOf_4 n σ (k + 1) s b acc (Int32.ofNat i) = _
    rw [sX3_premiumsOf_4]
    simp (disch := omega) only [zgI, zgR, zaI, zaR, zaC, zck, zb_some, zb2_some, zbx_inl, zbx_inr, zdv, true_or, or_true, true_and, and_true, if_true, ↓reduceIte, h.1.kS, h.1.r0, h.1.r1, h.1.r2, h.1.r3, h.1.r4, h.1.kT, h.1.rT0, h.1.rT1, h.1.kB, h.1.lB, h.1.kC, h.1.lC, h.1.kR, h.1.lR, h.1.kF, h.1.lF, h.1.kO, h.1.lO, h.1.kG, h.1.rG0, h.1.kG0, h.1.lG0, h.1.rG1, h.1.kG1, h.1.lG1, h.1.rG2, h.1.kG2, h.1.lG2, h.1.rG3, h.1.kG3, h.1.lG3, h.1.rL, h.1.kL, h.1.rL0, h.1.kL0, h.1.lL0, h.1.rL1, h.1.kL1, h.1.lL1, h.1.rL2, h.1.kL2, h.1.lL2, h.1.rL3, h.1.kL3, h.1.lL3, h.rows, h.bnd, h.inc, h.crd, h.fee, h.cnt, h.num, h.kept, h.ev0, h.ev1, h.ev2, h.ev3, h.l0, h.l1, h.l2, h.l3, h.l4, h.l5, h.l6, h.l7, h.p0, h.p1, h.p2, h.p3, h23, io_zx, io_nat, io_succ, io_lt, hi, c_isSoldTo h hm hi, c_premiumOf, sX3_premiumsOf_36]
    try ((repeat' split) <;> simp_all)
  · intro k acc
    show sX3_premiumsOf_4 n σ (k + 1) s b acc (Int32.ofNat (mk a)) = _
    rw [sX3_premiumsOf_4]
    simp (disch := omega) only [zgI, zgR, zaI, zaR, zaC, zck, zb_some, zb2_some, zbx_inl, zbx_inr, zdv, true_or, or_true, true_and, and_true, if_true, ↓reduceIte, h.1.kS, h.1.r0, h.1.r1, h.1.r2, h.1.r3, h.1.r4, h.1.kT, h.1.rT0, h.1.rT1, h.1.kB, h.1.lB, h.1.kC, h.1.lC, h.1.kR, h.1.lR, h.1.kF, h.1.lF, h.1.kO, h.1.lO, h.1.kG, h.1.rG0, h.1.kG0, h.1.lG0, h.1.rG1, h.1.kG1, h.1.lG1, h.1.rG2, h.1.kG2, h.1.lG2, h.1.rG3, h.1.kG3, h.1.lG3, h.1.rL, h.1.kL, h.1.rL0, h.1.kL0, h.1.lL0, h.1.rL1, h.1.kL1, h.1.lL1, h.1.rL2, h.1.kL2, h.1.lL2, h.1.rL3, h.1.kL3, h.1.lL3, h.rows, h.bnd, h.inc, h.crd, h.fee, h.cnt, h.num, h.kept, h.ev0, h.ev1, h.ev2, h.ev3, h.l0, h.l1, h.l2, h.l3, h.l4, h.l5, h.l6, h.l7, h.p0, h.p1, h.p2, h.p3, h23, io_zx, io_nat, io_succ, io_lt, Nat.lt_irrefl, if_false]

theorem c_lotsOf (h : Rep σ s a) (hc : Cn a) (hn : 1000 < n) (b st : Int32) : fX3_lotsOf n s b st σ = some (zsm (mk a) (fun i => if a (24 + 8 * i + 0) = b ∧ a (24 + 8 * i + 3) = st then 1 else 0)) := by
  obtain ⟨h23, hm, h991, hkp⟩ := hc
  unfold fX3_lotsOf
  refine zsm_loop (s := fun k acc i => sX3_lotsOf_5 n σ k s b st acc i) (N := (mk a)) (e := some) (by omega) ?_ ?_
  · intro k acc i hi
    have hv : i < (a 23).toNatClampNeg := hi
    show sX3_lotsOf_5 n σ (k + 1) s b st acc (Int32.ofNat i) = _
    rw [sX3_lotsOf_5]
    simp (disch := omega) only [zgI, zgR, zaI, zaR, zaC, zck, zb_some, zb2_some, zbx_inl, zbx_inr, zdv, true_or, or_true, true_and, and_true, if_true, ↓reduceIte, h.1.kS, h.1.r0, h.1.r1, h.1.r2, h.1.r3, h.1.r4, h.1.kT, h.1.rT0, h.1.rT1, h.1.kB, h.1.lB, h.1.kC, h.1.lC, h.1.kR, h.1.lR, h.1.kF, h.1.lF, h.1.kO, h.1.lO, h.1.kG, h.1.rG0, h.1.kG0, h.1.lG0, h.1.rG1, h.1.kG1, h.1.lG1, h.1.rG2, h.1.kG2, h.1.lG2, h.1.rG3, h.1.kG3, h.1.lG3, h.1.rL, h.1.kL, h.1.rL0, h.1.kL0, h.1.lL0, h.1.rL1, h.1.kL1, h.1.lL1, h.1.rL2, h.1.kL2, h.1.lL2, h.1.rL3, h.1.kL3, h.1.lL3, h.rows, h.bnd, h.inc, h.crd, h.fee, h.cnt, h.num, h.kept, h.ev0, h.ev1, h.ev2, h.ev3, h.l0, h.l1, h.l2, h.l3, h.l4, h.l5, h.l6, h.l7, h.p0, h.p1, h.p2, h.p3, h23, io_zx, io_nat, io_succ, io_lt, hi, sX3_lotsOf_45]
    try ((repeat' split) <;> simp_all)
  · intro k acc
    show sX3_lotsOf_5 n σ (k + 1) s b st acc (Int32.ofNat (mk a)) = _
    rw [sX3_lotsOf_5]
    simp (disch := omega) only [zgI, zgR, zaI, zaR, zaC, zck, zb_some, zb2_some, zbx_inl, zbx_inr, zdv, true_or, or_true, true_and, and_true, if_true, ↓reduceIte, h.1.kS, h.1.r0, h.1.r1, h.1.r2, h.1.r3, h.1.r4, h.1.kT, h.1.rT0, h.1.rT1, h.1.kB, h.1.lB, h.1.kC, h.1.lC, h.1.kR, h.1.lR, h.1.kF, h.1.lF, h.1.kO, h.1.lO, h.1.kG, h.1.rG0, h.1.kG0, h.1.lG0, h.1.rG1, h.1.kG1, h.1.lG1, h.1.rG2, h.1.kG2, h.1.lG2, h.1.rG3, h.1.kG3, h.1.lG3, h.1.rL, h.1.kL, h.1.rL0, h.1.kL0, h.1.lL0, h.1.rL1, h.1.kL1, h.1.lL1, h.1.rL2, h.1.kL2, h.1.lL2, h.1.rL3, h.1.kL3, h.1.lL3, h.rows, h.bnd, h.inc, h.crd, h.fee, h.cnt, h.num, h.kept, h.ev0, h.ev1, h.ev2, h.ev3, h.l0, h.l1, h.l2, h.l3, h.l4, h.l5, h.l6, h.l7, h.p0, h.p1, h.p2, h.p3, h23, io_zx, io_nat, io_succ, io_lt, Nat.lt_irrefl, if_false]

theorem c_pricesFor (h : Rep σ s a) (hc : Cn a) (hn : 1000 < n) (b : Int32) : fX3_pricesFor n s b σ = some (zsm (mk a) (fun i => if a (24 + 8 * i + 0) = b ∧ a (24 + 8 * i + 3) = 2 then a (24 + 8 * i + 7) else 0)) := by
  obtain ⟨h23, hm, h991, hkp⟩ := hc
  unfold fX3_pricesFor
  refine zsm_loop (s := fun k acc i => sX3_pricesFor_4 n σ k s b acc i) (N := (mk a)) (e := some) (by omega) ?_ ?_
  · intro k acc i hi
    have hv : i < (a 23).toNatClampNeg := hi
    show sX3_pricesFor_4 n σ (k + 1) s b acc (Int32.ofNat i) = _
    rw [sX3_pricesFor_4]
    simp (disch := omega) only [zgI, zgR, zaI, zaR, zaC, zck, zb_some, zb2_some, zbx_inl, zbx_inr, zdv, true_or, or_true, true_and, and_true, if_true, ↓reduceIte, h.1.kS, h.1.r0, h.1.r1, h.1.r2, h.1.r3, h.1.r4, h.1.kT, h.1.rT0, h.1.rT1, h.1.kB, h.1.lB, h.1.kC, h.1.lC, h.1.kR, h.1.lR, h.1.kF, h.1.lF, h.1.kO, h.1.lO, h.1.kG, h.1.rG0, h.1.kG0, h.1.lG0, h.1.rG1, h.1.kG1, h.1.lG1, h.1.rG2, h.1.kG2, h.1.lG2, h.1.rG3, h.1.kG3, h.1.lG3, h.1.rL, h.1.kL, h.1.rL0, h.1.kL0, h.1.lL0, h.1.rL1, h.1.kL1, h.1.lL1, h.1.rL2, h.1.kL2, h.1.lL2, h.1.rL3, h.1.kL3, h.1.lL3, h.rows, h.bnd, h.inc, h.crd, h.fee, h.cnt, h.num, h.kept, h.ev0, h.ev1, h.ev2, h.ev3, h.l0, h.l1, h.l2, h.l3, h.l4, h.l5, h.l6, h.l7, h.p0, h.p1, h.p2, h.p3, h23, io_zx, io_nat, io_succ, io_lt, hi, sX3_pricesFor_50]
    try ((repeat' split) <;> simp_all)
  · intro k acc
    show sX3_pricesFor_4 n σ (k + 1) s b acc (Int32.ofNat (mk a)) = _
    rw [sX3_pricesFor_4]
    simp (disch := omega) only [zgI, zgR, zaI, zaR, zaC, zck, zb_some, zb2_some, zbx_inl, zbx_inr, zdv, true_or, or_true, true_and, and_true, if_true, ↓reduceIte, h.1.kS, h.1.r0, h.1.r1, h.1.r2, h.1.r3, h.1.r4, h.1.kT, h.1.rT0, h.1.rT1, h.1.kB, h.1.lB, h.1.kC, h.1.lC, h.1.kR, h.1.lR, h.1.kF, h.1.lF, h.1.kO, h.1.lO, h.1.kG, h.1.rG0, h.1.kG0, h.1.lG0, h.1.rG1, h.1.kG1, h.1.lG1, h.1.rG2, h.1.kG2, h.1.lG2, h.1.rG3, h.1.kG3, h.1.lG3, h.1.rL, h.1.kL, h.1.rL0, h.1.kL0, h.1.lL0, h.1.rL1, h.1.kL1, h.1.lL1, h.1.rL2, h.1.kL2, h.1.lL2, h.1.rL3, h.1.kL3, h.1.lL3, h.rows, h.bnd, h.inc, h.crd, h.fee, h.cnt, h.num, h.kept, h.ev0, h.ev1, h.ev2, h.ev3, h.l0, h.l1, h.l2, h.l3, h.l4, h.l5, h.l6, h.l7, h.p0, h.p1, h.p2, h.p3, h23, io_zx, io_nat, io_succ, io_lt, Nat.lt_irrefl, if_false]

theorem c_commissionsOf (h : Rep σ s a) (hc : Cn a) (hn : 1000 < n) (b : Int32) : fX3_commissionsOf n s b σ = some (zsm (mk a) (fun i => if a (24 + 8 * i + 0) = b ∧ a (24 + 8 * i + 3) = 2 then cms (a (24 + 8 * i + 7)) else 0)) := by
  obtain ⟨h23, hm, h991, hkp⟩ := hc
  unfold fX3_commissionsOf
  refine zsm_loop (s := fun k acc i => sX3_commissionsOf_4 n σ k s b acc i) (N := (mk a)) (e := some) (by omega) ?_ ?_
  · intro k acc i hi
    have hv : i < (a 23).toNatClampNeg := hi
    show sX3_commissionsOf_4 n σ (k + 1) s b acc (Int32.ofNat i) = _
    rw [sX3_commissionsOf_4]
    simp (disch := omega) only [zgI, zgR, zaI, zaR, zaC, zck, zb_some, zb2_some, zbx_inl, zbx_inr, zdv, true_or, or_true, true_and, and_true, if_true, ↓reduceIte, h.1.kS, h.1.r0, h.1.r1, h.1.r2, h.1.r3, h.1.r4, h.1.kT, h.1.rT0, h.1.rT1, h.1.kB, h.1.lB, h.1.kC, h.1.lC, h.1.kR, h.1.lR, h.1.kF, h.1.lF, h.1.kO, h.1.lO, h.1.kG, h.1.rG0, h.1.kG0, h.1.lG0, h.1.rG1, h.1.kG1, h.1.lG1, h.1.rG2, h.1.kG2, h.1.lG2, h.1.rG3, h.1.kG3, h.1.lG3, h.1.rL, h.1.kL, h.1.rL0, h.1.kL0, h.1.lL0, h.1.rL1, h.1.kL1, h.1.lL1, h.1.rL2, h.1.kL2, h.1.lL2, h.1.rL3, h.1.kL3, h.1.lL3, h.rows, h.bnd, h.inc, h.crd, h.fee, h.cnt, h.num, h.kept, h.ev0, h.ev1, h.ev2, h.ev3, h.l0, h.l1, h.l2, h.l3, h.l4, h.l5, h.l6, h.l7, h.p0, h.p1, h.p2, h.p3, h23, io_zx, io_nat, io_succ, io_lt, hi, c_commissionOf, sX3_commissionsOf_53]
    try ((repeat' split) <;> simp_all)
  · intro k acc
    show sX3_commissionsOf_4 n σ (k + 1) s b acc (Int32.ofNat (mk a)) = _
    rw [sX3_commissionsOf_4]
    simp (disch := omega) only [zgI, zgR, zaI, zaR, zaC, zck, zb_some, zb2_some, zbx_inl, zbx_inr, zdv, true_or, or_true, true_and, and_true, if_true, ↓reduceIte, h.1.kS, h.1.r0, h.1.r1, h.1.r2, h.1.r3, h.1.r4, h.1.kT, h.1.rT0, h.1.rT1, h.1.kB, h.1.lB, h.1.kC, h.1.lC, h.1.kR, h.1.lR, h.1.kF, h.1.lF, h.1.kO, h.1.lO, h.1.kG, h.1.rG0, h.1.kG0, h.1.lG0, h.1.rG1, h.1.kG1, h.1.lG1, h.1.rG2, h.1.kG2, h.1.lG2, h.1.rG3, h.1.kG3, h.1.lG3, h.1.rL, h.1.kL, h.1.rL0, h.1.kL0, h.1.lL0, h.1.rL1, h.1.kL1, h.1.lL1, h.1.rL2, h.1.kL2, h.1.lL2, h.1.rL3, h.1.kL3, h.1.lL3, h.rows, h.bnd, h.inc, h.crd, h.fee, h.cnt, h.num, h.kept, h.ev0, h.ev1, h.ev2, h.ev3, h.l0, h.l1, h.l2, h.l3, h.l4, h.l5, h.l6, h.l7, h.p0, h.p1, h.p2, h.p3, h23, io_zx, io_nat, io_succ, io_lt, Nat.lt_irrefl, if_false]

theorem c_countOf (h : Rep σ s a) (hc : Cn a) (hn : 1000 < n) (b : Int32) : fX1_countOf n (s + 7) b σ = some (zsm (kp a) (fun i => if a (992 + 4 * i + 0) = b then 1 else 0)) := by
  obtain ⟨h23, hm, h991, hkp⟩ := hc
  unfold fX1_countOf
  refine zsm_loop (s := fun k acc i => sX1_countOf_4 n σ k (s + 7) b acc i) (N := (kp a)) (e := some) (by omega) ?_ ?_
  · intro k acc i hi
    have hv : i < (a 991).toNatClampNeg := hi
    show sX1_countOf_4 n σ (k + 1) (s + 7) b acc (Int32.ofNat i) = _
    rw [sX1_countOf_4]
    simp (disch := omega) only [zgI, zgR, zaI, zaR, zaC, zck, zb_some, zb2_some, zbx_inl, zbx_inr, zdv, true_or, or_true, true_and, and_true, if_true, ↓reduceIte, h.1.kS, h.1.r0, h.1.r1, h.1.r2, h.1.r3, h.1.r4, h.1.kT, h.1.rT0, h.1.rT1, h.1.kB, h.1.lB, h.1.kC, h.1.lC, h.1.kR, h.1.lR, h.1.kF, h.1.lF, h.1.kO, h.1.lO, h.1.kG, h.1.rG0, h.1.kG0, h.1.lG0, h.1.rG1, h.1.kG1, h.1.lG1, h.1.rG2, h.1.kG2, h.1.lG2, h.1.rG3, h.1.kG3, h.1.lG3, h.1.rL, h.1.kL, h.1.rL0, h.1.kL0, h.1.lL0, h.1.rL1, h.1.kL1, h.1.lL1, h.1.rL2, h.1.kL2, h.1.lL2, h.1.rL3, h.1.kL3, h.1.lL3, h.rows, h.bnd, h.inc, h.crd, h.fee, h.cnt, h.num, h.kept, h.ev0, h.ev1, h.ev2, h.ev3, h.l0, h.l1, h.l2, h.l3, h.l4, h.l5, h.l6, h.l7, h.p0, h.p1, h.p2, h.p3, h991, io_zx, io_nat, io_succ, io_lt, hi, sX1_countOf_25]
    try ((repeat' split) <;> simp_all)
  · intro k acc
    show sX1_countOf_4 n σ (k + 1) (s + 7) b acc (Int32.ofNat (kp a)) = _
    rw [sX1_countOf_4]
    simp (disch := omega) only [zgI, zgR, zaI, zaR, zaC, zck, zb_some, zb2_some, zbx_inl, zbx_inr, zdv, true_or, or_true, true_and, and_true, if_true, ↓reduceIte, h.1.kS, h.1.r0, h.1.r1, h.1.r2, h.1.r3, h.1.r4, h.1.kT, h.1.rT0, h.1.rT1, h.1.kB, h.1.lB, h.1.kC, h.1.lC, h.1.kR, h.1.lR, h.1.kF, h.1.lF, h.1.kO, h.1.lO, h.1.kG, h.1.rG0, h.1.kG0, h.1.lG0, h.1.rG1, h.1.kG1, h.1.lG1, h.1.rG2, h.1.kG2, h.1.lG2, h.1.rG3, h.1.kG3, h.1.lG3, h.1.rL, h.1.kL, h.1.rL0, h.1.kL0, h.1.lL0, h.1.rL1, h.1.kL1, h.1.lL1, h.1.rL2, h.1.kL2, h.1.lL2, h.1.rL3, h.1.kL3, h.1.lL3, h.rows, h.bnd, h.inc, h.crd, h.fee, h.cnt, h.num, h.kept, h.ev0, h.ev1, h.ev2, h.ev3, h.l0, h.l1, h.l2, h.l3, h.l4, h.l5, h.l6, h.l7, h.p0, h.p1, h.p2, h.p3, h991, io_zx, io_nat, io_succ, io_lt, Nat.lt_irrefl, if_false]

theorem c_ledgerPrices (h : Rep σ s a) (hc : Cn a) (hn : 1000 < n) (b : Int32) : fX1_pricesTo n (s + 7) b σ = some (zsm (kp a) (fun i => if a (992 + 4 * i + 0) = 3 ∧ a (992 + 4 * i + 2) = b then a (992 + 4 * i + 3) else 0)) := by
  obtain ⟨h23, hm, h991, hkp⟩ := hc
  unfold fX1_pricesTo
  refine zsm_loop (s := fun k acc i => sX1_pricesTo_4 n σ k (s + 7) b acc i) (N := (kp a)) (e := some) (by omega) ?_ ?_
  · intro k acc i hi
    have hv : i < (a 991).toNatClampNeg := hi
    show sX1_pricesTo_4 n σ (k + 1) (s + 7) b acc (Int32.ofNat i) = _
    rw [sX1_pricesTo_4]
    simp (disch := omega) only [zgI, zgR, zaI, zaR, zaC, zck, zb_some, zb2_some, zbx_inl, zbx_inr, zdv, true_or, or_true, true_and, and_true, if_true, ↓reduceIte, h.1.kS, h.1.r0, h.1.r1, h.1.r2, h.1.r3, h.1.r4, h.1.kT, h.1.rT0, h.1.rT1, h.1.kB, h.1.lB, h.1.kC, h.1.lC, h.1.kR, h.1.lR, h.1.kF, h.1.lF, h.1.kO, h.1.lO, h.1.kG, h.1.rG0, h.1.kG0, h.1.lG0, h.1.rG1, h.1.kG1, h.1.lG1, h.1.rG2, h.1.kG2, h.1.lG2, h.1.rG3, h.1.kG3, h.1.lG3, h.1.rL, h.1.kL, h.1.rL0, h.1.kL0, h.1.lL0, h.1.rL1, h.1.kL1, h.1.lL1, h.1.rL2, h.1.kL2, h.1.lL2, h.1.rL3, h.1.kL3, h.1.lL3, h.rows, h.bnd, h.inc, h.crd, h.fee, h.cnt, h.num, h.kept, h.ev0, h.ev1, h.ev2, h.ev3, h.l0, h.l1, h.l2, h.l3, h.l4, h.l5, h.l6, h.l7, h.p0, h.p1, h.p2, h.p3, h991, io_zx, io_nat, io_succ, io_lt, hi, sX1_pricesTo_41]
    try ((repeat' split) <;> simp_all)
  · intro k acc
    show sX1_pricesTo_4 n σ (k + 1) (s + 7) b acc (Int32.ofNat (kp a)) = _
    rw [sX1_pricesTo_4]
    simp (disch := omega) only [zgI, zgR, zaI, zaR, zaC, zck, zb_some, zb2_some, zbx_inl, zbx_inr, zdv, true_or, or_true, true_and, and_true, if_true, ↓reduceIte, h.1.kS, h.1.r0, h.1.r1, h.1.r2, h.1.r3, h.1.r4, h.1.kT, h.1.rT0, h.1.rT1, h.1.kB, h.1.lB, h.1.kC, h.1.lC, h.1.kR, h.1.lR, h.1.kF, h.1.lF, h.1.kO, h.1.lO, h.1.kG, h.1.rG0, h.1.kG0, h.1.lG0, h.1.rG1, h.1.kG1, h.1.lG1, h.1.rG2, h.1.kG2, h.1.lG2, h.1.rG3, h.1.kG3, h.1.lG3, h.1.rL, h.1.kL, h.1.rL0, h.1.kL0, h.1.lL0, h.1.rL1, h.1.kL1, h.1.lL1, h.1.rL2, h.1.kL2, h.1.lL2, h.1.rL3, h.1.kL3, h.1.lL3, h.rows, h.bnd, h.inc, h.crd, h.fee, h.cnt, h.num, h.kept, h.ev0, h.ev1, h.ev2, h.ev3, h.l0, h.l1, h.l2, h.l3, h.l4, h.l5, h.l6, h.l7, h.p0, h.p1, h.p2, h.p3, h991, io_zx, io_nat, io_succ, io_lt, Nat.lt_irrefl, if_false]

end
