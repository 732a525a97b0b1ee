/-! THE SALE READ: what the class's counting and summing methods answer, over the numbers a -/
def mk (a : Nat → Int32) : Nat := (a 23).toNatClampNeg
def kp (a : Nat → Int32) : Nat := (a 991).toNatClampNeg
/-- the counters lie in their bounds -/
def Cn (a : Nat → Int32) : Prop := a 23 = Int32.ofNat (mk a) ∧ mk a ≤ 20 ∧ a 991 = Int32.ofNat (kp a) ∧ kp a ≤ 250
section
variable {σ : zW} {s i n : Nat} {a : Nat → Int32}
theorem io_zx {i L : Nat} (h : i < L) (hi : i < 2147483648) : zix (Int32.ofNat i) L = True := eq_true (io_zix h hi)
theorem Vl {i : Nat} (h : i < mk a) : i < (a 23).toNatClampNeg := h
theorem c_lotsIn (h : Rep σ s a) (hc : Cn a) (hn : 1000 < n) (st : Int32) : fX3_lotsIn n s st σ = some (zsm (mk a) (fun i => if a (24 + 8 * i + 3) = st then 1 else 0)) := by
  obtain ⟨h23, hm, -, -⟩ := hc
  unfold fX3_lotsIn
  refine zsm_loop (s := fun k acc i => sX3_lotsIn_4 n σ k s st acc i) (N := mk a) (e := some) (by omega) ?_ ?_
  · intro k acc i hi
    have hv : i < (a 23).toNatClampNeg := hi
    show sX3_lotsIn_4 n σ (k + 1) s st acc (Int32.ofNat i) = _
    rw [sX3_lotsIn_4]
    simp (disch := omega) only [zgI, zgR, zaI, zaR, zaC, zck, zb_some, zb2_some, zbx_inl, zbx_inr, zdv, true_or, or_true, true_and, and_true, if_true, ↓reduceIte, h.1.kS, h.1.r0, h.1.r1, h.1.r2, h.1.r3, h.1.r4, h.1.kT, h.1.rT0, h.1.rT1, h.1.kB, h.1.lB, h.1.kC, h.1.lC, h.1.kR, h.1.lR, h.1.kF, h.1.lF, h.1.kO, h.1.lO, h.1.kG, h.1.rG0, h.1.kG0, h.1.lG0, h.1.rG1, h.1.kG1, h.1.lG1, h.1.rG2, h.1.kG2, h.1.lG2, h.1.rG3, h.1.kG3, h.1.lG3, h.1.rL, h.1.kL, h.1.rL0, h.1.kL0, h.1.lL0, h.1.rL1, h.1.kL1, h.1.lL1, h.1.rL2, h.1.kL2, h.1.lL2, h.1.rL3, h.1.kL3, h.1.lL3, h.rows, h.bnd, h.inc, h.crd, h.fee, h.cnt, h.num, h.kept, h.ev0, h.ev1, h.ev2, h.ev3, h.l0, h.l1, h.l2, h.l3, h.l4, h.l5, h.l6, h.l7, h.p0, h.p1, h.p2, h.p3, h23, io_zx, io_nat, io_succ, io_lt, hi, sX3_lotsIn_28]
    split <;> simp only [Int32.add_zero]
  · intro k acc
    show sX3_lotsIn_4 n σ (k + 1) s st acc (Int32.ofNat (mk a)) = _
    rw [sX3_lotsIn_4]
    simp (disch := omega) only [zgI, zgR, zaI, zaR, zaC, zck, zb_some, zb2_some, zbx_inl, zbx_inr, zdv, true_or, or_true, true_and, and_true, if_true, ↓reduceIte, h.1.kS, h.1.r0, h.1.r1, h.1.r2, h.1.r3, h.1.r4, h.1.kT, h.1.rT0, h.1.rT1, h.1.kB, h.1.lB, h.1.kC, h.1.lC, h.1.kR, h.1.lR, h.1.kF, h.1.lF, h.1.kO, h.1.lO, h.1.kG, h.1.rG0, h.1.kG0, h.1.lG0, h.1.rG1, h.1.kG1, h.1.lG1, h.1.rG2, h.1.kG2, h.1.lG2, h.1.rG3, h.1.kG3, h.1.lG3, h.1.rL, h.1.kL, h.1.rL0, h.1.kL0, h.1.lL0, h.1.rL1, h.1.kL1, h.1.lL1, h.1.rL2, h.1.kL2, h.1.lL2, h.1.rL3, h.1.kL3, h.1.lL3, h.rows, h.bnd, h.inc, h.crd, h.fee, h.cnt, h.num, h.kept, h.ev0, h.ev1, h.ev2, h.ev3, h.l0, h.l1, h.l2, h.l3, h.l4, h.l5, h.l6, h.l7, h.p0, h.p1, h.p2, h.p3, h23, io_zx, io_nat, io_succ, io_lt, Nat.lt_irrefl, if_false]
end
