/-! STEPS: the class's loop over the rows and the reference's leaps come to the same number -/
def tB (a : Nat → Int32) (k : Nat) : Nat := (a (1 + k)).toNatClampNeg
def tI (a : Nat → Int32) (k : Nat) : Nat := (a (7 + k)).toNatClampNeg
def tR (a : Nat → Int32) : Nat := (a 0).toNatClampNeg
/-- the table of increments -/
def Tb (a : Nat → Int32) : Prop := (a 0 = Int32.ofNat (tR a) ∧ 1 ≤ tR a ∧ tR a ≤ 6 ∧ tB a 0 = 0) ∧ (∀ k, k < tR a → a (1 + k) = Int32.ofNat (tB a k) ∧ tB a k ≤ 90000 ∧ a (7 + k) = Int32.ofNat (tI a k) ∧ 1 ≤ tI a k ∧ tI a k ≤ 5000) ∧ ∀ k, k + 1 < tR a → tB a k < tB a (k + 1)
def stN (B I : Nat → Nat) (R x : Nat) : Nat → Nat → Nat → Nat
  | 0, _, s => s
  | f + 1, row, s => if row + 1 = R then s + (x - s) / I row * I row else if (x - s) / I row < (B (row + 1) - s + I row - 1) / I row then s + (x - s) / I row * I row else stN B I R x f (row + 1) (s + (B (row + 1) - s + I row - 1) / I row * I row)
def stp (a : Nat → Int32) (x : Nat) : Nat := stN (tB a) (tI a) (tR a) x (tR a) 0 0
theorem stN_le {B I : Nat → Nat} {R x : Nat} : ∀ (f row s : Nat), s ≤ x → stN B I R x f row s ≤ x
  | 0, _, _, h => h
  | f + 1, row, s, h => by
    unfold stN
    have h1 := Nat.div_mul_le_self (x - s) (I row)
    split
    · omega
    · split
      · omega
      · next h2 h3 =>
        refine stN_le f (row + 1) _ ?_
        have h4 := Nat.mul_le_mul_right (I row) (Nat.not_lt.mp h3)
        omega
theorem stp_le {a : Nat → Int32} {x : Nat} : stp a x ≤ x := stN_le _ _ _ (Nat.zero_le _)
theorem io_sub {x y : Nat} (h : y ≤ x) : Int32.ofNat x - Int32.ofNat y = Int32.ofNat (x - y) := (Int32.ofNat_sub x y h).symm
theorem io_div {x y : Nat} (hx : x < 2147483648) (hy : y < 2147483648) : Int32.ofNat x / Int32.ofNat y = Int32.ofNat (x / y) := (Int32.ofNat_div hx hy).symm
theorem io_one {i : Nat} (h : 1 ≤ i) : Int32.ofNat i - 1 = Int32.ofNat (i - 1) := io_sub (y := 1) h
theorem mx1 {i : Nat} (h : 1 ≤ i) (h2 : i < 2147483648) : (if (1 : Int32) < Int32.ofNat i then Int32.ofNat i else 1) = Int32.ofNat i := by
  split
  · rfl
  · next h3 =>
    have h4 : ¬ Int32.ofNat 1 < Int32.ofNat i := h3
    rw [io_lt (by decide) h2] at h4
    rw [show i = 1 by omega]
    rfl
theorem mx0 {x y : Nat} (hx : x < 2147483648) (hy : y < 2147483648) : (if (0 : Int32) < Int32.ofNat x - Int32.ofNat y then Int32.ofNat x - Int32.ofNat y else 0) = Int32.ofNat (x - y) := by
  by_cases h : y ≤ x
  · rw [io_sub h]
    split
    · rfl
    · next h3 =>
      have h4 : ¬ Int32.ofNat 0 < Int32.ofNat (x - y) := h3
      rw [io_lt (by decide) (by omega)] at h4
      rw [show x - y = 0 by omega]
      rfl
  · rw [show x - y = 0 by omega, if_neg]
    · rfl
    · intro h3
      have h4 := Int32.lt_iff_toInt_lt.mp h3
      rw [Int32.toInt_sub] at h4
      have e1 : (Int32.ofNat x).toInt = x := Int32.toInt_ofNat_of_lt hx
      have e2 : (Int32.ofNat y).toInt = y := Int32.toInt_ofNat_of_lt hy
      rw [e1, e2, Int.bmod_eq_of_le (by omega) (by omega)] at h4
      have e3 : (0 : Int32).toInt = 0 := rfl
      omega
theorem io_ne0 {i : Nat} (h : 1 ≤ i) (h2 : i < 2147483648) : (Int32.ofNat i = 0) = False := by
  have : (Int32.ofNat i = Int32.ofNat 0) = (i = 0) := io_eq h2 (by decide)
  rw [show (0 : Int32) = Int32.ofNat 0 from rfl, this]
  exact eq_false (by omega)
section
variable {σ : zW} {s n x : Nat} {a : Nat → Int32}
theorem c_stepAt_l (h : Rep σ s a) (ht : Tb a) (hx : x ≤ 99999) : ∀ (f row t k : Nat), row + f = tR a → 1 ≤ f → t ≤ x → f < k → sX5_stepAt_4 n σ k (s + 1) (Int32.ofNat x) (Int32.ofNat t) (Int32.ofNat row) = some (Int32.ofNat (stN (tB a) (tI a) (tR a) x f row t)) := by
  obtain ⟨⟨h0, h1, h6, hB0⟩, hr, hasc⟩ := ht
  intro f
  induction f with
  | zero => intro row t k _ hf; omega
  | succ f ih =>
    intro row t k hrow _ htx hk
    obtain ⟨k, rfl⟩ : ∃ k', k = k' + 1 := ⟨k - 1, by omega⟩
    obtain ⟨e1, e2, e3, e4, e5⟩ := hr row (by omega)
    have hz : zix (Int32.ofNat row) 6 = True := io_zx (by omega) (by omega)
    have d1 := Nat.div_le_self (x - t) (tI a row)
    have d2 := Nat.div_mul_le_self (x - t) (tI a row)
    rw [sX5_stepAt_4, stN]
    simp (disch := omega) only [zgI, zgR, zaI, zaR, zaC, zck, zb_some, zb2_some, zbx_inl, zbx_inr, zdv, true_or, or_true, true_and, and_true, if_true, ↓reduceIte, h.1.kS, h.1.r0, h.1.r1, h.1.r2, h.1.r3, h.1.r4, h.1.kT, h.1.rT0, h.1.rT1, h.1.kB, h.1.lB, h.1.kC, h.1.lC, h.1.kR, h.1.lR, h.1.kF, h.1.lF, h.1.kO, h.1.lO, h.1.kG, h.1.rG0, h.1.kG0, h.1.lG0, h.1.rG1, h.1.kG1, h.1.lG1, h.1.rG2, h.1.kG2, h.1.lG2, h.1.rG3, h.1.kG3, h.1.lG3, h.1.rL, h.1.kL, h.1.rL0, h.1.kL0, h.1.lL0, h.1.rL1, h.1.kL1, h.1.lL1, h.1.rL2, h.1.kL2, h.1.lL2, h.1.rL3, h.1.kL3, h.1.lL3, h.rows, h.bnd, h.inc, h.crd, h.fee, h.cnt, h.num, h.kept, h.ev0, h.ev1, h.ev2, h.ev3, h.l0, h.l1, h.l2, h.l3, h.l4, h.l5, h.l6, h.l7, h.p0, h.p1, h.p2, h.p3, h0, io_lt, io_nat, hz, e3, mx1, io_ne0, io_eq, io_succ, io_sub, io_div, ixl, ixm, show row < tR a by omega]
    by_cases hl : row + 1 = tR a
    · simp only [if_pos hl]
    · obtain ⟨b1, b2, -, -, -⟩ := hr (row + 1) (by omega)
      have hz2 : zix (Int32.ofNat (row + 1)) 6 = True := io_zx (by omega) (by omega)
      have q1 : tB a (row + 1) - t + tI a row < 2147483648 := by omega
      have d3 := Nat.div_le_self (tB a (row + 1) - t + tI a row - 1) (tI a row)
      simp (disch := omega) only [if_neg hl, hz2, zgI, zgR, zaI, zaR, zaC, zck, zb_some, zb2_some, zbx_inl, zbx_inr, zdv, true_or, or_true, true_and, and_true, if_true, ↓reduceIte, h.1.kS, h.1.r0, h.1.r1, h.1.r2, h.1.r3, h.1.r4, h.1.kT, h.1.rT0, h.1.rT1, h.1.kB, h.1.lB, h.1.kC, h.1.lC, h.1.kR, h.1.lR, h.1.kF, h.1.lF, h.1.kO, h.1.lO, h.1.kG, h.1.rG0, h.1.kG0, h.1.lG0, h.1.rG1, h.1.kG1, h.1.lG1, h.1.rG2, h.1.kG2, h.1.lG2, h.1.rG3, h.1.kG3, h.1.lG3, h.1.rL, h.1.kL, h.1.rL0, h.1.kL0, h.1.lL0, h.1.rL1, h.1.kL1, h.1.lL1, h.1.rL2, h.1.kL2, h.1.lL2, h.1.rL3, h.1.kL3, h.1.lL3, h.rows, h.bnd, h.inc, h.crd, h.fee, h.cnt, h.num, h.kept, h.ev0, h.ev1, h.ev2, h.ev3, h.l0, h.l1, h.l2, h.l3, h.l4, h.l5, h.l6, h.l7, h.p0, h.p1, h.p2, h.p3, io_nat, b1, mx0, ixl, io_one, io_div, io_lt, ixm, io_ne0, io_succ]
      by_cases hq : (x - t) / tI a row < (tB a (row + 1) - t + tI a row - 1) / tI a row
      · simp only [if_pos hq]
      · simp only [if_neg hq]
        have h4 := Nat.mul_le_mul_right (tI a row) (Nat.not_lt.mp hq)
        exact ih (row + 1) _ k (by omega) (by omega) (by omega) (by omega)
theorem c_stepAt (h : Rep σ s a) (ht : Tb a) (hx : x ≤ 99999) (hn : 1000 < n) : fX5_stepAt n (s + 1) (Int32.ofNat x) σ = some (Int32.ofNat (stp a x)) := by
  have h1 := ht.1
  exact c_stepAt_l h ht hx (tR a) 0 0 n (by omega) (by omega) (Nat.zero_le _) (by omega)
end
