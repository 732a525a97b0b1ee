/-! THE NEXT STEP, AND WHAT IS A STEP -/
def rwN (B : Nat → Nat) (t : Nat) : Nat → Nat
  | 0 => 0
  | k + 1 => if B k ≤ t then k else rwN B t k
def rwo (a : Nat → Int32) (t : Nat) : Nat := rwN (tB a) t (tR a)
def nxt (a : Nat → Int32) (x : Nat) : Nat := stp a x + tI a (rwo a (stp a x))
theorem rwN_spec {B : Nat → Nat} {t : Nat} (h0 : B 0 = 0) : ∀ k, 1 ≤ k → rwN B t k < k ∧ B (rwN B t k) ≤ t ∧ (rwN B t k + 1 < k → ∀ j, rwN B t k < j → j < k → t < B j)
  | 0, h => by omega
  | k + 1, _ => by
    unfold rwN
    by_cases h : B k ≤ t
    · rw [if_pos h]
      exact ⟨by omega, h, fun q => by omega⟩
    · rw [if_neg h]
      have hk : 1 ≤ k := by
        cases k with
        | zero => omega
        | succ k => omega
      obtain ⟨h1, h2, h3⟩ := rwN_spec (t := t) h0 k hk
      refine ⟨by omega, h2, fun _ j hj1 hj2 => ?_⟩
      by_cases e : j = k
      · rw [e]; omega
      · exact h3 (by omega) j hj1 (by omega)
theorem rwo_in {a : Nat → Int32} (ht : Tb a) (t : Nat) : inRow a t (rwo a t) := by
  obtain ⟨h1, h2, h3⟩ := rwN_spec (B := tB a) (t := t) ht.1.2.2.2 (tR a) ht.1.2.1
  exact ⟨h1, h2, fun q => h3 q _ (Nat.lt_succ_self _) q⟩
theorem nxt_le {a : Nat → Int32} (ht : Tb a) {x : Nat} (hx : x ≤ 99999) : nxt a x ≤ 104999 := by
  have h1 := stp_le (a := a) (x := x)
  have h2 := (ht.2.1 _ (rwo_in ht (stp a x)).1).2.2.2.2
  unfold nxt
  omega
theorem nxt_gt {a : Nat → Int32} (ht : Tb a) {x : Nat} : 1 ≤ nxt a x := by
  have h2 := (ht.2.1 _ (rwo_in ht (stp a x)).1).2.2.2.1
  unfold nxt
  omega
section
variable {σ : zW} {s m w n x : Nat} {a : Nat → Int32}
theorem c_stepAfter_l (h : Rep σ s a) (ht : Tb a) {t row : Nat} (ht2 : t < 1000000) (hi : inRow a t row) : ∀ (d k r fu : Nat), k + d = tR a → d < fu → 1 ≤ k → r < 2000000 → (row < k → r = tI a row) → sX5_stepAfter_16 n σ fu (s + 1) (Int32.ofNat t) (Int32.ofNat r) (Int32.ofNat k) = some (Int32.ofNat (t + tI a row)) := by
  obtain ⟨i1, i2, i3⟩ := hi
  have hmono := Tb.mono ht
  obtain ⟨⟨h0, h1, h6, hB0⟩, hr, hasc⟩ := ht
  intro d
  induction d with
  | zero =>
    intro k r fu hk hf h1k _ hrow
    obtain ⟨fu, rfl⟩ : ∃ k', fu = k' + 1 := ⟨fu - 1, by omega⟩
    rw [sX5_stepAfter_16]
    simp (disch := omega) only [zgI, zgR, zaI, zaR, zaC, zck, zb_some, zb2_some, zbx_inl, zbx_inr, zdv, true_or, or_true, true_and, and_true, if_true, ↓reduceIte, h.1.kS, h.1.r0, h.1.r1, h.1.r2, h.1.r3, h.1.r4, h.1.kT, h.1.rT0, h.1.rT1, h.1.kB, h.1.lB, h.1.kC, h.1.lC, h.1.kR, h.1.lR, h.1.kF, h.1.lF, h.1.kO, h.1.lO, h.1.kG, h.1.rG0, h.1.kG0, h.1.lG0, h.1.rG1, h.1.kG1, h.1.lG1, h.1.rG2, h.1.kG2, h.1.lG2, h.1.rG3, h.1.kG3, h.1.lG3, h.1.rL, h.1.kL, h.1.rL0, h.1.kL0, h.1.lL0, h.1.rL1, h.1.kL1, h.1.lL1, h.1.rL2, h.1.kL2, h.1.lL2, h.1.rL3, h.1.kL3, h.1.lL3, h.rows, h.bnd, h.inc, h.crd, h.fee, h.cnt, h.num, h.kept, h.ev0, h.ev1, h.ev2, h.ev3, h.l0, h.l1, h.l2, h.l3, h.l4, h.l5, h.l6, h.l7, h.p0, h.p1, h.p2, h.p3, h0, io_lt, hrow (by omega), show ¬ k < tR a by omega, if_false, ixl]
  | succ d ih =>
    intro k r fu hk hf h1k hr2 hrow
    obtain ⟨fu, rfl⟩ : ∃ k', fu = k' + 1 := ⟨fu - 1, by omega⟩
    obtain ⟨e1, e2, e3, e4, e5⟩ := hr k (by omega)
    have hz : zix (Int32.ofNat k) 6 = True := io_zx (by omega) (by omega)
    rw [sX5_stepAfter_16]
    simp (disch := omega) only [zgI, zgR, zaI, zaR, zaC, zck, zb_some, zb2_some, zbx_inl, zbx_inr, zdv, true_or, or_true, true_and, and_true, if_true, ↓reduceIte, h.1.kS, h.1.r0, h.1.r1, h.1.r2, h.1.r3, h.1.r4, h.1.kT, h.1.rT0, h.1.rT1, h.1.kB, h.1.lB, h.1.kC, h.1.lC, h.1.kR, h.1.lR, h.1.kF, h.1.lF, h.1.kO, h.1.lO, h.1.kG, h.1.rG0, h.1.kG0, h.1.lG0, h.1.rG1, h.1.kG1, h.1.lG1, h.1.rG2, h.1.kG2, h.1.lG2, h.1.rG3, h.1.kG3, h.1.lG3, h.1.rL, h.1.kL, h.1.rL0, h.1.kL0, h.1.lL0, h.1.rL1, h.1.kL1, h.1.lL1, h.1.rL2, h.1.kL2, h.1.lL2, h.1.rL3, h.1.kL3, h.1.lL3, h.rows, h.bnd, h.inc, h.crd, h.fee, h.cnt, h.num, h.kept, h.ev0, h.ev1, h.ev2, h.ev3, h.l0, h.l1, h.l2, h.l3, h.l4, h.l5, h.l6, h.l7, h.p0, h.p1, h.p2, h.p3, h0, io_lt, hz, io_nat, e1, e3, show k < tR a by omega, sX5_stepAfter_44, io_succ]
    by_cases hq : t < tB a k
    · simp only [if_pos hq]
      refine ih (k + 1) r fu (by omega) (by omega) (by omega) hr2 (fun hlt => ?_)
      by_cases hk2 : row < k
      · exact hrow hk2
      · have := hmono row k (by omega) i1
        omega
    · simp only [if_neg hq]
      refine ih (k + 1) (tI a k) fu (by omega) (by omega) (by omega) (by omega) (fun hlt => ?_)
      by_cases hk2 : row = k
      · rw [hk2]
      · have h5 := i3 (by omega)
        have h6 := hmono k (row + 1) (by omega) (by omega)
        omega
theorem c_stepAfter (h : Rep σ s a) (ht : Tb a) (hx : x ≤ 99999) (hn : 1000 < n) : fX5_stepAfter n (s + 1) (Int32.ofNat x) σ = some (Int32.ofNat (nxt a x)) := by
  have h1 := ht.1
  have h2 := stp_le (a := a) (x := x)
  have hr0 := ht.2.1 0 (by omega)
  have hri := rwo_in ht (stp a x)
  have hz : zix 0 6 = True := zx _ 0 _ (by decide) rfl (by decide)
  have e3 : a (7 + 0) = Int32.ofNat (tI a 0) := hr0.2.2.1
  simp (disch := omega) only [fX5_stepAfter, c_stepAt h ht hx hn, zgI, zgR, zaI, zaR, zaC, zck, zb_some, zb2_some, zbx_inl, zbx_inr, zdv, true_or, or_true, true_and, and_true, if_true, ↓reduceIte, h.1.kS, h.1.r0, h.1.r1, h.1.r2, h.1.r3, h.1.r4, h.1.kT, h.1.rT0, h.1.rT1, h.1.kB, h.1.lB, h.1.kC, h.1.lC, h.1.kR, h.1.lR, h.1.kF, h.1.lF, h.1.kO, h.1.lO, h.1.kG, h.1.rG0, h.1.kG0, h.1.lG0, h.1.rG1, h.1.kG1, h.1.lG1, h.1.rG2, h.1.kG2, h.1.lG2, h.1.rG3, h.1.kG3, h.1.lG3, h.1.rL, h.1.kL, h.1.rL0, h.1.kL0, h.1.lL0, h.1.rL1, h.1.kL1, h.1.lL1, h.1.rL2, h.1.kL2, h.1.lL2, h.1.rL3, h.1.kL3, h.1.lL3, h.rows, h.bnd, h.inc, h.crd, h.fee, h.cnt, h.num, h.kept, h.ev0, h.ev1, h.ev2, h.ev3, h.l0, h.l1, h.l2, h.l3, h.l4, h.l5, h.l6, h.l7, h.p0, h.p1, h.p2, h.p3, hz, zn0, e3]
  refine c_stepAfter_l h ht (by omega) hri (tR a - 1) 1 (tI a 0) n (by omega) (by omega) (by omega) (by omega) (fun q => ?_)
  rw [show rwo a (stp a x) = 0 by omega]
theorem c_isStep (h : Rep σ s a) (ht : Tb a) (hx : x ≤ 99999) (hn : 1000 < n) : fX5_isStep n (s + 1) (Int32.ofNat x) σ = some (if 0 < x ∧ stp a x = x then 1 else 0) := by
  have h2 := stp_le (a := a) (x := x)
  have e0 : ((0 : Int32) < Int32.ofNat x) = (0 < x) := io_lt (a := 0) (by decide) (by omega)
  simp (disch := omega) only [fX5_isStep, c_stepAt h ht hx hn, zgI, zgR, zaI, zaR, zaC, zck, zb_some, zb2_some, zbx_inl, zbx_inr, zdv, true_or, or_true, true_and, and_true, if_true, ↓reduceIte, h.1.kS, h.1.r0, h.1.r1, h.1.r2, h.1.r3, h.1.r4, h.1.kT, h.1.rT0, h.1.rT1, h.1.kB, h.1.lB, h.1.kC, h.1.lC, h.1.kR, h.1.lR, h.1.kF, h.1.lF, h.1.kO, h.1.lO, h.1.kG, h.1.rG0, h.1.kG0, h.1.lG0, h.1.rG1, h.1.kG1, h.1.lG1, h.1.rG2, h.1.kG2, h.1.lG2, h.1.rG3, h.1.kG3, h.1.lG3, h.1.rL, h.1.kL, h.1.rL0, h.1.kL0, h.1.lL0, h.1.rL1, h.1.kL1, h.1.lL1, h.1.rL2, h.1.kL2, h.1.lL2, h.1.rL3, h.1.kL3, h.1.lL3, e0, io_eq, sX5_isStep_17, sX5_isStep_18]
  by_cases h1 : 0 < x
  · by_cases h3 : stp a x = x <;> simp [h1, h3]
  · simp [h1]
theorem r_stepAbove (h : Rf σ m w) (ht : Tb (zI σ w)) (hn : 1000 < n) (hx : x ≤ 99999) : fX8_stepAbove n m (Int32.ofNat x) σ = some (Int32.ofNat (nxt (zI σ w) x)) := by
  have h1 := ht.1
  have h2 := stp_le (a := zI σ w) (x := x)
  have hri := rwo_in ht (stp (zI σ w) x)
  obtain ⟨e1, e2, e3, e4, e5⟩ := ht.2.1 _ hri.1
  have hr0 := ht.2.1 0 (by omega)
  have e3' : zI σ w 7 = Int32.ofNat (tI (zI σ w) 0) := hr0.2.2.1
  have hz7 : zix (Int32.ofNat (7 + rwo (zI σ w) (stp (zI σ w) x))) 1992 = True := io_zx (by have := hri.1; omega) (by have := hri.1; omega)
  have hr7 := hri.1
  have ez : ∀ y : Nat, y < 2147483648 → (Int32.ofNat y = 0) = (y = 0) := fun y hy => io_eq (b := 0) hy (by decide)
  unfold nxt
  simp (disch := omega) only [fX8_stepAbove, r_stepBelow h ht hn hx, zgI, zgR, zaI, zaR, zaC, zck, zb_some, zb2_some, zbx_inl, zbx_inr, zdv, true_or, or_true, true_and, and_true, if_true, ↓reduceIte, h.kM, h.rW, h.kW, h.lW, zx0, zx7, zx23, zx984, zx991, zn0, zn7, zn23, zn984, zn991, ez, e3', sX8_stepAbove_35]
  by_cases hq : stp (zI σ w) x = 0
  · have e0 : rwo (zI σ w) 0 = 0 := by
      have h5 := rwo_in ht 0
      by_cases e : rwo (zI σ w) 0 = 0
      · exact e
      · have h6 := Tb.mono ht (rwo (zI σ w) 0) 1 (by omega) h5.1
        have h7 := ht.2.2 0 (by have := h5.1; omega)
        have h8 := h5.2.1
        have h9 : tB (zI σ w) (0 + 1) = tB (zI σ w) 1 := rfl
        omega
    rw [if_pos hq, hq, e0, Nat.zero_add]
  · rw [if_neg hq]
    simp (disch := omega) only [r_rowOf h ht hn (by omega) hri, zgI, zgR, zaI, zaR, zaC, zck, zb_some, zb2_some, zbx_inl, zbx_inr, zdv, true_or, or_true, true_and, and_true, if_true, ↓reduceIte, h.kM, h.rW, h.kW, h.lW, iy7, hz7, io_nat, e3, ixl]
theorem r_isStep (h : Rf σ m w) (ht : Tb (zI σ w)) (hn : 1000 < n) (hx : x ≤ 99999) : fX8_isStep n m (Int32.ofNat x) σ = some (if 0 < x ∧ stp (zI σ w) x = x then 1 else 0) := by
  have h2 := stp_le (a := zI σ w) (x := x)
  have e0 : ((0 : Int32) < Int32.ofNat x) = (0 < x) := io_lt (a := 0) (by decide) (by omega)
  simp (disch := omega) only [fX8_isStep, r_stepBelow h ht hn hx, zgI, zgR, zaI, zaR, zaC, zck, zb_some, zb2_some, zbx_inl, zbx_inr, zdv, true_or, or_true, true_and, and_true, if_true, ↓reduceIte, h.kM, h.rW, h.kW, h.lW, e0, io_eq, sX8_isStep_17, sX8_isStep_18]
  by_cases h1 : 0 < x
  · by_cases h3 : stp (zI σ w) x = x <;> simp [h1, h3]
  · simp [h1]
end
