/-! STEPS, THE REFERENCE'S -/
theorem Tb.mono {a : Nat → Int32} (h : Tb a) : ∀ j k, k ≤ j → j < tR a → tB a k ≤ tB a j
  | 0, k, h1, _ => by rw [show k = 0 by omega]; exact Nat.le_refl _
  | j + 1, k, h1, h2 => by
    by_cases e : k = j + 1
    · rw [e]; exact Nat.le_refl _
    · have := Tb.mono h j k (by omega) (by omega)
      have := h.2.2 j h2
      omega
/-- row is the one that an amount t lies in -/
def inRow (a : Nat → Int32) (t row : Nat) : Prop := row < tR a ∧ tB a row ≤ t ∧ (row + 1 < tR a → t < tB a (row + 1))
theorem ceil_ge {d i : Nat} (h : 1 ≤ i) : d ≤ (d + i - 1) / i * i := by
  have h1 := Nat.div_add_mod (d + i - 1) i
  have h2 := Nat.mod_lt (d + i - 1) (show 0 < i by omega)
  rw [Nat.mul_comm] at h1
  omega
section
variable {σ : zW} {m w n x : Nat}
theorem r_rowOf_l (h : Rf σ m w) (ht : Tb (zI σ w)) {t row : Nat} (ht2 : t < 1000000) (hi : inRow (zI σ w) t row) : ∀ (d k r fu : Nat), k + d = tR (zI σ w) → d < fu → 1 ≤ k → (row < k → r = row) → sX8_rowOf_4 n σ fu m (Int32.ofNat t) (Int32.ofNat r) (Int32.ofNat k) = some (Int32.ofNat row) := by
  obtain ⟨i1, i2, i3⟩ := hi
  have hmono := Tb.mono ht
  obtain ⟨⟨h0, h1, h6, hB0⟩, hr, hasc⟩ := ht
  intro d
  induction d with
  | zero =>
    intro k r fu hk hf h1k hrow
    obtain ⟨fu, rfl⟩ : ∃ k', fu = k' + 1 := ⟨fu - 1, by omega⟩
    rw [sX8_rowOf_4]
    simp (disch := omega) only [zgI, zgR, zaI, zaR, zaC, zck, zb_some, zb2_some, zbx_inl, zbx_inr, zdv, true_or, or_true, true_and, and_true, if_true, ↓reduceIte, h.kM, h.rW, h.kW, h.lW, zx0, zx7, zx23, zx984, zx991, zn0, zn7, zn23, zn984, zn991, h0, io_lt, hrow (by omega), show ¬ k < tR (zI σ w) by omega, if_false]
  | succ d ih =>
    intro k r fu hk hf h1k hrow
    obtain ⟨fu, rfl⟩ : ∃ k', fu = k' + 1 := ⟨fu - 1, by omega⟩
    obtain ⟨e1, e2, -, -, -⟩ := hr k (by omega)
    have hz : zix (Int32.ofNat (1 + k)) 1992 = True := io_zx (by omega) (by omega)
    rw [sX8_rowOf_4]
    simp (disch := omega) only [zgI, zgR, zaI, zaR, zaC, zck, zb_some, zb2_some, zbx_inl, zbx_inr, zdv, true_or, or_true, true_and, and_true, if_true, ↓reduceIte, h.kM, h.rW, h.kW, h.lW, zx0, zx7, zx23, zx984, zx991, zn0, zn7, zn23, zn984, zn991, h0, io_lt, iy1, hz, io_nat, e1, show k < tR (zI σ w) by omega, sX8_rowOf_31, io_succ]
    by_cases hq : t < tB (zI σ w) k
    · simp only [if_pos hq]
      refine ih (k + 1) r fu (by omega) (by omega) (by omega) (fun hlt => ?_)
      by_cases hk2 : row < k
      · exact hrow hk2
      · have := hmono row k (by omega) i1
        omega
    · simp only [if_neg hq]
      refine ih (k + 1) k fu (by omega) (by omega) (by omega) (fun hlt => ?_)
      by_cases hk2 : row = k
      · exact hk2.symm
      · have h5 := i3 (by omega)
        have h6 := hmono k (row + 1) (by omega) (by omega)
        omega
theorem r_rowOf (h : Rf σ m w) (ht : Tb (zI σ w)) (hn : 1000 < n) {t row : Nat} (ht2 : t < 1000000) (hi : inRow (zI σ w) t row) : fX8_rowOf n m (Int32.ofNat t) σ = some (Int32.ofNat row) := by
  have h1 := ht.1
  exact r_rowOf_l h ht ht2 hi (tR (zI σ w) - 1) 1 0 n (by omega) (by omega) (by omega) (by omega)
theorem r_stepBelow_l (h : Rf σ m w) (ht : Tb (zI σ w)) (hn : 1000 < n) (hx : x ≤ 99999) : ∀ (f row t k : Nat), row + f = tR (zI σ w) → 1 ≤ f → tB (zI σ w) row ≤ t → t ≤ x → f < k → sX8_stepBelow_15 n σ k m (Int32.ofNat x) (Int32.ofNat t) = some (Int32.ofNat (stN (tB (zI σ w)) (tI (zI σ w)) (tR (zI σ w)) x f row t)) := by
  have htb := ht
  obtain ⟨⟨h0, h1, h6, hB0⟩, hr, hasc⟩ := ht
  intro f
  induction f with
  | zero => intro row t k _ hf; omega
  | succ f ih =>
    intro row t k hrow _ hB htx hk
    obtain ⟨e1, e2, e3, e4, e5⟩ := hr row (by omega)
    have hz7 : zix (Int32.ofNat (7 + row)) 1992 = True := io_zx (by omega) (by omega)
    have d1 := Nat.div_le_self (x - t) (tI (zI σ w) row)
    have d2 := Nat.div_mul_le_self (x - t) (tI (zI σ w) row)
    rw [stN]
    by_cases hl : row + 1 = tR (zI σ w)
    · obtain ⟨k, rfl⟩ : ∃ k', k = k' + 1 := ⟨k - 1, by omega⟩
      have hro := r_rowOf h htb hn (t := t) (row := row) (by omega) ⟨by omega, hB, fun q => by omega⟩
      have hc := ceil_ge (d := 300000 - t) (i := tI (zI σ w) row) e4
      have hd := Nat.div_mul_le_self (300000 - t + tI (zI σ w) row - 1) (tI (zI σ w) row)
      have hd2 := Nat.div_le_self (300000 - t + tI (zI σ w) row - 1) (tI (zI σ w) row)
      rw [sX8_stepBelow_15, if_pos hl, show (300000 : Int32) = Int32.ofNat 300000 from rfl]
      simp (disch := omega) only [zgI, zgR, zaI, zaR, zaC, zck, zb_some, zb2_some, zbx_inl, zbx_inr, zdv, true_or, or_true, true_and, and_true, if_true, ↓reduceIte, h.kM, h.rW, h.kW, h.lW, zx0, zx7, zx23, zx984, zx991, zn0, zn7, zn23, zn984, zn991, hro, iy7, hz7, io_nat, e3, h0, io_succ, io_lt, hl, Nat.lt_irrefl, if_false, sX8_stepBelow_59, io_ne0, io_sub, ixl, io_one, io_div, ixm]
      rw [if_pos (by omega)]
    · rw [if_neg hl]
      obtain ⟨b1, b2, -, -, -⟩ := hr (row + 1) (by omega)
      by_cases hs : tB (zI σ w) (row + 1) ≤ t
      · have e0 : (tB (zI σ w) (row + 1) - t + tI (zI σ w) row - 1) / tI (zI σ w) row = 0 := Nat.div_eq_of_lt (by omega)
        rw [e0, if_neg (Nat.not_lt_zero _), Nat.zero_mul, Nat.add_zero]
        exact ih (row + 1) t k (by omega) (by omega) hs htx (by omega)
      · obtain ⟨k, rfl⟩ : ∃ k', k = k' + 1 := ⟨k - 1, by omega⟩
        have hro := r_rowOf h htb hn (t := t) (row := row) (by omega) ⟨by omega, hB, fun q => by omega⟩
        have hc := ceil_ge (d := tB (zI σ w) (row + 1) - t) (i := tI (zI σ w) row) e4
        have hd := Nat.div_mul_le_self (tB (zI σ w) (row + 1) - t + tI (zI σ w) row - 1) (tI (zI σ w) row)
        have hd2 := Nat.div_le_self (tB (zI σ w) (row + 1) - t + tI (zI σ w) row - 1) (tI (zI σ w) row)
        have hz1 : zix (Int32.ofNat (1 + row + 1)) 1992 = True := io_zx (by omega) (by omega)
        have b1' : zI σ w (1 + row + 1) = Int32.ofNat (tB (zI σ w) (row + 1)) := by rw [← b1]; congr 1
        rw [sX8_stepBelow_15]
        simp (disch := omega) only [zgI, zgR, zaI, zaR, zaC, zck, zb_some, zb2_some, zbx_inl, zbx_inr, zdv, true_or, or_true, true_and, and_true, if_true, ↓reduceIte, h.kM, h.rW, h.kW, h.lW, zx0, zx7, zx23, zx984, zx991, zn0, zn7, zn23, zn984, zn991, hro, iy7, iy1, hz7, hz1, io_nat, e3, b1', h0, io_succ, io_lt, show row + 1 < tR (zI σ w) by omega, sX8_stepBelow_59, io_ne0, io_sub, ixl, io_one, io_div, ixm]
        have hiff : (x < t + (tB (zI σ w) (row + 1) - t + tI (zI σ w) row - 1) / tI (zI σ w) row * tI (zI σ w) row) ↔ ((x - t) / tI (zI σ w) row < (tB (zI σ w) (row + 1) - t + tI (zI σ w) row - 1) / tI (zI σ w) row) := by
          rw [Nat.div_lt_iff_lt_mul (by omega)]
          omega
        by_cases hq : (x - t) / tI (zI σ w) row < (tB (zI σ w) (row + 1) - t + tI (zI σ w) row - 1) / tI (zI σ w) row
        · rw [if_pos (hiff.mpr hq), if_pos hq]
        · rw [if_neg (fun q => hq (hiff.mp q)), if_neg hq]
          have h4 := Nat.mul_le_mul_right (tI (zI σ w) row) (Nat.not_lt.mp hq)
          exact ih (row + 1) _ k (by omega) (by omega) (by omega) (by omega) (by omega)
theorem stN_first {a : Nat → Int32} (ht : Tb a) (hx : tI a 0 ≤ x) : stN (tB a) (tI a) (tR a) x (tR a) 0 (tI a 0) = stp a x := by
  unfold stp
  obtain ⟨⟨h0, h1, h6, hB0⟩, hr, hasc⟩ := ht
  obtain ⟨e1, e2, e3, e4, e5⟩ := hr 0 (by omega)
  obtain ⟨f, hf⟩ : ∃ f, tR a = f + 1 := ⟨tR a - 1, by omega⟩
  have hdv : x / tI a 0 = (x - tI a 0) / tI a 0 + 1 := Nat.div_eq_sub_div (by omega) hx
  have hm1 : ∀ y : Nat, (y + 1) * tI a 0 = tI a 0 + y * tI a 0 := fun y => by rw [Nat.succ_mul, Nat.add_comm]
  rw [show stN (tB a) (tI a) (tR a) x (tR a) 0 (tI a 0) = stN (tB a) (tI a) (tR a) x (f + 1) 0 (tI a 0) by rw [hf], show stN (tB a) (tI a) (tR a) x (tR a) 0 0 = stN (tB a) (tI a) (tR a) x (f + 1) 0 0 by rw [hf], stN, stN]
  by_cases hR : 0 + 1 = tR a
  · rw [if_pos hR, if_pos hR, Nat.sub_zero, hdv, hm1]
    omega
  · rw [if_neg hR, if_neg hR, Nat.sub_zero, Nat.sub_zero, Nat.zero_add, Nat.zero_add, Nat.zero_add]
    have hB1 := hasc 0 (by omega)
    rw [hB0] at hB1
    have hB1 : 0 < tB a 1 := hB1
    have hd2 : (tB a 1 + tI a 0 - 1) / tI a 0 = (tB a 1 - 1) / tI a 0 + 1 := by
      rw [show tB a 1 + tI a 0 - 1 = (tB a 1 - 1) + tI a 0 by omega]
      exact Nat.add_div_right _ (by omega)
    by_cases hq : tB a 1 ≤ tI a 0
    · have z0 : (tB a 1 - tI a 0 + tI a 0 - 1) / tI a 0 = 0 := Nat.div_eq_of_lt (by omega)
      have z1 : (tB a 1 - 1) / tI a 0 = 0 := Nat.div_eq_of_lt (by omega)
      rw [hd2, z1, z0, hdv]
      generalize (x - tI a 0) / tI a 0 = q
      rw [if_neg (by omega), if_neg (by omega)]
      simp
    · have z0 : tB a 1 - tI a 0 + tI a 0 - 1 = tB a 1 - 1 := by omega
      rw [z0, hd2, hdv]
      generalize (x - tI a 0) / tI a 0 = q
      generalize (tB a 1 - 1) / tI a 0 = q2
      by_cases hc : q < q2
      · rw [if_pos hc, if_pos (by omega), hm1]
      · rw [if_neg hc, if_neg (by omega), hm1]
theorem stp_small {a : Nat → Int32} (ht : Tb a) (hx : x < tI a 0) : stp a x = 0 := by
  unfold stp
  obtain ⟨⟨h0, h1, h6, hB0⟩, hr, hasc⟩ := ht
  obtain ⟨f, hf⟩ : ∃ f, tR a = f + 1 := ⟨tR a - 1, by omega⟩
  obtain ⟨e1, e2, e3, e4, e5⟩ := hr 0 (by omega)
  have z : x / tI a 0 = 0 := Nat.div_eq_of_lt hx
  rw [show stN (tB a) (tI a) (tR a) x (tR a) 0 0 = stN (tB a) (tI a) (tR a) x (f + 1) 0 0 by rw [hf], stN, Nat.sub_zero, z]
  by_cases hR : 0 + 1 = tR a
  · rw [if_pos hR]; simp
  · have hB1 := hasc 0 (by omega)
    rw [hB0] at hB1
    have hB1 : 0 < tB a 1 := hB1
    rw [if_neg hR, if_pos]
    · simp
    · show 0 < (tB a 1 - 0 + tI a 0 - 1) / tI a 0
      exact Nat.div_pos (by omega) (by omega)
theorem r_stepBelow (h : Rf σ m w) (ht : Tb (zI σ w)) (hn : 1000 < n) (hx : x ≤ 99999) : fX8_stepBelow n m (Int32.ofNat x) σ = some (Int32.ofNat (stp (zI σ w) x)) := by
  have htb := ht
  obtain ⟨⟨h0, h1, h6, hB0⟩, hr, hasc⟩ := ht
  obtain ⟨e1, e2, e3, e4, e5⟩ := hr 0 (by omega)
  have e3' : zI σ w 7 = Int32.ofNat (tI (zI σ w) 0) := e3
  simp (disch := omega) only [fX8_stepBelow, zgI, zgR, zaI, zaR, zaC, zck, zb_some, zb2_some, zbx_inl, zbx_inr, zdv, true_or, or_true, true_and, and_true, if_true, ↓reduceIte, h.kM, h.rW, h.kW, h.lW, zx0, zx7, zx23, zx984, zx991, zn0, zn7, zn23, zn984, zn991, e3', io_lt]
  by_cases hq : x < tI (zI σ w) 0
  · rw [if_pos hq, stp_small htb hq]
    rfl
  · rw [if_neg hq, ← stN_first htb (Nat.not_lt.mp hq)]
    exact r_stepBelow_l h htb hn hx (tR (zI σ w)) 0 (tI (zI σ w) 0) n (by omega) (by omega) (by omega) (by omega) (by omega)
end
