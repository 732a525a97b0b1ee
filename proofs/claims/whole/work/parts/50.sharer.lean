/-! THE REFERENCE'S SHARE -/
theorem r_share {σ : zW} {n x p q : Nat} (hx : x ≤ 90000) (hp : p ≤ 20) (h1 : 1 ≤ q) (h2 : q ≤ 20) : fX8_share n (Int32.ofNat x) (Int32.ofNat p) (Int32.ofNat q) σ = some (Int32.ofNat (x * p / q)) := by
  have c : ∀ y : Nat, y ≤ 2147483647 → (Int32.ofNat y).toInt64 = Int64.ofNat y := fun y hy => Int32.toInt64_ofNat' (by rw [Int32.toInt_maxValue]; omega)
  have hb : x * p ≤ 90000 * 20 := Nat.mul_le_mul hx hp
  have hq : ¬ Int64.ofNat q = 0 := by
    intro z
    have h := congrArg Int64.toInt z
    rw [Int64.toInt_ofNat_of_lt (by omega)] at h
    have h0 : (0 : Int64).toInt = 0 := rfl
    omega
  unfold fX8_share zdl
  rw [c x (by omega), c p (by omega), c q (by omega), if_neg hq, ← Int64.ofNat_mul, ← Int64.ofNat_div (by omega) (by omega), Int64.toInt32_ofNat']
