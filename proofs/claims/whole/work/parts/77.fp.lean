/-! SHARES AS DOUBLES -/
theorem fp_all : (List.range 251).all (fun v => (List.range (v + 1)).all (fun u => v == 0 || decide ((FP.ddiv (FP.i2d (Int32.ofNat u)) (FP.i2d (Int32.ofNat v))) &&& 0x7fffffffffffffff ≤ 0x7ff0000000000000))) = true := by decide +kernel
theorem dcmp_self (d : UInt64) : FP.dcmp d d = none ∨ FP.dcmp d d = some .eq := by
  show FP.Core.order (FP.Core.decode FP.Core.b64 d.toNat) (FP.Core.decode FP.Core.b64 d.toNat) = none ∨ FP.Core.order (FP.Core.decode FP.Core.b64 d.toNat) (FP.Core.decode FP.Core.b64 d.toNat) = some .eq
  have hc : ∀ x : Int, compare x x = .eq := fun x => by simp [compare, compareOfLessAndEq]
  cases FP.Core.decode FP.Core.b64 d.toNat with
  | nan => exact Or.inl rfl
  | inf s => exact Or.inr (congrArg some (hc _))
  | fin s c q => exact Or.inr (congrArg some (hc _))
theorem grt (p s cm f : Int32) : p + s - (s - cm - f) = p + cm + f := by grind
theorem grt2 (a b c d e f : Int32) : (a + d) - (b + e) - (c + f) = (a - b - c) + (d - e - f) := by grind
