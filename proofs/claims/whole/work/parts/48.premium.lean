/-! THE TWO WAYS TO A PREMIUM -/
theorem prr_prm {x : Nat} (hx : x ≤ 1000000) : prr (Int32.ofNat x) = prm (Int32.ofNat x) := by
  have a1 : (if (1000 : Int32) < Int32.ofNat x then 1000 else Int32.ofNat x) = Int32.ofNat (min 1000 x) := mni (x := 1000) (by decide) (by omega)
  have a5 : (if (5000 : Int32) < Int32.ofNat x then 5000 else Int32.ofNat x) = Int32.ofNat (min 5000 x) := mni (x := 5000) (by decide) (by omega)
  have m1 : (if (0 : Int32) < Int32.ofNat (min 5000 x) - 1000 then Int32.ofNat (min 5000 x) - 1000 else 0) = Int32.ofNat (min 5000 x - 1000) := mx0 (y := 1000) (by omega) (by decide)
  have m5 : (if (0 : Int32) < Int32.ofNat x - 5000 then Int32.ofNat x - 5000 else 0) = Int32.ofNat (x - 5000) := mx0 (y := 5000) (by omega) (by decide)
  have s1 : Int32.ofNat (min 5000 x) - Int32.ofNat (min 1000 x) = Int32.ofNat (min 5000 x - min 1000 x) := io_sub (by omega)
  have s2 : Int32.ofNat x - Int32.ofNat (min 5000 x - min 1000 x) = Int32.ofNat (x - (min 5000 x - min 1000 x)) := io_sub (by omega)
  have s3 : Int32.ofNat (x - (min 5000 x - min 1000 x)) - Int32.ofNat (min 1000 x) = Int32.ofNat (x - (min 5000 x - min 1000 x) - min 1000 x) := io_sub (by omega)
  unfold prr prm
  rw [a1, a5, m1, m5, s1, s2, s3, show min 5000 x - 1000 = min 5000 x - min 1000 x by omega, show x - 5000 = x - (min 5000 x - min 1000 x) - min 1000 x by omega]
