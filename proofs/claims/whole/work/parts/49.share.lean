/-! SHARES AND QUANTITIES OF PARTS -/
def qQ (a : Nat → Int32) (i : Nat) : Nat := (a (24 + 8 * i + 1)).toNatClampNeg
section
variable {σ : zW} {s n i : Nat} {a : Nat → Int32}
theorem io_mod {x y : Nat} (hx : x < 1000000) (hy : y < 1000) (h0 : 0 < y) : Int32.ofNat x - Int32.ofNat x / Int32.ofNat y * Int32.ofNat y = Int32.ofNat (x % y) := by
  have h1 := Nat.div_mul_le_self x y
  rw [io_div (by omega) (by omega), ixm, io_sub h1]
  congr 1
  have := Nat.div_add_mod x y
  rw [Nat.mul_comm] at this
  omega
theorem c_share (h : Rep σ s a) (hm : mk a ≤ 20) (hi : i < mk a) (hq : a (24 + 8 * i + 1) = Int32.ofNat (qQ a i)) (h1 : 1 ≤ qQ a i) (h2 : qQ a i ≤ 20) {x p : Nat} (hx : x ≤ 90000) (hp : p ≤ 20) : fX2_share n (lo s i) (Int32.ofNat x) (Int32.ofNat p) σ = some (Int32.ofNat (x * p / qQ a i)) := by
  have hv : i < (a 23).toNatClampNeg := hi
  have e := (h.l1 (show i < 20 by omega) hv).trans hq
  have hpos : ((0 : Int32) < Int32.ofNat (qQ a i)) = (0 < qQ a i) := io_pos (by omega)
  have hb : x * p ≤ 90000 * 20 := Nat.mul_le_mul hx hp
  unfold fX2_share
  refine (zgI_e (h.1.kL (show i < 20 by omega)) e).trans ?_
  refine Eq.trans (if_pos (hpos.symm ▸ (show 0 < qQ a i by omega))) ?_
  refine (zgI_e (h.1.kL (show i < 20 by omega)) e).trans ?_
  unfold zdv
  rw [if_neg (fun z => by rw [io_z (by omega)] at z; omega)]
  unfold sX2_share_19
  rw [ixm, io_div (by omega) (by omega)]
def qpt (q parts part : Nat) : Nat := q / parts + (if part < q % parts then 1 else 0)
theorem c_quantityOfPart (h : Rep σ s a) (hm : mk a ≤ 20) (hi : i < mk a) (hq : a (24 + 8 * i + 1) = Int32.ofNat (qQ a i)) (h2 : qQ a i ≤ 20) {x p : Nat} (hx : x ≤ 90000) (hp0 : 1 ≤ p) (hp : p ≤ 20) : fX2_quantityOfPart n (lo s i) (Int32.ofNat x) (Int32.ofNat p) σ = some (Int32.ofNat (qpt (qQ a i) p x)) := by
  have hv : i < (a 23).toNatClampNeg := hi
  have e := (h.l1 (show i < 20 by omega) hv).trans hq
  have hpos : ((0 : Int32) < Int32.ofNat p) = (0 < p) := io_pos (by omega)
  have hm2 := Nat.mod_lt (qQ a i) (show 0 < p by omega)
  unfold fX2_quantityOfPart
  refine Eq.trans (if_pos (hpos.symm ▸ (show 0 < p by omega))) ?_
  refine (zgI_e (h.1.kL (show i < 20 by omega)) e).trans ?_
  unfold zdv
  rw [if_neg (fun z => by rw [io_z (by omega)] at z; omega)]
  refine (zgI_e (h.1.kL (show i < 20 by omega)) e).trans ?_
  show (if Int32.ofNat p = 0 then none else _) = _
  rw [if_neg (fun z => by rw [io_z (by omega)] at z; omega), io_mod (by omega) (by omega) (by omega), io_div (by omega) (by omega)]
  have hl : (Int32.ofNat x < Int32.ofNat (qQ a i % p)) = (x < qQ a i % p) := io_lt (by omega) (by omega)
  unfold sX2_quantityOfPart_27 qpt
  by_cases q : x < qQ a i % p
  · rw [if_pos (hl.symm ▸ q), if_pos q]
    exact congrArg some (ixl (i := 1))
  · rw [if_neg (fun z => q (hl ▸ z)), if_neg q]
    exact congrArg some (ixl (i := 0))
theorem r_quantityOf {q x p : Nat} (hq : q ≤ 20) (hx : x ≤ 90000) (hp0 : 1 ≤ p) (hp : p ≤ 20) : fX8_quantityOf n (Int32.ofNat q) (Int32.ofNat p) (Int32.ofNat x) σ = some (Int32.ofNat (qpt q p x)) := by
  have hm2 := Nat.mod_lt q (show 0 < p by omega)
  unfold fX8_quantityOf zdv
  rw [if_neg (fun z => by rw [io_z (by omega)] at z; omega), if_neg (fun z => by rw [io_z (by omega)] at z; omega), io_mod (by omega) (by omega) (by omega), io_div (by omega) (by omega)]
  have hl : (Int32.ofNat x < Int32.ofNat (q % p)) = (x < q % p) := io_lt (by omega) (by omega)
  unfold sX8_quantityOf_15 qpt
  by_cases g : x < q % p
  · rw [if_pos (hl.symm ▸ g), if_pos g]
    exact congrArg some (ixl (i := 1))
  · rw [if_neg (fun z => g (hl ▸ z)), if_neg g]
    exact congrArg some (ixl (i := 0))
end
