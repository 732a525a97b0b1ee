/-! THE REFERENCE READ: the same over its row of numbers -/
/-- m is the reference, w its row of numbers -/
def Rf (σ : zW) (m w : Nat) : Prop := zK σ m = 9 ∧ zR σ m 1 = w ∧ zK σ w = 20 ∧ zL σ w = 1992
theorem Rf.kM {σ : zW} {m w : Nat} (h : Rf σ m w) : zK σ m = 9 := h.1
theorem Rf.rW {σ : zW} {m w : Nat} (h : Rf σ m w) : zR σ m 1 = w := h.2.1
theorem Rf.kW {σ : zW} {m w : Nat} (h : Rf σ m w) : zK σ w = 20 := h.2.2.1
theorem Rf.lW {σ : zW} {m w : Nat} (h : Rf σ m w) : zL σ w = 1992 := h.2.2.2
theorem ixl {c i : Nat} : Int32.ofNat c + Int32.ofNat i = Int32.ofNat (c + i) := (Int32.ofNat_add c i).symm
theorem ixm {c i : Nat} : Int32.ofNat c * Int32.ofNat i = Int32.ofNat (c * i) := (Int32.ofNat_mul c i).symm
theorem ix8 {i : Nat} {x : Int32} : 24 + 8 * Int32.ofNat i + x = Int32.ofNat (24 + 8 * i) + x := by rw [← ixl, ← ixm]; rfl

theorem ix184 {i : Nat} {x : Int32} : 184 + 10 * Int32.ofNat i + x = Int32.ofNat (184 + 10 * i) + x := by rw [← ixl, ← ixm]; rfl
theorem iy184 {i : Nat} : 184 + Int32.ofNat i = Int32.ofNat (184 + i) := ixl (c := 184)
theorem ix384 {i : Nat} {x : Int32} : 384 + 10 * Int32.ofNat i + x = Int32.ofNat (384 + 10 * i) + x := by rw [← ixl, ← ixm]; rfl
theorem iy384 {i : Nat} : 384 + Int32.ofNat i = Int32.ofNat (384 + i) := ixl (c := 384)
theorem ix584 {i : Nat} {x : Int32} : 584 + 10 * Int32.ofNat i + x = Int32.ofNat (584 + 10 * i) + x := by rw [← ixl, ← ixm]; rfl
theorem iy584 {i : Nat} : 584 + Int32.ofNat i = Int32.ofNat (584 + i) := ixl (c := 584)
theorem ix784 {i : Nat} {x : Int32} : 784 + 10 * Int32.ofNat i + x = Int32.ofNat (784 + 10 * i) + x := by rw [← ixl, ← ixm]; rfl
theorem iy784 {i : Nat} : 784 + Int32.ofNat i = Int32.ofNat (784 + i) := ixl (c := 784)
theorem iy1 {i : Nat} : 1 + Int32.ofNat i = Int32.ofNat (1 + i) := ixl (c := 1)
theorem iy7 {i : Nat} : 7 + Int32.ofNat i = Int32.ofNat (7 + i) := ixl (c := 7)
theorem iy13 {i : Nat} : 13 + Int32.ofNat i = Int32.ofNat (13 + i) := ixl (c := 13)
theorem iy985 {i : Nat} : 985 + Int32.ofNat i = Int32.ofNat (985 + i) := ixl (c := 985)
theorem ix10 {i : Nat} : 10 * Int32.ofNat i = Int32.ofNat (10 * i) := ixm (c := 10)
theorem ixe {i : Nat} : 992 + 4 * Int32.ofNat i = Int32.ofNat (992 + 4 * i) := by rw [← ixl, ← ixm]; rfl
theorem iz0 {i : Nat} : Int32.ofNat i + 0 = Int32.ofNat (i + 0) := ixl (i := 0)
theorem iz1 {i : Nat} : Int32.ofNat i + 1 = Int32.ofNat (i + 1) := ixl (i := 1)
theorem iz2 {i : Nat} : Int32.ofNat i + 2 = Int32.ofNat (i + 2) := ixl (i := 2)
theorem iz3 {i : Nat} : Int32.ofNat i + 3 = Int32.ofNat (i + 3) := ixl (i := 3)
theorem iz4 {i : Nat} : Int32.ofNat i + 4 = Int32.ofNat (i + 4) := ixl (i := 4)
theorem iz5 {i : Nat} : Int32.ofNat i + 5 = Int32.ofNat (i + 5) := ixl (i := 5)
theorem iz6 {i : Nat} : Int32.ofNat i + 6 = Int32.ofNat (i + 6) := ixl (i := 6)
theorem iz7 {i : Nat} : Int32.ofNat i + 7 = Int32.ofNat (i + 7) := ixl (i := 7)
def prr (p : Int32) : Int32 := ((if 1000 < p then 1000 else p) * 25) / 100 + ((if 0 < (if 5000 < p then 5000 else p) - 1000 then (if 5000 < p then 5000 else p) - 1000 else 0) * 20) / 100 + ((if 0 < p - 5000 then p - 5000 else 0) * 12) / 100
section
variable {σ : zW} {m w i n : Nat}
theorem r_premiumOf {p : Int32} : fX8_premiumOf n p σ = some (prr p) := by
  simp only [fX8_premiumOf, zdv]
  rfl
theorem r_commissionOf {p : Int32} : fX8_commissionOf n p σ = some (cms p) := by
  simp only [fX8_commissionOf, zdv]
  rfl
theorem r_isIn {v l u : Int32} : fX8_isIn n v l u σ = some (if l ≤ v ∧ v ≤ u then 1 else 0) := by
  simp only [fX8_isIn, sX8_isIn_14, sX8_isIn_15]
  by_cases h1 : v < l
  · have : ¬ l ≤ v := Int32.not_le.mpr h1
    simp [h1, this]
  · have h2 : l ≤ v := Int32.not_lt.mp h1
    by_cases h3 : u < v
    · have : ¬ v ≤ u := Int32.not_le.mpr h3
      simp [h1, h2, h3, this]
    · have : v ≤ u := Int32.not_lt.mp h3
      simp [h1, h2, h3, this]
theorem r_isBidder {v : Int32} : fX8_isBidder n v σ = some (if 0 ≤ v ∧ v ≤ 9 then 1 else 0) := by
  simp only [fX8_isBidder, r_isIn, zb_some]
  split <;> simp
theorem r_isLot (h : Rf σ m w) {v : Int32} : fX8_isLot n m v σ = some (if 0 ≤ v ∧ v ≤ zI σ w 23 - 1 then 1 else 0) := by
  have hz : zix 23 1992 = True := io_zx (i := 23) (by decide) (by decide)
  have e : Int32.toNatClampNeg 23 = 23 := rfl
  simp only [fX8_isLot, zgI, zgR, zaI, zaR, zaC, zck, zb_some, zb2_some, zbx_inl, zbx_inr, zdv, true_or, or_true, true_and, and_true, if_true, ↓reduceIte, h.kM, h.rW, h.kW, h.lW, hz, e, r_isIn]
  split <;> simp
theorem r_at (h : Rf σ m w) {p : Nat} (hi : i < 20) (hp : p < 8) : fX8_at n m (Int32.ofNat i) (Int32.ofNat p) σ = some (zI σ w (24 + 8 * i + p)) := by
  simp (disch := omega) only [fX8_at, zgI, zgR, zaI, zaR, zaC, zck, zb_some, zb2_some, zbx_inl, zbx_inr, zdv, true_or, or_true, true_and, and_true, if_true, ↓reduceIte, h.kM, h.rW, h.kW, h.lW, ix8, ixl, io_zx, io_nat, io_succ, io_lt]
theorem r_orderOf (h : Rf σ m w) {b : Nat} (hi : i < 20) (hb : b < 10) : fX8_orderOf n m (Int32.ofNat i) (Int32.ofNat b) σ = some (zI σ w (184 + 10 * i + b)) := by
  simp (disch := omega) only [fX8_orderOf, zgI, zgR, zaI, zaR, zaC, zck, zb_some, zb2_some, zbx_inl, zbx_inr, zdv, true_or, or_true, true_and, and_true, if_true, ↓reduceIte, h.kM, h.rW, h.kW, h.lW, ix184, ixl, io_zx, io_nat, io_succ, io_lt]
theorem r_at0 (h : Rf σ m w) (hi : i < 20) : fX8_at n m (Int32.ofNat i) 0 σ = some (zI σ w (24 + 8 * i + 0)) := r_at h (p := 0) hi (by decide)
theorem r_at1 (h : Rf σ m w) (hi : i < 20) : fX8_at n m (Int32.ofNat i) 1 σ = some (zI σ w (24 + 8 * i + 1)) := r_at h (p := 1) hi (by decide)
theorem r_at2 (h : Rf σ m w) (hi : i < 20) : fX8_at n m (Int32.ofNat i) 2 σ = some (zI σ w (24 + 8 * i + 2)) := r_at h (p := 2) hi (by decide)
theorem r_at3 (h : Rf σ m w) (hi : i < 20) : fX8_at n m (Int32.ofNat i) 3 σ = some (zI σ w (24 + 8 * i + 3)) := r_at h (p := 3) hi (by decide)
theorem r_at4 (h : Rf σ m w) (hi : i < 20) : fX8_at n m (Int32.ofNat i) 4 σ = some (zI σ w (24 + 8 * i + 4)) := r_at h (p := 4) hi (by decide)
theorem r_at5 (h : Rf σ m w) (hi : i < 20) : fX8_at n m (Int32.ofNat i) 5 σ = some (zI σ w (24 + 8 * i + 5)) := r_at h (p := 5) hi (by decide)
theorem r_at6 (h : Rf σ m w) (hi : i < 20) : fX8_at n m (Int32.ofNat i) 6 σ = some (zI σ w (24 + 8 * i + 6)) := r_at h (p := 6) hi (by decide)
theorem r_at7 (h : Rf σ m w) (hi : i < 20) : fX8_at n m (Int32.ofNat i) 7 σ = some (zI σ w (24 + 8 * i + 7)) := r_at h (p := 7) hi (by decide)
theorem zx (c : Int32) (j L : Nat) (hj : j < L) (hc : c = Int32.ofNat j) (h2 : j < 2147483648) : zix c L = True := by
  rw [hc]
  exact io_zx hj h2
theorem zx0 : zix 0 1992 = True := zx _ 0 _ (by decide) rfl (by decide)
theorem zx7 : zix 7 1992 = True := zx _ 7 _ (by decide) rfl (by decide)
theorem zx23 : zix 23 1992 = True := zx _ 23 _ (by decide) rfl (by decide)
theorem zx984 : zix 984 1992 = True := zx _ 984 _ (by decide) rfl (by decide)
theorem zx991 : zix 991 1992 = True := zx _ 991 _ (by decide) rfl (by decide)
theorem zn0 : Int32.toNatClampNeg 0 = 0 := rfl
theorem zn7 : Int32.toNatClampNeg 7 = 7 := rfl
theorem zn23 : Int32.toNatClampNeg 23 = 23 := rfl
theorem zn984 : Int32.toNatClampNeg 984 = 984 := rfl
theorem zn991 : Int32.toNatClampNeg 991 = 991 := rfl
theorem r_ordersOf (h : Rf σ m w) (hn : 1000 < n) (hi : i < 20) : fX8_ordersOf n m (Int32.ofNat i) σ = some (oc (zI σ w) i) := by
  unfold fX8_ordersOf
  refine zsm_loop (s := fun k acc b => sX8_ordersOf_4 n σ k m (Int32.ofNat i) acc b) (N := 10) (e := some) (by omega) ?_ ?_
  · intro k acc b hb
    show sX8_ordersOf_4 n σ (k + 1) m (Int32.ofNat i) acc (Int32.ofNat b) = _
    rw [sX8_ordersOf_4, show (10 : Int32) = Int32.ofNat 10 from rfl]
    simp (disch := omega) only [zgI, zgR, zaI, zaR, zaC, zck, zb_some, zb2_some, zbx_inl, zbx_inr, zdv, true_or, or_true, true_and, and_true, if_true, ↓reduceIte, h.kM, h.rW, h.kW, h.lW, io_zx, io_nat, io_succ, io_lt, hb, sX8_ordersOf_25, r_orderOf h]
    split <;> rfl
  · intro k acc
    show sX8_ordersOf_4 n σ (k + 1) m (Int32.ofNat i) acc (Int32.ofNat 10) = _
    rw [sX8_ordersOf_4]
    rfl

theorem r_allOrders (h : Rf σ m w) (hc : Cn (zI σ w)) (hn : 1000 < n) : fX8_allOrders n m σ = some (zsm (mk (zI σ w)) (fun i => oc (zI σ w) i)) := by
  obtain ⟨h23, hm, h991, hkp⟩ := hc
  unfold fX8_allOrders
  refine zsm_loop (s := fun k acc i => sX8_allOrders_4 n σ k m acc i) (N := (mk (zI σ w))) (e := some) (by omega) ?_ ?_
  · intro k acc i hi
    show sX8_allOrders_4 n σ (k + 1) m acc (Int32.ofNat i) = _
    rw [sX8_allOrders_4]
    simp (disch := omega) only [zgI, zgR, zaI, zaR, zaC, zck, zb_some, zb2_some, zbx_inl, zbx_inr, zdv, true_or, or_true, true_and, and_true, if_true, ↓reduceIte, h.kM, h.rW, h.kW, h.lW, zx0, zx7, zx23, zx984, zx991, zn0, zn7, zn23, zn984, zn991, h23, io_zx, io_nat, io_succ, io_lt, hi, r_ordersOf h hn]
    try ((repeat' split) <;> simp_all)
  · intro k acc
    show sX8_allOrders_4 n σ (k + 1) m acc (Int32.ofNat (mk (zI σ w))) = _
    rw [sX8_allOrders_4]
    simp (disch := omega) only [zgI, zgR, zaI, zaR, zaC, zck, zb_some, zb2_some, zbx_inl, zbx_inr, zdv, true_or, or_true, true_and, and_true, if_true, ↓reduceIte, h.kM, h.rW, h.kW, h.lW, zx0, zx7, zx23, zx984, zx991, zn0, zn7, zn23, zn984, zn991, h23, io_zx, io_nat, io_succ, io_lt, Nat.lt_irrefl, if_false]

theorem r_boughtBy (h : Rf σ m w) (hc : Cn (zI σ w)) (hn : 1000 < n) (b t : Int32) : fX8_boughtBy n m b t σ = some (zsm (mk (zI σ w)) (fun i => if zI σ w (24 + 8 * i + 3) = 2 ∧ zI σ w (24 + 8 * i + 6) = b then (if t = 0 then 1 else if t = 1 then zI σ w (24 + 8 * i + 7) else prr (zI σ w (24 + 8 * i + 7))) else 0)) := by
  obtain ⟨h23, hm, h991, hkp⟩ := hc
  unfold fX8_boughtBy
  refine zsm_loop (s := fun k acc i => sX8_boughtBy_5 n σ k m b t acc i) (N := (mk (zI σ w))) (e := some) (by omega) ?_ ?_
  · intro k acc i hi
    show sX8_boughtBy_5 n σ (k + 1) m b t acc (Int32.ofNat i) = _
    rw [sX8_boughtBy_5]
    simp (disch := omega) only [zgI, zgR, zaI, zaR, zaC, zck, zb_some, zb2_some, zbx_inl, zbx_inr, zdv, true_or, or_true, true_and, and_true, if_true, ↓reduceIte, h.kM, h.rW, h.kW, h.lW, zx0, zx7, zx23, zx984, zx991, zn0, zn7, zn23, zn984, zn991, h23, io_zx, io_nat, io_succ, io_lt, hi, r_at3 h, r_at6 h, r_at7 h, r_premiumOf, sX8_boughtBy_92, sX8_boughtBy_45, sX8_boughtBy_44]
    try ((repeat' split) <;> simp_all)
  · intro k acc
    show sX8_boughtBy_5 n σ (k + 1) m b t acc (Int32.ofNat (mk (zI σ w))) = _
    rw [sX8_boughtBy_5]
    simp (disch := omega) only [zgI, zgR, zaI, zaR, zaC, zck, zb_some, zb2_some, zbx_inl, zbx_inr, zdv, true_or, or_true, true_and, and_true, if_true, ↓reduceIte, h.kM, h.rW, h.kW, h.lW, zx0, zx7, zx23, zx984, zx991, zn0, zn7, zn23, zn984, zn991, h23, io_zx, io_nat, io_succ, io_lt, Nat.lt_irrefl, if_false]

theorem r_soldBy (h : Rf σ m w) (hc : Cn (zI σ w)) (hn : 1000 < n) (b t : Int32) : fX8_soldBy n m b t σ = some (zsm (mk (zI σ w)) (fun i => if zI σ w (24 + 8 * i + 0) = b ∧ zI σ w (24 + 8 * i + 3) = (if t = 5 then 3 else 2) then (if t = 0 then zI σ w (24 + 8 * i + 7) else if t = 1 then cms (zI σ w (24 + 8 * i + 7)) else 1) else 0)) := by
  obtain ⟨h23, hm, h991, hkp⟩ := hc
  unfold fX8_soldBy
  refine zsm_loop (s := fun k acc i => sX8_soldBy_5 n σ k m b t acc i) (N := (mk (zI σ w))) (e := some) (by omega) ?_ ?_
  · intro k acc i hi
    show sX8_soldBy_5 n σ (k + 1) m b t acc (Int32.ofNat i) = _
    rw [sX8_soldBy_5]
    simp (disch := omega) only [zgI, zgR, zaI, zaR, zaC, zck, zb_some, zb2_some, zbx_inl, zbx_inr, zdv, true_or, or_true, true_and, and_true, if_true, ↓reduceIte, h.kM, h.rW, h.kW, h.lW, zx0, zx7, zx23, zx984, zx991, zn0, zn7, zn23, zn984, zn991, h23, io_zx, io_nat, io_succ, io_lt, hi, r_at0 h, r_at3 h, r_at7 h, r_commissionOf, sX8_soldBy_100, sX8_soldBy_53, sX8_soldBy_52, sX8_soldBy_45]
    try ((repeat' split) <;> simp_all)
  · intro k acc
    show sX8_soldBy_5 n σ (k + 1) m b t acc (Int32.ofNat (mk (zI σ w))) = _
    rw [sX8_soldBy_5]
    simp (disch := omega) only [zgI, zgR, zaI, zaR, zaC, zck, zb_some, zb2_some, zbx_inl, zbx_inr, zdv, true_or, or_true, true_and, and_true, if_true, ↓reduceIte, h.kM, h.rW, h.kW, h.lW, zx0, zx7, zx23, zx984, zx991, zn0, zn7, zn23, zn984, zn991, h23, io_zx, io_nat, io_succ, io_lt, Nat.lt_irrefl, if_false]

theorem r_eventsOf (h : Rf σ m w) (hc : Cn (zI σ w)) (hn : 1000 < n) (t : Int32) : fX8_eventsOf n m t σ = some (zsm (kp (zI σ w)) (fun i => if t = -1 ∨ zI σ w (992 + 4 * i) = t then 1 else 0)) := by
  obtain ⟨h23, hm, h991, hkp⟩ := hc
  unfold fX8_eventsOf
  refine zsm_loop (s := fun k acc i => sX8_eventsOf_4 n σ k m t acc i) (N := (kp (zI σ w))) (e := some) (by omega) ?_ ?_
  · intro k acc i hi
    show sX8_eventsOf_4 n σ (k + 1) m t acc (Int32.ofNat i) = _
    rw [sX8_eventsOf_4]
    simp (disch := omega) only [zgI, zgR, zaI, zaR, zaC, zck, zb_some, zb2_some, zbx_inl, zbx_inr, zdv, true_or, or_true, true_and, and_true, if_true, ↓reduceIte, h.kM, h.rW, h.kW, h.lW, zx0, zx7, zx23, zx984, zx991, zn0, zn7, zn23, zn984, zn991, h991, io_zx, io_nat, io_succ, io_lt, hi, ixe, sX8_eventsOf_43, sX8_eventsOf_38]
    try ((repeat' split) <;> simp_all)
  · intro k acc
    show sX8_eventsOf_4 n σ (k + 1) m t acc (Int32.ofNat (kp (zI σ w))) = _
    rw [sX8_eventsOf_4]
    simp (disch := omega) only [zgI, zgR, zaI, zaR, zaC, zck, zb_some, zb2_some, zbx_inl, zbx_inr, zdv, true_or, or_true, true_and, and_true, if_true, ↓reduceIte, h.kM, h.rW, h.kW, h.lW, zx0, zx7, zx23, zx984, zx991, zn0, zn7, zn23, zn984, zn991, h991, io_zx, io_nat, io_succ, io_lt, Nat.lt_irrefl, if_false]

end
