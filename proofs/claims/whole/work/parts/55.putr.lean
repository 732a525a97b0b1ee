/-! ORDERS AND BIDS ARE PUT, THE REFERENCE'S -/
theorem zI_stw {σ : zW} {w j : Nat} {v : Int32} : zI (stI σ w j v) w = up (zI σ w) j v := by
  funext k
  rw [zI_st]
  unfold up
  by_cases h : k = j
  · rw [if_pos ⟨rfl, h⟩, if_pos h]
  · rw [if_neg (fun q => h q.2), if_neg h]
theorem zsW_e {α : Type} {σ : zW} {m w j : Nat} {x v : Int32} {c : zW → Option α} (h : Rf σ m w) (hx : x = Int32.ofNat j) (hj : j < 1992) : zsI σ w x v c = c (stI σ w j v) := by
  rw [hx]
  exact zsN_e h.kW h.lW hj (by decide) rfl
section
variable {σ : zW} {m w n i b : Nat} {x y : Int32}
theorem r_putOrder (h : Rf σ m w) (hi : i < 20) (hb : b < 10) : fX8_putOrder n m (Int32.ofNat i) (Int32.ofNat b) x y σ = some (stI (stI σ w (184 + 10 * i + b) x) w (384 + 10 * i + b) y) := by
  have g : Rf (stI σ w (184 + 10 * i + b) x) m w := h
  unfold fX8_putOrder
  refine (zgR_e h.kM h.rW).trans ?_
  refine (zsW_e h (ix184.trans ixl) (by omega)).trans ?_
  refine (zgR_e g.kM g.rW).trans ?_
  exact zsW_e g (ix384.trans ixl) (by omega)
theorem r_putBid (h : Rf σ m w) (hi : i < 20) (hb : b < 10) : fX8_putBid n m (Int32.ofNat i) (Int32.ofNat b) x y σ = some (stI (stI σ w (584 + 10 * i + b) x) w (784 + 10 * i + b) y) := by
  have g : Rf (stI σ w (584 + 10 * i + b) x) m w := h
  unfold fX8_putBid
  refine (zgR_e h.kM h.rW).trans ?_
  refine (zsW_e h (ix584.trans ixl) (by omega)).trans ?_
  refine (zgR_e g.kM g.rW).trans ?_
  exact zsW_e g (ix784.trans ixl) (by omega)
theorem r_put_row {u v : Nat} : zI (stI (stI σ w u x) w v y) w = up (up (zI σ w) u x) v y := by
  rw [zI_stw, zI_stw]
end
