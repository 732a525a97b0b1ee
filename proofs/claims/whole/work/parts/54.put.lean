/-! ORDERS AND BIDS ARE PUT -/
theorem Rep.stp {σ : zW} {s i b q : Nat} {a : Nat → Int32} {v : Int32} (h : Rep σ s a) (hi : i < 20) (hb : b < 10) (hq : q < 4) : Rep (stI σ (lo s i + (1 + q)) b v) s (up a (184 + 200 * q + 10 * i + b) v) := by
  have h1 := h.st (j0 := 184 + 200 * q + 10 * i + b) (v := v) (by omega) (by omega) (by omega)
  have e : slo (184 + 200 * q + 10 * i + b) = (12 + 5 * i + (1 + q), b) := by
    match q, hq with
    | 0, _ => exact slo_p0 hi hb
    | 1, _ => exact slo_p1 hi hb
    | 2, _ => exact slo_p2 hi hb
    | 3, _ => exact slo_p3 hi hb
  rw [e] at h1
  have e2 : s + (12 + 5 * i + (1 + q)) = lo s i + (1 + q) := by
    unfold lo
    omega
  rw [show s + ((12 + 5 * i + (1 + q), b) : Nat × Nat).1 = lo s i + (1 + q) from e2] at h1
  exact h1
def put (a : Nat → Int32) (c i b : Nat) (x y : Int32) : Nat → Int32 := up (up a (c + 10 * i + b) x) (c + 200 + 10 * i + b) y
section
variable {σ : zW} {s n i b : Nat} {a : Nat → Int32} {x y : Int32}
theorem c_putOrder (h : Rep σ s a) (hi : i < 20) (hb : b < 10) : fX2_putOrder n (lo s i) (Int32.ofNat b) x y σ = some (stI (stI σ (lo s i + 1) b x) (lo s i + 2) b y) ∧ Rep (stI (stI σ (lo s i + 1) b x) (lo s i + 2) b y) s (put a 184 i b x y) := by
  have h1 := h.stp (v := x) (q := 0) hi hb (by decide)
  have h2 := h1.stp (v := y) (q := 1) hi hb (by decide)
  refine ⟨?_, h2⟩
  have g : Rep (stI σ (lo s i + 1) b x) s (up a (184 + 200 * 0 + 10 * i + b) x) := h1
  unfold fX2_putOrder
  refine (zgR_e (h.1.kL hi) (h.1.rL0 hi)).trans ?_
  refine (zsN_e (h.1.kL0 hi) (h.1.lL0 hi) hb (by decide) rfl).trans ?_
  refine (zgR_e (g.1.kL hi) (g.1.rL1 hi)).trans ?_
  exact zsN_e (g.1.kL1 hi) (g.1.lL1 hi) hb (by decide) rfl
theorem c_putBid (h : Rep σ s a) (hi : i < 20) (hb : b < 10) : fX2_putBid n (lo s i) (Int32.ofNat b) x y σ = some (stI (stI σ (lo s i + 3) b x) (lo s i + 4) b y) ∧ Rep (stI (stI σ (lo s i + 3) b x) (lo s i + 4) b y) s (put a 584 i b x y) := by
  have h1 := h.stp (v := x) (q := 2) hi hb (by decide)
  have h2 := h1.stp (v := y) (q := 3) hi hb (by decide)
  refine ⟨?_, h2⟩
  have g : Rep (stI σ (lo s i + 3) b x) s (up a (184 + 200 * 2 + 10 * i + b) x) := h1
  unfold fX2_putBid
  refine (zgR_e (h.1.kL hi) (h.1.rL2 hi)).trans ?_
  refine (zsN_e (h.1.kL2 hi) (h.1.lL2 hi) hb (by decide) rfl).trans ?_
  refine (zgR_e (g.1.kL hi) (g.1.rL3 hi)).trans ?_
  exact zsN_e (g.1.kL3 hi) (g.1.lL3 hi) hb (by decide) rfl
end
