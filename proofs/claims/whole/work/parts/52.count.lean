/-! HOW MANY LIMITS COUNT, THE REFERENCE'S -/
theorem r_countingLimits {σ : zW} {m w n i : Nat} (h : Rf σ m w) (ht : Tb (zI σ w)) (hl : Lt (zI σ w) i) (hn : 1000 < n) (hi : i < 20) : fX8_countingLimits n m (Int32.ofNat i) σ = some (cnl (zI σ w) i) := by
  unfold fX8_countingLimits
  refine zsm_loop (s := fun k acc b => sX8_countingLimits_4 n σ k m (Int32.ofNat i) acc b) (N := 10) (e := some) (by omega) ?_ ?_
  · intro k acc b hb
    have l1 := lim_le hl hb
    show sX8_countingLimits_4 n σ (k + 1) m (Int32.ofNat i) acc (Int32.ofNat b) = sX8_countingLimits_4 n σ k m (Int32.ofNat i) (acc + if 0 < lim (zI σ w) i b then 1 else 0) (Int32.ofNat (b + 1))
    rw [sX8_countingLimits_4]
    refine Eq.trans (if_pos (io_10 hb)) ?_
    refine (zck_e h.kM).trans ?_
    refine (zb_e (r_limitOf h ht hl hn hi hb)).trans ?_
    have hp : ((0 : Int32) < Int32.ofNat (lim (zI σ w) i b)) = (0 < lim (zI σ w) i b) := io_pos (by omega)
    by_cases q : 0 < lim (zI σ w) i b
    · rw [if_pos q, ← io_succ]
      exact (if_pos (hp.symm ▸ q)).trans rfl
    · rw [if_neg q, ← io_succ]
      exact (if_neg (fun z => q (hp ▸ z))).trans rfl
  · intro k acc
    show sX8_countingLimits_4 n σ (k + 1) m (Int32.ofNat i) acc (Int32.ofNat 10) = _
    rw [sX8_countingLimits_4]
    rfl
