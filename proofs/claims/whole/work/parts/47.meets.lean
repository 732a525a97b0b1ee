/-! WHETHER A LOT IS SOLD, HOW MANY LIMITS COUNT -/
def met (a : Nat → Int32) (i : Nat) : Prop := sLd a i ≠ -1 ∧ sLd a i ≠ 10 ∧ qR a i ≤ sPr a i
theorem sPr_le {a : Nat → Int32} {i : Nat} (hl : Lt a i) : sPr a i ≤ 99999 := by
  have h1 := sLm_le hl
  unfold sPr
  split <;> omega
section
variable {σ : zW} {s v n i m w : Nat} {a : Nat → Int32}
theorem c_meets (h : Rep σ s a) (hv : Vw σ v) (hs : Stv σ v a i) (ht : Tb a) (hl : Lt a i) (hn : 1000 < n) : fX4_meets n v (Int32.ofNat (qR a i)) (s + 1) σ = some (@ite _ (met a i) (Classical.propDecidable _) 1 0) := by
  have hp := c_price h hv hs ht hl hn
  have h1 := sPr_le hl
  have h2 := hl.1.2
  have s3 := hs.2.2.1
  have hlt : (Int32.ofNat (sPr a i) < Int32.ofNat (qR a i)) = (sPr a i < qR a i) := io_lt (by omega) (by omega)
  unfold fX4_meets
  refine (zgI_e hv.kV s3).trans ?_
  by_cases q : sLd a i = -1
  · rw [if_neg (fun z : met a i => z.1 q)]
    exact if_pos q
  · refine Eq.trans (if_neg q) ?_
    refine (zgI_e hv.kV s3).trans ?_
    by_cases q2 : sLd a i = 10
    · rw [if_neg (fun z : met a i => z.2.1 q2)]
      exact if_pos q2
    · refine Eq.trans (if_neg q2) ?_
      refine (zck_e hv.kV).trans ?_
      refine (zb_e hp).trans ?_
      by_cases q3 : sPr a i < qR a i
      · rw [if_neg (fun z : met a i => by have := z.2.2; omega)]
        exact if_pos (hlt.symm ▸ q3)
      · have q4 : met a i := ⟨q, q2, by omega⟩
        rw [if_pos q4]
        exact if_neg (fun z => q3 (hlt ▸ z))
theorem r_isMet (h : Rf σ m w) (hl : Lt (zI σ w) i) (hi : i < 20) (h7 : zI σ m 7 = sLd (zI σ w) i) (h10 : zI σ m 10 = Int32.ofNat (sPr (zI σ w) i)) : fX8_isMet n m (Int32.ofNat i) σ = some (@ite _ (met (zI σ w) i) (Classical.propDecidable _) 1 0) := by
  have h1 := sPr_le hl
  have h2 := hl.1.2
  have hlt : (Int32.ofNat (sPr (zI σ w) i) < Int32.ofNat (qR (zI σ w) i)) = (sPr (zI σ w) i < qR (zI σ w) i) := io_lt (by omega) (by omega)
  unfold fX8_isMet
  refine (zgI_e h.kM h7).trans ?_
  by_cases q : sLd (zI σ w) i = -1
  · rw [if_neg (fun z : met (zI σ w) i => z.1 q)]
    exact if_pos q
  · refine Eq.trans (if_neg q) ?_
    refine (zgI_e h.kM h7).trans ?_
    by_cases q2 : sLd (zI σ w) i = 10
    · rw [if_neg (fun z : met (zI σ w) i => z.2.1 q2)]
      exact if_pos q2
    · refine Eq.trans (if_neg q2) ?_
      refine (zgI_e h.kM h10).trans ?_
      refine (zck_e h.kM).trans ?_
      refine (zb_e ((r_at2 h hi).trans (congrArg some hl.1.1))).trans ?_
      by_cases q3 : sPr (zI σ w) i < qR (zI σ w) i
      · rw [if_neg (fun z : met (zI σ w) i => by have := z.2.2; omega)]
        exact if_pos (hlt.symm ▸ q3)
      · have q4 : met (zI σ w) i := ⟨q, q2, by omega⟩
        rw [if_pos q4]
        exact if_neg (fun z => q3 (hlt ▸ z))
theorem c_reason (hv : Vw σ v) (hs : Stv σ v a i) : fX4_reasonBelowReserve n v σ = some (if sLd a i = -1 then 1 else if sLd a i = 10 then 2 else 3) := by
  have s3 := hs.2.2.1
  unfold fX4_reasonBelowReserve
  refine (zgI_e hv.kV s3).trans ?_
  by_cases q : sLd a i = -1
  · rw [if_pos q, if_pos q]
  · rw [if_neg q, if_neg q]
    refine (zgI_e hv.kV s3).trans ?_
    by_cases q2 : sLd a i = 10
    · rw [if_pos q2, if_pos q2]
      rfl
    · rw [if_neg q2, if_neg q2]
      rfl
def cnl (a : Nat → Int32) (i : Nat) : Int32 := zsm 10 (fun b => if 0 < lim a i b then 1 else 0)
theorem c_counting (hv : Vw σ v) (hs : Stv σ v a i) (hn : 1000 < n) : fX4_counting n v σ = some (cnl a i) := by
  unfold fX4_counting
  refine zsm_loop (s := fun k acc b => sX4_counting_4 n σ k v acc b) (N := 10) (e := some) (by omega) ?_ ?_
  · intro k acc b hb
    obtain ⟨b1, b2, b3, b4⟩ := hs.1 b hb
    have hq10 : Int32.ofNat b < 10 := by
      rw [show (10 : Int32) = Int32.ofNat 10 from rfl, io_lt (by omega) (by omega)]
      exact hb
    show sX4_counting_4 n σ (k + 1) v acc (Int32.ofNat b) = sX4_counting_4 n σ k v (acc + if 0 < lim a i b then 1 else 0) (Int32.ofNat (b + 1))
    rw [sX4_counting_4]
    refine Eq.trans (if_pos hq10) ?_
    refine (zgR_e hv.kV hv.v0).trans ?_
    refine (zaN_e hv.kV1 hv.lV1 hb (by decide) b1).trans ?_
    have hp : ((0 : Int32) < Int32.ofNat (lim a i b)) = (0 < lim a i b) := io_pos (by omega)
    by_cases q : 0 < lim a i b
    · rw [if_pos q]
      rw [← io_succ]
      exact (if_pos (hp.symm ▸ q)).trans rfl
    · rw [if_neg q, Int32.add_zero, ← io_succ]
      exact (if_neg (fun z => q (hp ▸ z))).trans rfl
  · intro k acc
    show sX4_counting_4 n σ (k + 1) v acc (Int32.ofNat 10) = _
    rw [sX4_counting_4]
    rfl
end
