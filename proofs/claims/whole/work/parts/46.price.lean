/-! PRICES, THE CLASS'S -/
theorem sLd_none {a : Nat → Int32} {i : Nat} (hl : Lt a i) : (sLd a i = -1) ↔ (bst a i = none ∧ hou a i = 0) := by
  unfold sLd bsl
  cases hb : bst a i with
  | none =>
    by_cases h : 0 < hou a i
    · rw [if_pos h]
      exact ⟨fun q => absurd q (by decide), fun q => by omega⟩
    · rw [if_neg h]
      exact ⟨fun _ => ⟨rfl, by omega⟩, fun _ => rfl⟩
  | some B =>
    obtain ⟨b1, b2⟩ := bst_lt hl hb
    refine ⟨fun q => ?_, fun q => by cases q.1⟩
    by_cases h : lim a i B < hou a i
    · have q : (if lim a i B < hou a i then (10 : Int32) else bco (some B)) = -1 := q
      rw [if_pos h] at q
      exact absurd q (by decide)
    · have q : (if lim a i B < hou a i then (10 : Int32) else bco (some B)) = -1 := q
      rw [if_neg h] at q
      have e := io_m1 (b := B) (by omega)
      rw [show bco (some B) = Int32.ofNat B from rfl, e] at q
      exact q.elim
theorem bsl_le {a : Nat → Int32} {i : Nat} (hl : Lt a i) : bsl a i ≤ 99999 := by
  unfold bsl
  cases hb : bst a i with
  | none => exact Nat.zero_le _
  | some B => exact lim_le hl (bst_lt hl hb).1
theorem sLm_le {a : Nat → Int32} {i : Nat} (hl : Lt a i) : sLm a i ≤ 99999 := by
  have h1 := bsl_le hl
  have h2 := hou_le hl
  unfold sLm
  split <;> omega
theorem sSc_le {a : Nat → Int32} {i : Nat} (hl : Lt a i) : sSc a i ≤ 99999 := by
  have h1 := bsl_le hl
  have h2 := hou_le hl
  have h3 := oth_le hl
  unfold sSc
  split <;> omega
section
variable {σ : zW} {s v n i : Nat} {a : Nat → Int32}
theorem c_price (h : Rep σ s a) (hv : Vw σ v) (hs : Stv σ v a i) (ht : Tb a) (hl : Lt a i) (hn : 1000 < n) : fX4_price n v (s + 1) σ = some (Int32.ofNat (sPr a i)) := by
  obtain ⟨hA, -, s3, s4, s5⟩ := hs
  have h1 := sLm_le hl
  have h2 := sSc_le hl
  have h3 := nxt_le ht h2
  have hd := sLd_none hl
  unfold fX4_price sPr
  refine (zgI_e hv.kV s3).trans ?_
  by_cases q : sLd a i = -1
  · refine Eq.trans (if_pos q) ?_
    rw [if_pos (hd.mp q)]
    rfl
  · refine Eq.trans (if_neg q) ?_
    rw [if_neg (fun z => q (hd.mpr z))]
    refine (zgI_e hv.kV s4).trans ?_
    refine (zgI_e hv.kV s5).trans ?_
    refine (zck_e h.1.kT).trans ?_
    refine (zb_e (c_stepAfter h ht h2 hn)).trans ?_
    unfold sX4_price_27
    rw [mni (by omega) (by omega), Nat.min_comm]
end
