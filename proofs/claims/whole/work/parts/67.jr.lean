/-! THE REFERENCE READ, OVER THE STATE -/
section
variable {σ : zW} {S : St} {n i x b : Nat} {B : Nat}
theorem j_isLot (h : JR σ S) {v : Int32} : fX8_isLot n 125 v σ = some (if 0 ≤ v ∧ v ≤ sA S 23 - 1 then 1 else 0) := by
  have e := h.2.1
  have q := r_isLot (n := n) h.1.1 (v := v)
  rw [e] at q
  exact q
theorem j_at0 (h : JR σ S) (hi : i < 20) : fX8_at n 125 (Int32.ofNat i) 0 σ = some (sA S (24 + 8 * i + 0)) := by
  have e := h.2.1
  have q := r_at0 (n := n) h.1.1 hi
  rw [e] at q
  exact q
theorem j_at1 (h : JR σ S) (hi : i < 20) : fX8_at n 125 (Int32.ofNat i) 1 σ = some (sA S (24 + 8 * i + 1)) := by
  have e := h.2.1
  have q := r_at1 (n := n) h.1.1 hi
  rw [e] at q
  exact q
theorem j_at2 (h : JR σ S) (hi : i < 20) : fX8_at n 125 (Int32.ofNat i) 2 σ = some (sA S (24 + 8 * i + 2)) := by
  have e := h.2.1
  have q := r_at2 (n := n) h.1.1 hi
  rw [e] at q
  exact q
theorem j_at3 (h : JR σ S) (hi : i < 20) : fX8_at n 125 (Int32.ofNat i) 3 σ = some (sA S (24 + 8 * i + 3)) := by
  have e := h.2.1
  have q := r_at3 (n := n) h.1.1 hi
  rw [e] at q
  exact q
theorem j_at4 (h : JR σ S) (hi : i < 20) : fX8_at n 125 (Int32.ofNat i) 4 σ = some (sA S (24 + 8 * i + 4)) := by
  have e := h.2.1
  have q := r_at4 (n := n) h.1.1 hi
  rw [e] at q
  exact q
theorem j_at5 (h : JR σ S) (hi : i < 20) : fX8_at n 125 (Int32.ofNat i) 5 σ = some (sA S (24 + 8 * i + 5)) := by
  have e := h.2.1
  have q := r_at5 (n := n) h.1.1 hi
  rw [e] at q
  exact q
theorem j_at6 (h : JR σ S) (hi : i < 20) : fX8_at n 125 (Int32.ofNat i) 6 σ = some (sA S (24 + 8 * i + 6)) := by
  have e := h.2.1
  have q := r_at6 (n := n) h.1.1 hi
  rw [e] at q
  exact q
theorem j_at7 (h : JR σ S) (hi : i < 20) : fX8_at n 125 (Int32.ofNat i) 7 σ = some (sA S (24 + 8 * i + 7)) := by
  have e := h.2.1
  have q := r_at7 (n := n) h.1.1 hi
  rw [e] at q
  exact q
theorem j_orderOf (h : JR σ S) (hi : i < 20) (hb : b < 10) : fX8_orderOf n 125 (Int32.ofNat i) (Int32.ofNat b) σ = some (sA S (184 + 10 * i + b)) := by
  have e := h.2.1
  have q := r_orderOf (n := n) h.1.1 hi hb
  rw [e] at q
  exact q
theorem j_ordersOf (h : JR σ S) (hn : 1000 < n) (hi : i < 20) : fX8_ordersOf n 125 (Int32.ofNat i) σ = some (oc (sA S) i) := by
  have e := h.2.1
  have q := r_ordersOf (n := n) h.1.1 hn hi
  rw [e] at q
  exact q
theorem j_allOrders (h : JR σ S) (hC : Cn (sA S)) (hn : 1000 < n) : fX8_allOrders n 125 σ = some (zsm (mk (sA S)) (fun i => oc (sA S) i)) := by
  have e := h.2.1
  have q := r_allOrders (n := n) h.1.1 (by rw [e]; exact hC) hn
  rw [e] at q
  exact q
theorem j_boughtBy (h : JR σ S) (hC : Cn (sA S)) (hn : 1000 < n) (b t : Int32) : fX8_boughtBy n 125 b t σ = some (zsm (mk (sA S)) (fun i => if sA S (24 + 8 * i + 3) = 2 ∧ sA S (24 + 8 * i + 6) = b then (if t = 0 then 1 else if t = 1 then sA S (24 + 8 * i + 7) else prr (sA S (24 + 8 * i + 7))) else 0)) := by
  have e := h.2.1
  have q := r_boughtBy (n := n) h.1.1 (by rw [e]; exact hC) hn b t
  rw [e] at q
  exact q
theorem j_soldBy (h : JR σ S) (hC : Cn (sA S)) (hn : 1000 < n) (b t : Int32) : fX8_soldBy n 125 b t σ = some (zsm (mk (sA S)) (fun i => if sA S (24 + 8 * i + 0) = b ∧ sA S (24 + 8 * i + 3) = (if t = 5 then 3 else 2) then (if t = 0 then sA S (24 + 8 * i + 7) else if t = 1 then cms (sA S (24 + 8 * i + 7)) else 1) else 0)) := by
  have e := h.2.1
  have q := r_soldBy (n := n) h.1.1 (by rw [e]; exact hC) hn b t
  rw [e] at q
  exact q
theorem j_eventsOf (h : JR σ S) (hC : Cn (sA S)) (hn : 1000 < n) (t : Int32) : fX8_eventsOf n 125 t σ = some (zsm (kp (sA S)) (fun i => if t = -1 ∨ sA S (992 + 4 * i) = t then 1 else 0)) := by
  have e := h.2.1
  have q := r_eventsOf (n := n) h.1.1 (by rw [e]; exact hC) hn t
  rw [e] at q
  exact q
theorem j_stepBelow (h : JR σ S) (hT : Tb (sA S)) (hn : 1000 < n) (hx : x ≤ 99999) : fX8_stepBelow n 125 (Int32.ofNat x) σ = some (Int32.ofNat (stp (sA S) x)) := by
  have e := h.2.1
  have q := r_stepBelow (n := n) h.1.1 (by rw [e]; exact hT) hn hx
  rw [e] at q
  exact q
theorem j_stepAbove (h : JR σ S) (hT : Tb (sA S)) (hn : 1000 < n) (hx : x ≤ 99999) : fX8_stepAbove n 125 (Int32.ofNat x) σ = some (Int32.ofNat (nxt (sA S) x)) := by
  have e := h.2.1
  have q := r_stepAbove (n := n) h.1.1 (by rw [e]; exact hT) hn hx
  rw [e] at q
  exact q
theorem j_isStep (h : JR σ S) (hT : Tb (sA S)) (hn : 1000 < n) (hx : x ≤ 99999) : fX8_isStep n 125 (Int32.ofNat x) σ = some (if 0 < x ∧ stp (sA S) x = x then 1 else 0) := by
  have e := h.2.1
  have q := r_isStep (n := n) h.1.1 (by rw [e]; exact hT) hn hx
  rw [e] at q
  exact q
theorem j_limitOf (h : JR σ S) (hT : Tb (sA S)) (hL : Lt (sA S) i) (hn : 1000 < n) (hi : i < 20) (hb : b < 10) : fX8_limitOf n 125 (Int32.ofNat i) (Int32.ofNat b) σ = some (Int32.ofNat (lim (sA S) i b)) := by
  have e := h.2.1
  have q := r_limitOf (n := n) h.1.1 (by rw [e]; exact hT) (by rw [e]; exact hL) hn hi hb
  rw [e] at q
  exact q
theorem j_timeOf (h : JR σ S) (hT : Tb (sA S)) (hL : Lt (sA S) i) (hn : 1000 < n) (hi : i < 20) (hb : b < 10) (h0 : 0 < lim (sA S) i b) : fX8_timeOf n 125 (Int32.ofNat i) (Int32.ofNat b) σ = some (Int32.ofNat (tim (sA S) i b)) := by
  have e := h.2.1
  have q := r_timeOf (n := n) h.1.1 (by rw [e]; exact hT) (by rw [e]; exact hL) hn hi hb (by rw [e]; exact h0)
  rw [e] at q
  exact q
theorem j_ranked (h : JR σ S) (hT : Tb (sA S)) (hL : Lt (sA S) i) (hn : 1000 < n) (hi : i < 20) (rank : Int32) : fX8_ranked n 125 (Int32.ofNat i) rank σ = some (bco (rkO (lim (sA S) i) (tim (sA S) i) rank 0 10)) := by
  have e := h.2.1
  have q := r_ranked (n := n) h.1.1 (by rw [e]; exact hT) (by rw [e]; exact hL) hn hi rank
  rw [e] at q
  exact q
theorem j_countingLimits (h : JR σ S) (hT : Tb (sA S)) (hL : Lt (sA S) i) (hn : 1000 < n) (hi : i < 20) : fX8_countingLimits n 125 (Int32.ofNat i) σ = some (cnl (sA S) i) := by
  have e := h.2.1
  have q := r_countingLimits (n := n) h.1.1 (by rw [e]; exact hT) (by rw [e]; exact hL) hn hi
  rw [e] at q
  exact q
/-- the reference has found a lot's standing -/
def Std (σ : zW) (a : Nat → Int32) (i : Nat) : Prop := zI σ 125 7 = sLd a i ∧ zI σ 125 8 = Int32.ofNat (sLm a i) ∧ zI σ 125 9 = Int32.ofNat (sSc a i) ∧ zI σ 125 10 = Int32.ofNat (sPr a i)
theorem j_stand (h : JR σ S) (hT : Tb (sA S)) (hL : Lt (sA S) i) (hn : 1000 < n) (hi : i < 20) : wp (fX8_stand n 125 (Int32.ofNat i) σ) (fun σ' => JR σ' S ∧ Fr PR σ σ' ∧ Std σ' (sA S) i ∧ zI σ' 125 0 = zI σ 125 0) := by
  have e := h.2.1
  have q := r_stand (n := n) h.1.1 (by decide) (by rw [e]; exact hT) (by rw [e]; exact hL) hn hi
  rw [e] at q
  refine wp_of q ⟨(((h.i (by omega)).i (by omega)).i (by omega)).i (by omega), ((PR.i.trans PR.i).trans PR.i).trans PR.i, ⟨?_, ?_, ?_, ?_⟩, ?_⟩
  · rw [zI_st, if_neg (by omega), zI_st, if_neg (by omega), zI_st, if_neg (by omega), zI_st, if_pos ⟨rfl, rfl⟩]
  · rw [zI_st, if_neg (by omega), zI_st, if_neg (by omega), zI_st, if_pos ⟨rfl, rfl⟩]
  · rw [zI_st, if_neg (by omega), zI_st, if_pos ⟨rfl, rfl⟩]
  · rw [zI_st, if_pos ⟨rfl, rfl⟩]
  · rw [zI_st, if_neg (by omega), zI_st, if_neg (by omega), zI_st, if_neg (by omega), zI_st, if_neg (by omega)]
theorem j_isMet (h : JR σ S) (hs : Std σ (sA S) i) (hL : Lt (sA S) i) (hi : i < 20) : fX8_isMet n 125 (Int32.ofNat i) σ = some (@ite _ (met (sA S) i) (Classical.propDecidable _) 1 0) := by
  have e := h.2.1
  have q := r_isMet (n := n) h.1.1 (by rw [e]; exact hL) hi (by rw [e]; exact hs.1) (by rw [e]; exact hs.2.2.2)
  rw [e] at q
  exact q
end
