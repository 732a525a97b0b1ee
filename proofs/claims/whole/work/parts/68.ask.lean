/-! WHAT A CALL ASKS FIRST, ON BOTH SIDES -/
section
variable {σ τ : zW} {S : St} {c n i b : Nat}
theorem JC.x (h : JC σ S c) : zK σ 4 = 8 := h.1.1.1.1
theorem JC.xs (h : JC σ S c) : zR σ 4 0 = 5 := h.1.1.1.2.1
theorem JC.xv (h : JC σ S c) : zR σ 4 1 = 117 := h.1.1.1.2.2.1
theorem JC.xh (h : JC σ S c) : zR σ 4 2 = 120 := h.1.1.1.2.2.2.1
theorem JC.xt (h : JC σ S c) : zR σ 4 3 = 122 := h.1.1.1.2.2.2.2
theorem JC.vw (h : JC σ S c) : Vw σ 117 := h.1.1.2.1
theorem JC.rep (h : JC σ S c) : Rep σ 5 (sA S) := h.1.2.1
theorem JC.kh (h : JC σ S c) : zK σ 120 = 1 := h.1.1.2.2.1.1
theorem JC.kt (h : JC σ S c) : zK σ 122 = 7 := h.1.1.2.2.2.1.1
theorem JC.rs (h : JC σ S c) : zI σ 4 5 = sRs S := h.1.2.2.2.2.2.1.1
theorem JC.fl (h : JC σ S c) : zI σ 4 6 = sFl S := h.1.2.2.2.2.2.1.2
theorem JR.k (h : JR σ S) : zK σ 125 = 9 := h.1.1.1
theorem JR.w (h : JR σ S) : zR σ 125 1 = 126 := h.1.1.2.1
theorem JR.kw (h : JR σ S) : zK σ 126 = 20 := h.1.1.2.2.1
theorem JR.lw (h : JR σ S) : zL σ 126 = 1992 := h.1.1.2.2.2
theorem JR.a (h : JR σ S) : zI σ 126 = sA S := h.2.1
theorem JR.at (h : JR σ S) (j : Nat) : zI σ 126 j = sA S j := congrFun h.2.1 j
theorem JR.rs (h : JR σ S) : zI σ 125 6 = sRs S := h.2.2.2.2.1.1
theorem JR.fl (h : JR σ S) : zI σ 125 15 = sFl S := h.2.2.2.2.1.2
theorem cn_lot (h : JC σ S c) {p : Int32} (hp : 0 ≤ p ∧ p < sA S 23) : fX7_needLot n 4 p σ = some (.inl (), σ) := by
  unfold fX7_needLot
  refine (zgR_e h.x h.xs).trans ((zck_e h.rep.1.kS).trans ((zb_e ((c_has h.rep).trans (congrArg some (if_pos hp)))).trans ?_))
  exact if_neg (by decide)
theorem cn_lot_x (h : JC σ S c) (rm : zN σ + 1 ≤ 603072 ∧ zS σ + 6 ≤ 7219305) {p : Int32} (hp : ¬ (0 ≤ p ∧ p < sA S 23)) : fX7_needLot n 4 p σ = some (.inr 1, nwX σ) := by
  unfold fX7_needLot
  refine (zgR_e h.x h.xs).trans ((zck_e h.rep.1.kS).trans ((zb_e ((c_has h.rep).trans (congrArg some (if_neg hp)))).trans ?_))
  exact (if_pos rfl).trans (zth_e rm.1 rm.2)
theorem cn_bid {p : Int32} (hp : 0 ≤ p ∧ p < 10) : fX7_needBidder n p σ = some (.inl (), σ) := by
  unfold fX7_needBidder
  refine (zb_e (c_isBidder.trans (congrArg some (if_pos hp)))).trans ?_
  exact if_neg (by decide)
theorem cn_bid_x (rm : zN σ + 1 ≤ 603072 ∧ zS σ + 6 ≤ 7219305) {p : Int32} (hp : ¬ (0 ≤ p ∧ p < 10)) : fX7_needBidder n p σ = some (.inr 1, nwX σ) := by
  unfold fX7_needBidder
  refine (zb_e (c_isBidder.trans (congrArg some (if_neg hp)))).trans ?_
  exact (if_pos rfl).trans (zth_e rm.1 rm.2)
theorem cn_in {p l u : Int32} (hp : l ≤ p ∧ p ≤ u) : fX7_needWithin n p l u σ = some (.inl (), σ) := by
  unfold fX7_needWithin
  exact (if_neg (Int32.not_lt.mpr hp.1)).trans (if_neg (Int32.not_lt.mpr hp.2))
theorem cn_in_x (rm : zN σ + 1 ≤ 603072 ∧ zS σ + 6 ≤ 7219305) {p l u : Int32} (hp : ¬ (l ≤ p ∧ p ≤ u)) : fX7_needWithin n p l u σ = some (.inr 2, nwX σ) := by
  unfold fX7_needWithin
  by_cases h1 : p < l
  · exact (if_pos h1).trans (zth_e rm.1 rm.2)
  · refine (if_neg h1).trans ((if_pos ?_).trans (zth_e rm.1 rm.2))
    by_cases h2 : u < p
    · exact h2
    · exact absurd ⟨Int32.not_lt.mp h1, Int32.not_lt.mp h2⟩ hp
theorem cn_st (h : JC σ S c) (hi : i < mk (sA S)) (hi20 : i < 20) {st : Int32} (hs : sA S (24 + 8 * i + 3) = st) : fX7_needState n (lo 5 i) st σ = some (.inl (), σ) := by
  unfold fX7_needState
  exact (zgI_e (h.rep.1.kL hi20) (h.rep.l3 hi20 hi)).trans (if_pos hs)
theorem cn_st_x (h : JC σ S c) (rm : zN σ + 1 ≤ 603072 ∧ zS σ + 6 ≤ 7219305) (hi : i < mk (sA S)) (hi20 : i < 20) {st : Int32} (hs : ¬ sA S (24 + 8 * i + 3) = st) : fX7_needState n (lo 5 i) st σ = some (.inr 3, nwX σ) := by
  unfold fX7_needState
  exact (zgI_e (h.rep.1.kL hi20) (h.rep.l3 hi20 hi)).trans ((if_neg hs).trans (zth_e rm.1 rm.2))
theorem cn_room (h : JC σ S c) {k : Int32} (hk : ¬ 20 < sA S 23 + k) : fX7_needRoomForLots n 4 k σ = some (.inl (), σ) := by
  unfold fX7_needRoomForLots
  exact (zgR_e h.x h.xs).trans ((zgI_e h.rep.1.kS h.rep.cnt).trans (if_neg hk))
theorem cn_room_x (h : JC σ S c) (rm : zN σ + 1 ≤ 603072 ∧ zS σ + 6 ≤ 7219305) {k : Int32} (hk : 20 < sA S 23 + k) : fX7_needRoomForLots n 4 k σ = some (.inr 3, nwX σ) := by
  unfold fX7_needRoomForLots
  exact (zgR_e h.x h.xs).trans ((zgI_e h.rep.1.kS h.rep.cnt).trans ((if_pos hk).trans (zth_e rm.1 rm.2)))
theorem jn_lot (h : JR τ S) {p : Int32} (hp : 0 ≤ p ∧ p ≤ sA S 23 - 1) : fX8_isLot n 125 p τ = some 1 := (j_isLot h).trans (congrArg some (if_pos hp))
theorem jn_lot_x (h : JR τ S) {p : Int32} (hp : ¬ (0 ≤ p ∧ p ≤ sA S 23 - 1)) : fX8_isLot n 125 p τ = some 0 := (j_isLot h).trans (congrArg some (if_neg hp))
theorem jn_bid {p : Int32} (hp : 0 ≤ p ∧ p ≤ 9) : fX8_isBidder n p τ = some 1 := r_isBidder.trans (congrArg some (if_pos hp))
theorem jn_bid_x {p : Int32} (hp : ¬ (0 ≤ p ∧ p ≤ 9)) : fX8_isBidder n p τ = some 0 := r_isBidder.trans (congrArg some (if_neg hp))
theorem jn_in {p l u : Int32} (hp : l ≤ p ∧ p ≤ u) : fX8_isIn n p l u τ = some 1 := r_isIn.trans (congrArg some (if_pos hp))
theorem jn_in_x {p l u : Int32} (hp : ¬ (l ≤ p ∧ p ≤ u)) : fX8_isIn n p l u τ = some 0 := r_isIn.trans (congrArg some (if_neg hp))
theorem jn_fail (h : JR τ S) {k : Int32} : fX8_fail n 125 k τ = some (0, stI τ 125 0 k) := by
  unfold fX8_fail
  exact zpI_e h.k rfl
theorem at_e {p : Int32} {q : Nat} (h : JR τ S) (hi : i < 20) (hp : p = Int32.ofNat q) (hq : q < 8) : fX8_at n 125 (Int32.ofNat i) p τ = some (sA S (24 + 8 * i + q)) := by
  rw [hp, r_at h.1.1 hi hq, h.a]
theorem zaW_e {α : Type} {j : Nat} {x : Int32} {c : Int32 → Option α} (h : JR τ S) (hx : x = Int32.ofNat j) (hj : j < 1992) : zaI τ 126 x c = c (sA S j) := by
  rw [hx]
  exact zaN_e h.kw h.lw hj (by decide) (h.at j)
/-- thrown is set and asked -/
theorem thr_set {α : Type} {k : Int32} {c : Int32 → zW → Option α} (h : JR τ S) : (zpI τ 9 125 0 k fun σ1 => zgI σ1 9 125 0 fun x2 => c x2 σ1) = c k (stI τ 125 0 k) :=
  (zpI_e h.k rfl).trans (zgI_e (σ := stI τ 125 0 k) h.k (by rw [zI_st, if_pos ⟨rfl, rfl⟩]))
end
section
variable {X : zW → Option ((Int32 ⊕ Nat) × zW)} {tr : Nat → zW → Option (Int32 × zW)} {G : zW → Option (Int32 × zW)} {σ : zW} {S S' : St} {c : Nat}
/-- the reference has ended with thrown k -/
def Tr (τ : zW) (S : St) (k : Int32) (τ' : zW) : Prop := zI τ' 125 0 = k ∧ Fr PR τ τ' ∧ JR τ' S
theorem Tr.one {τ : zW} {k : Int32} (h : JR τ S) : Tr τ S k (stI τ 125 0 k) := ⟨by rw [zI_st, if_pos ⟨rfl, rfl⟩], PR.i, h.i (Or.inl rfl)⟩
theorem Tr.two {τ : zW} {k l : Int32} (h : JR τ S) : Tr τ S k (stI (stI τ 125 0 l) 125 0 k) := ⟨by rw [zI_st, if_pos ⟨rfl, rfl⟩], PR.i.trans PR.i, (h.i (Or.inl rfl)).i (Or.inl rfl)⟩
theorem Tr.then {τ τ1 τ2 : zW} {k l : Int32} {S1 : St} (h : Tr τ S k τ1) (h2 : Tr τ1 S1 l τ2) : Tr τ S1 l τ2 := ⟨h2.1, h.2.1.trans h2.2.1, h2.2.2⟩
theorem o_thr {e : Nat} {k : Int32} (hJ : JC σ S c) (hS : SI S (100 * c)) (ht : tr e (nwX σ) = some (k, nwX σ)) (hk : k ≠ 0) (he : wp (X σ) (fun r => r = (.inr e, nwX σ))) (hr : ∀ τ, JR τ S → wp (G τ) (fun r => Tr τ S k r.2)) : OPR (lF X tr) G σ S c :=
  OPR.ex hJ (wp_eq he) ht hk hJ.thr FC.thr (hS.mono (by omega)) (fun τ hτ => by
    obtain ⟨r, g1, g2, g3, g4⟩ := hr τ hτ
    exact ⟨r.1, r.2, g1, g2, g4, g3⟩)
theorem o_rd {v : Int32} (hJ : JC σ S c) (hS : SI S (100 * c)) (hW : zK σ 131 = 23 ∧ zL σ 131 = 1) (e : wp (X σ) (fun r => ∃ σ1, r = (.inl v, σ1) ∧ JC σ1 S c ∧ FC σ σ1)) (hr : ∀ τ, JR τ S → wp (G τ) (fun r => r.1 = v ∧ Tr τ S 0 r.2)) : OPR (lF X tr) G σ S c := by
  obtain ⟨r, e1, σ1, rfl, j, f⟩ := e
  refine OPR.ok hJ hW e1 j f (hS.mono (by omega)) (fun τ hτ => ?_)
  obtain ⟨r, g1, g2, g3, g4, g5⟩ := hr τ hτ
  exact ⟨r.2, by rw [← g2]; exact g1, g3, g5, g4⟩
theorem o_ok {v : Int32} (hJ : JC σ S c) (hW : zK σ 131 = 23 ∧ zL σ 131 = 1) (hs : SI S' (100 * (c + 1))) (e : wp (X σ) (fun r => ∃ σ1, r = (.inl v, σ1) ∧ JC σ1 S' c ∧ FC σ σ1)) (hr : ∀ τ, JR τ S → wp (G τ) (fun r => r.1 = v ∧ Tr τ S' 0 r.2)) (hE : S'.2.2.2.2 = S.2.2.2.2 := by rfl) : OPR (lF X tr) G σ S c := by
  obtain ⟨r, e1, σ1, rfl, j, f⟩ := e
  refine OPR.ok hJ hW e1 j f hs (fun τ hτ => ?_) (hE := hE)
  obtain ⟨r, g1, g2, g3, g4, g5⟩ := hr τ hτ
  exact ⟨r.2, by rw [← g2]; exact g1, g3, g5, g4⟩
end
