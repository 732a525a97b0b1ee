/-- two equal longs -/
theorem lcmp_self (x : Int64) : lg_cmp x x = 0 := by
  unfold lg_cmp
  simp
/-! THE LAW'S CALLS -/
section
variable {σ τ : zW} {S S' : St} {c n L : Nat} {xs : Nat → Int32} {r28 : Nat → Nat → Nat → Nat → Nat → Int32 → zW → Option (Int32 × zW)}
def NXT (r28 : Nat → Nat → Nat → Nat → Nat → Int32 → zW → Option (Int32 × zW)) (c L : Nat) (xs : Nat → Int32) (A : Option (Int32 × zW)) : Prop := ∃ σ' S', JJ σ' S' (c + 1) L xs ∧ A = r28 3 4 125 131 132 (Int32.ofNat (5 * c + 5)) σ'
theorem NXT.e {A B : Option (Int32 × zW)} (h : A = B) (g : NXT r28 c L xs B) : NXT r28 c L xs A := by rw [h]; exact g
theorem lg2620 (h : JJ σ S' (c + 1) L xs) : NXT r28 c L xs (sL_law_2620 n r28 3 4 125 131 132 (Int32.ofNat (5 * c)) σ) := by
  refine ⟨σ, S', h, ?_⟩
  unfold sL_law_2620
  rw [show Int32.ofNat (5 * c) + 5 = Int32.ofNat (5 * c + 5) from ixl (i := 5)]
theorem lgO {F G : zW → Option (Int32 × zW)} {A : Int32 → zW → Option (Int32 × zW)} {K E : zW → Option (Int32 × zW)} (hO : OPR F G σ S c) (h : JJ σ S c L xs)
    (hA : ∀ k σ1, LW σ1 L xs → A k σ1 = zck σ1 9 125 (zb2 (G σ1) fun b σ2 => zck σ2 9 125 (zb (fX8_thrown n 125 σ2) fun t => if t = k then if k = 0 then zaL σ2 131 0 fun y => if (lg_cmp (y.toInt64) (b.toInt64)) = 0 then K σ2 else E σ2 else K σ2 else E σ2)))
    (hK : ∀ σ2, K σ2 = sL_law_2620 n r28 3 4 125 131 132 (Int32.ofNat (5 * c)) σ2) : NXT r28 c L xs (zb2 (F σ) A) := by
  obtain ⟨k, σ1, S', e, J1, lw, jr, ⟨hs, htx⟩, hG⟩ := hO
  have L1 := lw L xs h.1
  have t1 := jr h.2.2.1
  obtain ⟨b, τ', g1, g2, g3, g4, g5⟩ := hG σ1 t1
  have L2 := L1.pr g5
  have hj : JJ τ' S' (c + 1) L xs := ⟨L2, J1.pr g5, g4, hs, htx h.2.2.2.2⟩
  have et : fX8_thrown n 125 τ' = some k := by
    unfold fX8_thrown
    exact (zgI_e g4.k g2).trans rfl
  refine NXT.e ((zb2_e e).trans ((hA k σ1 L1).trans ((zck_e t1.k).trans ((zb2_e g1).trans ((zck_e g4.k).trans ((zb_e et).trans ((if_pos rfl).trans ?_))))))) (lg2620 (n := n) hj)
  rw [← hK]
  by_cases hk : k = 0
  · refine (if_pos hk).trans ((zaL_e (L := 1) L2.2.2.2.1 L2.2.2.2.2.1 (by decide)).trans ?_)
    have ey : zI τ' 131 0 = b := by
      rw [g5.2 131 (fun q => by have := q.2; omega)]
      exact (g3 hk).symm
    rw [ey]
    exact if_pos (lcmp_self _)
  · exact if_neg hk
end
section
variable {σ τ : zW} {S S' : St} {c n L : Nat} {xs : Nat → Int32} {r28 : Nat → Nat → Nat → Nat → Nat → Int32 → zW → Option (Int32 × zW)}
theorem lg_220 (h : JJ σ S c L xs) (hL : L ≤ 2560) (hi : 5 * c + 4 < L) (hcc : c ≤ 512) (hn : 30000 < n) : NXT r28 c L xs (sL_law_220 n r28 3 4 125 131 132 (Int32.ofNat (5 * c)) σ) := by
  have hO := o_addLot (n := n) h.2.1 ⟨h.1.2.2.2.1, h.1.2.2.2.2.1⟩ h.2.2.2.1 hcc hn (xs (5 * c + 1)) (xs (5 * c + 2)) (xs (5 * c + 3))
  unfold sL_law_220
  refine NXT.e (zaS_e (q := 1) h.1 (show 5 * c + 1 < L by omega) hL) ?_
  refine NXT.e (zaS_e (q := 2) h.1 (show 5 * c + 2 < L by omega) hL) ?_
  refine NXT.e (zaS_e (q := 3) h.1 (show 5 * c + 3 < L by omega) hL) ?_
  refine lgO (n := n) hO h (fun k σ1 L1 => ?_) (fun σ2 => ?_) (E := fun σ2 => if 0 = 0 ∨ 0 = 1 then some (0, σ2) else none) (K := fun σ2 => sL_law_297 n r28 3 4 125 131 132 (Int32.ofNat (5 * c)) σ2)
  · exact (zaS_e (q := 1) L1 (show 5 * c + 1 < L by omega) hL).trans ((zaS_e (q := 2) L1 (show 5 * c + 2 < L by omega) hL).trans ((zaS_e (q := 3) L1 (show 5 * c + 3 < L by omega) hL).trans rfl))
  · unfold sL_law_297
    rfl
theorem lg_300 (h : JJ σ S c L xs) (hL : L ≤ 2560) (hi : 5 * c + 4 < L) (hcc : c ≤ 512) (hn : 30000 < n) : NXT r28 c L xs (sL_law_300 n r28 3 4 125 131 132 (Int32.ofNat (5 * c)) σ) := by
  have hO := o_lot (n := n) h.2.1 ⟨h.1.2.2.2.1, h.1.2.2.2.2.1⟩ h.2.2.2.1 hcc hn (xs (5 * c + 1)) (xs (5 * c + 2))
  unfold sL_law_300
  refine NXT.e (zaS_e (q := 1) h.1 (show 5 * c + 1 < L by omega) hL) ?_
  refine NXT.e (zaS_e (q := 2) h.1 (show 5 * c + 2 < L by omega) hL) ?_
  refine lgO (n := n) hO h (fun k σ1 L1 => ?_) (fun σ2 => ?_) (E := fun σ2 => if 0 = 0 ∨ 0 = 1 then some (0, σ2) else none) (K := fun σ2 => sL_law_365 n r28 3 4 125 131 132 (Int32.ofNat (5 * c)) σ2)
  · exact (zaS_e (q := 1) L1 (show 5 * c + 1 < L by omega) hL).trans ((zaS_e (q := 2) L1 (show 5 * c + 2 < L by omega) hL).trans rfl)
  · unfold sL_law_365
    rfl
theorem lg_368 (h : JJ σ S c L xs) (hL : L ≤ 2560) (hi : 5 * c + 4 < L) (hcc : c ≤ 512) (hn : 30000 < n) : NXT r28 c L xs (sL_law_368 n r28 3 4 125 131 132 (Int32.ofNat (5 * c)) σ) := by
  have hO := o_lots (n := n) h.2.1 ⟨h.1.2.2.2.1, h.1.2.2.2.2.1⟩ h.2.2.2.1 hcc hn (xs (5 * c + 1))
  unfold sL_law_368
  refine NXT.e (zaS_e (q := 1) h.1 (show 5 * c + 1 < L by omega) hL) ?_
  refine lgO (n := n) hO h (fun k σ1 L1 => ?_) (fun σ2 => ?_) (E := fun σ2 => if 0 = 0 ∨ 0 = 1 then some (0, σ2) else none) (K := fun σ2 => sL_law_421 n r28 3 4 125 131 132 (Int32.ofNat (5 * c)) σ2)
  · exact (zaS_e (q := 1) L1 (show 5 * c + 1 < L by omega) hL).trans rfl
  · unfold sL_law_421
    rfl
theorem lg_424 (h : JJ σ S c L xs) (hL : L ≤ 2560) (hi : 5 * c + 4 < L) (hcc : c ≤ 512) (hn : 30000 < n) : NXT r28 c L xs (sL_law_424 n r28 3 4 125 131 132 (Int32.ofNat (5 * c)) σ) := by
  have hO := o_setRows (n := n) h.2.1 ⟨h.1.2.2.2.1, h.1.2.2.2.2.1⟩ h.2.2.2.1 hcc hn (xs (5 * c + 1)) (xs (5 * c + 2)) (xs (5 * c + 3))
  unfold sL_law_424
  refine NXT.e (zaS_e (q := 1) h.1 (show 5 * c + 1 < L by omega) hL) ?_
  refine NXT.e (zaS_e (q := 2) h.1 (show 5 * c + 2 < L by omega) hL) ?_
  refine NXT.e (zaS_e (q := 3) h.1 (show 5 * c + 3 < L by omega) hL) ?_
  refine lgO (n := n) hO h (fun k σ1 L1 => ?_) (fun σ2 => ?_) (E := fun σ2 => if 0 = 0 ∨ 0 = 1 then some (0, σ2) else none) (K := fun σ2 => sL_law_501 n r28 3 4 125 131 132 (Int32.ofNat (5 * c)) σ2)
  · exact (zaS_e (q := 1) L1 (show 5 * c + 1 < L by omega) hL).trans ((zaS_e (q := 2) L1 (show 5 * c + 2 < L by omega) hL).trans ((zaS_e (q := 3) L1 (show 5 * c + 3 < L by omega) hL).trans rfl))
  · unfold sL_law_501
    rfl
theorem lg_504 (h : JJ σ S c L xs) (hL : L ≤ 2560) (hi : 5 * c + 4 < L) (hcc : c ≤ 512) (hn : 30000 < n) : NXT r28 c L xs (sL_law_504 n r28 3 4 125 131 132 (Int32.ofNat (5 * c)) σ) := by
  have hO := o_row (n := n) h.2.1 ⟨h.1.2.2.2.1, h.1.2.2.2.2.1⟩ h.2.2.2.1 hcc hn (xs (5 * c + 1)) (xs (5 * c + 2))
  unfold sL_law_504
  refine NXT.e (zaS_e (q := 1) h.1 (show 5 * c + 1 < L by omega) hL) ?_
  refine NXT.e (zaS_e (q := 2) h.1 (show 5 * c + 2 < L by omega) hL) ?_
  refine lgO (n := n) hO h (fun k σ1 L1 => ?_) (fun σ2 => ?_) (E := fun σ2 => if 0 = 0 ∨ 0 = 1 then some (0, σ2) else none) (K := fun σ2 => sL_law_569 n r28 3 4 125 131 132 (Int32.ofNat (5 * c)) σ2)
  · exact (zaS_e (q := 1) L1 (show 5 * c + 1 < L by omega) hL).trans ((zaS_e (q := 2) L1 (show 5 * c + 2 < L by omega) hL).trans rfl)
  · unfold sL_law_569
    rfl
theorem lg_572 (h : JJ σ S c L xs) (hL : L ≤ 2560) (hi : 5 * c + 4 < L) (hcc : c ≤ 512) (hn : 30000 < n) : NXT r28 c L xs (sL_law_572 n r28 3 4 125 131 132 (Int32.ofNat (5 * c)) σ) := by
  have hO := o_step (n := n) h.2.1 ⟨h.1.2.2.2.1, h.1.2.2.2.2.1⟩ h.2.2.2.1 hcc hn (xs (5 * c + 1))
  unfold sL_law_572
  refine NXT.e (zaS_e (q := 1) h.1 (show 5 * c + 1 < L by omega) hL) ?_
  refine lgO (n := n) hO h (fun k σ1 L1 => ?_) (fun σ2 => ?_) (E := fun σ2 => if 0 = 0 ∨ 0 = 1 then some (0, σ2) else none) (K := fun σ2 => sL_law_625 n r28 3 4 125 131 132 (Int32.ofNat (5 * c)) σ2)
  · exact (zaS_e (q := 1) L1 (show 5 * c + 1 < L by omega) hL).trans rfl
  · unfold sL_law_625
    rfl
theorem lg_628 (h : JJ σ S c L xs) (hL : L ≤ 2560) (hi : 5 * c + 4 < L) (hcc : c ≤ 512) (hn : 30000 < n) : NXT r28 c L xs (sL_law_628 n r28 3 4 125 131 132 (Int32.ofNat (5 * c)) σ) := by
  have hO := o_nextStep (n := n) h.2.1 ⟨h.1.2.2.2.1, h.1.2.2.2.2.1⟩ h.2.2.2.1 hcc hn (xs (5 * c + 1))
  unfold sL_law_628
  refine NXT.e (zaS_e (q := 1) h.1 (show 5 * c + 1 < L by omega) hL) ?_
  refine lgO (n := n) hO h (fun k σ1 L1 => ?_) (fun σ2 => ?_) (E := fun σ2 => if 0 = 0 ∨ 0 = 1 then some (0, σ2) else none) (K := fun σ2 => sL_law_681 n r28 3 4 125 131 132 (Int32.ofNat (5 * c)) σ2)
  · exact (zaS_e (q := 1) L1 (show 5 * c + 1 < L by omega) hL).trans rfl
  · unfold sL_law_681
    rfl
theorem lg_684 (h : JJ σ S c L xs) (hL : L ≤ 2560) (hi : 5 * c + 4 < L) (hcc : c ≤ 512) (hn : 30000 < n) : NXT r28 c L xs (sL_law_684 n r28 3 4 125 131 132 (Int32.ofNat (5 * c)) σ) := by
  have hO := o_setCredit (n := n) h.2.1 ⟨h.1.2.2.2.1, h.1.2.2.2.2.1⟩ h.2.2.2.1 hcc hn (xs (5 * c + 1)) (xs (5 * c + 2))
  unfold sL_law_684
  refine NXT.e (zaS_e (q := 1) h.1 (show 5 * c + 1 < L by omega) hL) ?_
  refine NXT.e (zaS_e (q := 2) h.1 (show 5 * c + 2 < L by omega) hL) ?_
  refine lgO (n := n) hO h (fun k σ1 L1 => ?_) (fun σ2 => ?_) (E := fun σ2 => if 0 = 0 ∨ 0 = 1 then some (0, σ2) else none) (K := fun σ2 => sL_law_749 n r28 3 4 125 131 132 (Int32.ofNat (5 * c)) σ2)
  · exact (zaS_e (q := 1) L1 (show 5 * c + 1 < L by omega) hL).trans ((zaS_e (q := 2) L1 (show 5 * c + 2 < L by omega) hL).trans rfl)
  · unfold sL_law_749
    rfl
theorem lg_752 (h : JJ σ S c L xs) (hL : L ≤ 2560) (hi : 5 * c + 4 < L) (hcc : c ≤ 512) (hn : 30000 < n) : NXT r28 c L xs (sL_law_752 n r28 3 4 125 131 132 (Int32.ofNat (5 * c)) σ) := by
  have hO := o_order (n := n) h.2.1 ⟨h.1.2.2.2.1, h.1.2.2.2.2.1⟩ h.2.2.2.1 hcc hn (xs (5 * c + 1)) (xs (5 * c + 2)) (xs (5 * c + 3))
  unfold sL_law_752
  refine NXT.e (zaS_e (q := 1) h.1 (show 5 * c + 1 < L by omega) hL) ?_
  refine NXT.e (zaS_e (q := 2) h.1 (show 5 * c + 2 < L by omega) hL) ?_
  refine NXT.e (zaS_e (q := 3) h.1 (show 5 * c + 3 < L by omega) hL) ?_
  refine lgO (n := n) hO h (fun k σ1 L1 => ?_) (fun σ2 => ?_) (E := fun σ2 => if 0 = 0 ∨ 0 = 1 then some (0, σ2) else none) (K := fun σ2 => sL_law_829 n r28 3 4 125 131 132 (Int32.ofNat (5 * c)) σ2)
  · exact (zaS_e (q := 1) L1 (show 5 * c + 1 < L by omega) hL).trans ((zaS_e (q := 2) L1 (show 5 * c + 2 < L by omega) hL).trans ((zaS_e (q := 3) L1 (show 5 * c + 3 < L by omega) hL).trans rfl))
  · unfold sL_law_829
    rfl
theorem lg_832 (h : JJ σ S c L xs) (hL : L ≤ 2560) (hi : 5 * c + 4 < L) (hcc : c ≤ 512) (hn : 30000 < n) : NXT r28 c L xs (sL_law_832 n r28 3 4 125 131 132 (Int32.ofNat (5 * c)) σ) := by
  have hO := o_cancel (n := n) h.2.1 ⟨h.1.2.2.2.1, h.1.2.2.2.2.1⟩ h.2.2.2.1 hcc hn (xs (5 * c + 1)) (xs (5 * c + 2))
  unfold sL_law_832
  refine NXT.e (zaS_e (q := 1) h.1 (show 5 * c + 1 < L by omega) hL) ?_
  refine NXT.e (zaS_e (q := 2) h.1 (show 5 * c + 2 < L by omega) hL) ?_
  refine lgO (n := n) hO h (fun k σ1 L1 => ?_) (fun σ2 => ?_) (E := fun σ2 => if 0 = 0 ∨ 0 = 1 then some (0, σ2) else none) (K := fun σ2 => sL_law_897 n r28 3 4 125 131 132 (Int32.ofNat (5 * c)) σ2)
  · exact (zaS_e (q := 1) L1 (show 5 * c + 1 < L by omega) hL).trans ((zaS_e (q := 2) L1 (show 5 * c + 2 < L by omega) hL).trans rfl)
  · unfold sL_law_897
    rfl
theorem lg_900 (h : JJ σ S c L xs) (hL : L ≤ 2560) (hi : 5 * c + 4 < L) (hcc : c ≤ 512) (hn : 30000 < n) : NXT r28 c L xs (sL_law_900 n r28 3 4 125 131 132 (Int32.ofNat (5 * c)) σ) := by
  have hO := o_maximum (n := n) h.2.1 ⟨h.1.2.2.2.1, h.1.2.2.2.2.1⟩ h.2.2.2.1 hcc hn (xs (5 * c + 1)) (xs (5 * c + 2))
  unfold sL_law_900
  refine NXT.e (zaS_e (q := 1) h.1 (show 5 * c + 1 < L by omega) hL) ?_
  refine NXT.e (zaS_e (q := 2) h.1 (show 5 * c + 2 < L by omega) hL) ?_
  refine lgO (n := n) hO h (fun k σ1 L1 => ?_) (fun σ2 => ?_) (E := fun σ2 => if 0 = 0 ∨ 0 = 1 then some (0, σ2) else none) (K := fun σ2 => sL_law_965 n r28 3 4 125 131 132 (Int32.ofNat (5 * c)) σ2)
  · exact (zaS_e (q := 1) L1 (show 5 * c + 1 < L by omega) hL).trans ((zaS_e (q := 2) L1 (show 5 * c + 2 < L by omega) hL).trans rfl)
  · unfold sL_law_965
    rfl
theorem lg_968 (h : JJ σ S c L xs) (hL : L ≤ 2560) (hi : 5 * c + 4 < L) (hcc : c ≤ 512) (hn : 30000 < n) : NXT r28 c L xs (sL_law_968 n r28 3 4 125 131 132 (Int32.ofNat (5 * c)) σ) := by
  have hO := o_orders (n := n) h.2.1 ⟨h.1.2.2.2.1, h.1.2.2.2.2.1⟩ h.2.2.2.1 hcc hn (xs (5 * c + 1))
  unfold sL_law_968
  refine NXT.e (zaS_e (q := 1) h.1 (show 5 * c + 1 < L by omega) hL) ?_
  refine lgO (n := n) hO h (fun k σ1 L1 => ?_) (fun σ2 => ?_) (E := fun σ2 => if 0 = 0 ∨ 0 = 1 then some (0, σ2) else none) (K := fun σ2 => sL_law_1021 n r28 3 4 125 131 132 (Int32.ofNat (5 * c)) σ2)
  · exact (zaS_e (q := 1) L1 (show 5 * c + 1 < L by omega) hL).trans rfl
  · unfold sL_law_1021
    rfl
theorem lg_1024 (h : JJ σ S c L xs) (hL : L ≤ 2560) (hi : 5 * c + 4 < L) (hcc : c ≤ 512) (hn : 30000 < n) : NXT r28 c L xs (sL_law_1024 n r28 3 4 125 131 132 (Int32.ofNat (5 * c)) σ) := by
  have hO := o_open (n := n) h.2.1 ⟨h.1.2.2.2.1, h.1.2.2.2.2.1⟩ h.2.2.2.1 hcc hn (xs (5 * c + 1))
  unfold sL_law_1024
  refine NXT.e (zaS_e (q := 1) h.1 (show 5 * c + 1 < L by omega) hL) ?_
  refine lgO (n := n) hO h (fun k σ1 L1 => ?_) (fun σ2 => ?_) (E := fun σ2 => if 0 = 0 ∨ 0 = 1 then some (0, σ2) else none) (K := fun σ2 => sL_law_1077 n r28 3 4 125 131 132 (Int32.ofNat (5 * c)) σ2)
  · exact (zaS_e (q := 1) L1 (show 5 * c + 1 < L by omega) hL).trans rfl
  · unfold sL_law_1077
    rfl
theorem lg_1080 (h : JJ σ S c L xs) (hL : L ≤ 2560) (hi : 5 * c + 4 < L) (hcc : c ≤ 512) (hn : 30000 < n) : NXT r28 c L xs (sL_law_1080 n r28 3 4 125 131 132 (Int32.ofNat (5 * c)) σ) := by
  have hO := o_bid (n := n) h.2.1 ⟨h.1.2.2.2.1, h.1.2.2.2.2.1⟩ h.2.2.2.1 hcc hn (xs (5 * c + 1)) (xs (5 * c + 2)) (xs (5 * c + 3))
  unfold sL_law_1080
  refine NXT.e (zaS_e (q := 1) h.1 (show 5 * c + 1 < L by omega) hL) ?_
  refine NXT.e (zaS_e (q := 2) h.1 (show 5 * c + 2 < L by omega) hL) ?_
  refine NXT.e (zaS_e (q := 3) h.1 (show 5 * c + 3 < L by omega) hL) ?_
  refine lgO (n := n) hO h (fun k σ1 L1 => ?_) (fun σ2 => ?_) (E := fun σ2 => if 0 = 0 ∨ 0 = 1 then some (0, σ2) else none) (K := fun σ2 => sL_law_1157 n r28 3 4 125 131 132 (Int32.ofNat (5 * c)) σ2)
  · exact (zaS_e (q := 1) L1 (show 5 * c + 1 < L by omega) hL).trans ((zaS_e (q := 2) L1 (show 5 * c + 2 < L by omega) hL).trans ((zaS_e (q := 3) L1 (show 5 * c + 3 < L by omega) hL).trans rfl))
  · unfold sL_law_1157
    rfl
theorem lg_1160 (h : JJ σ S c L xs) (hL : L ≤ 2560) (hi : 5 * c + 4 < L) (hcc : c ≤ 512) (hn : 30000 < n) : NXT r28 c L xs (sL_law_1160 n r28 3 4 125 131 132 (Int32.ofNat (5 * c)) σ) := by
  have hO := o_refusal (n := n) h.2.1 ⟨h.1.2.2.2.1, h.1.2.2.2.2.1⟩ h.2.2.2.1 hcc hn
  unfold sL_law_1160
  refine lgO (n := n) hO h (fun k σ1 L1 => ?_) (fun σ2 => ?_) (E := fun σ2 => if 0 = 0 ∨ 0 = 1 then some (0, σ2) else none) (K := fun σ2 => sL_law_1201 n r28 3 4 125 131 132 (Int32.ofNat (5 * c)) σ2)
  · exact rfl
  · unfold sL_law_1201
    rfl
theorem lg_1312 (h : JJ σ S c L xs) (hL : L ≤ 2560) (hi : 5 * c + 4 < L) (hcc : c ≤ 512) (hn : 30000 < n) : NXT r28 c L xs (sL_law_1312 n r28 3 4 125 131 132 (Int32.ofNat (5 * c)) σ) := by
  have hO := o_standing (n := n) h.2.1 ⟨h.1.2.2.2.1, h.1.2.2.2.2.1⟩ h.2.2.2.1 hcc hn (xs (5 * c + 1)) (xs (5 * c + 2))
  unfold sL_law_1312
  refine NXT.e (zaS_e (q := 1) h.1 (show 5 * c + 1 < L by omega) hL) ?_
  refine NXT.e (zaS_e (q := 2) h.1 (show 5 * c + 2 < L by omega) hL) ?_
  refine lgO (n := n) hO h (fun k σ1 L1 => ?_) (fun σ2 => ?_) (E := fun σ2 => if 0 = 0 ∨ 0 = 1 then some (0, σ2) else none) (K := fun σ2 => sL_law_1377 n r28 3 4 125 131 132 (Int32.ofNat (5 * c)) σ2)
  · exact (zaS_e (q := 1) L1 (show 5 * c + 1 < L by omega) hL).trans ((zaS_e (q := 2) L1 (show 5 * c + 2 < L by omega) hL).trans rfl)
  · unfold sL_law_1377
    rfl
theorem lg_1380 (h : JJ σ S c L xs) (hL : L ≤ 2560) (hi : 5 * c + 4 < L) (hcc : c ≤ 512) (hn : 30000 < n) : NXT r28 c L xs (sL_law_1380 n r28 3 4 125 131 132 (Int32.ofNat (5 * c)) σ) := by
  have hO := o_limit (n := n) h.2.1 ⟨h.1.2.2.2.1, h.1.2.2.2.2.1⟩ h.2.2.2.1 hcc hn (xs (5 * c + 1)) (xs (5 * c + 2)) (xs (5 * c + 3))
  unfold sL_law_1380
  refine NXT.e (zaS_e (q := 1) h.1 (show 5 * c + 1 < L by omega) hL) ?_
  refine NXT.e (zaS_e (q := 2) h.1 (show 5 * c + 2 < L by omega) hL) ?_
  refine NXT.e (zaS_e (q := 3) h.1 (show 5 * c + 3 < L by omega) hL) ?_
  refine lgO (n := n) hO h (fun k σ1 L1 => ?_) (fun σ2 => ?_) (E := fun σ2 => if 0 = 0 ∨ 0 = 1 then some (0, σ2) else none) (K := fun σ2 => sL_law_1457 n r28 3 4 125 131 132 (Int32.ofNat (5 * c)) σ2)
  · exact (zaS_e (q := 1) L1 (show 5 * c + 1 < L by omega) hL).trans ((zaS_e (q := 2) L1 (show 5 * c + 2 < L by omega) hL).trans ((zaS_e (q := 3) L1 (show 5 * c + 3 < L by omega) hL).trans rfl))
  · unfold sL_law_1457
    rfl
theorem lg_1460 (h : JJ σ S c L xs) (hL : L ≤ 2560) (hi : 5 * c + 4 < L) (hcc : c ≤ 512) (hn : 30000 < n) : NXT r28 c L xs (sL_law_1460 n r28 3 4 125 131 132 (Int32.ofNat (5 * c)) σ) := by
  have hO := o_priceIf (n := n) h.2.1 ⟨h.1.2.2.2.1, h.1.2.2.2.2.1⟩ h.2.2.2.1 hcc hn (xs (5 * c + 1)) (xs (5 * c + 2)) (xs (5 * c + 3))
  unfold sL_law_1460
  refine NXT.e (zaS_e (q := 1) h.1 (show 5 * c + 1 < L by omega) hL) ?_
  refine NXT.e (zaS_e (q := 2) h.1 (show 5 * c + 2 < L by omega) hL) ?_
  refine NXT.e (zaS_e (q := 3) h.1 (show 5 * c + 3 < L by omega) hL) ?_
  refine lgO (n := n) hO h (fun k σ1 L1 => ?_) (fun σ2 => ?_) (E := fun σ2 => if 0 = 0 ∨ 0 = 1 then some (0, σ2) else none) (K := fun σ2 => sL_law_1537 n r28 3 4 125 131 132 (Int32.ofNat (5 * c)) σ2)
  · exact (zaS_e (q := 1) L1 (show 5 * c + 1 < L by omega) hL).trans ((zaS_e (q := 2) L1 (show 5 * c + 2 < L by omega) hL).trans ((zaS_e (q := 3) L1 (show 5 * c + 3 < L by omega) hL).trans rfl))
  · unfold sL_law_1537
    rfl
theorem lg_1540 (h : JJ σ S c L xs) (hL : L ≤ 2560) (hi : 5 * c + 4 < L) (hcc : c ≤ 512) (hn : 30000 < n) : NXT r28 c L xs (sL_law_1540 n r28 3 4 125 131 132 (Int32.ofNat (5 * c)) σ) := by
  have hO := o_close (n := n) h.2.1 ⟨h.1.2.2.2.1, h.1.2.2.2.2.1⟩ h.2.2.2.1 hcc hn (xs (5 * c + 1))
  unfold sL_law_1540
  refine NXT.e (zaS_e (q := 1) h.1 (show 5 * c + 1 < L by omega) hL) ?_
  refine lgO (n := n) hO h (fun k σ1 L1 => ?_) (fun σ2 => ?_) (E := fun σ2 => if 0 = 0 ∨ 0 = 1 then some (0, σ2) else none) (K := fun σ2 => sL_law_1593 n r28 3 4 125 131 132 (Int32.ofNat (5 * c)) σ2)
  · exact (zaS_e (q := 1) L1 (show 5 * c + 1 < L by omega) hL).trans rfl
  · unfold sL_law_1593
    rfl
theorem lg_1596 (h : JJ σ S c L xs) (hL : L ≤ 2560) (hi : 5 * c + 4 < L) (hcc : c ≤ 512) (hn : 30000 < n) : NXT r28 c L xs (sL_law_1596 n r28 3 4 125 131 132 (Int32.ofNat (5 * c)) σ) := by
  have hO := o_withdraw (n := n) h.2.1 ⟨h.1.2.2.2.1, h.1.2.2.2.2.1⟩ h.2.2.2.1 hcc hn (xs (5 * c + 1))
  unfold sL_law_1596
  refine NXT.e (zaS_e (q := 1) h.1 (show 5 * c + 1 < L by omega) hL) ?_
  refine lgO (n := n) hO h (fun k σ1 L1 => ?_) (fun σ2 => ?_) (E := fun σ2 => if 0 = 0 ∨ 0 = 1 then some (0, σ2) else none) (K := fun σ2 => sL_law_1649 n r28 3 4 125 131 132 (Int32.ofNat (5 * c)) σ2)
  · exact (zaS_e (q := 1) L1 (show 5 * c + 1 < L by omega) hL).trans rfl
  · unfold sL_law_1649
    rfl
theorem lg_1652 (h : JJ σ S c L xs) (hL : L ≤ 2560) (hi : 5 * c + 4 < L) (hcc : c ≤ 512) (hn : 30000 < n) : NXT r28 c L xs (sL_law_1652 n r28 3 4 125 131 132 (Int32.ofNat (5 * c)) σ) := by
  have hO := o_offer (n := n) h.2.1 ⟨h.1.2.2.2.1, h.1.2.2.2.2.1⟩ h.2.2.2.1 hcc hn (xs (5 * c + 1)) (xs (5 * c + 2))
  unfold sL_law_1652
  refine NXT.e (zaS_e (q := 1) h.1 (show 5 * c + 1 < L by omega) hL) ?_
  refine NXT.e (zaS_e (q := 2) h.1 (show 5 * c + 2 < L by omega) hL) ?_
  refine lgO (n := n) hO h (fun k σ1 L1 => ?_) (fun σ2 => ?_) (E := fun σ2 => if 0 = 0 ∨ 0 = 1 then some (0, σ2) else none) (K := fun σ2 => sL_law_1717 n r28 3 4 125 131 132 (Int32.ofNat (5 * c)) σ2)
  · exact (zaS_e (q := 1) L1 (show 5 * c + 1 < L by omega) hL).trans ((zaS_e (q := 2) L1 (show 5 * c + 2 < L by omega) hL).trans rfl)
  · unfold sL_law_1717
    rfl
theorem lg_1720 (h : JJ σ S c L xs) (hL : L ≤ 2560) (hi : 5 * c + 4 < L) (hcc : c ≤ 512) (hn : 30000 < n) : NXT r28 c L xs (sL_law_1720 n r28 3 4 125 131 132 (Int32.ofNat (5 * c)) σ) := by
  have hO := o_split (n := n) h.2.1 ⟨h.1.2.2.2.1, h.1.2.2.2.2.1⟩ h.2.2.2.1 hcc hn (xs (5 * c + 1)) (xs (5 * c + 2))
  unfold sL_law_1720
  refine NXT.e (zaS_e (q := 1) h.1 (show 5 * c + 1 < L by omega) hL) ?_
  refine NXT.e (zaS_e (q := 2) h.1 (show 5 * c + 2 < L by omega) hL) ?_
  refine lgO (n := n) hO h (fun k σ1 L1 => ?_) (fun σ2 => ?_) (E := fun σ2 => if 0 = 0 ∨ 0 = 1 then some (0, σ2) else none) (K := fun σ2 => sL_law_1785 n r28 3 4 125 131 132 (Int32.ofNat (5 * c)) σ2)
  · exact (zaS_e (q := 1) L1 (show 5 * c + 1 < L by omega) hL).trans ((zaS_e (q := 2) L1 (show 5 * c + 2 < L by omega) hL).trans rfl)
  · unfold sL_law_1785
    rfl
theorem lg_1788 (h : JJ σ S c L xs) (hL : L ≤ 2560) (hi : 5 * c + 4 < L) (hcc : c ≤ 512) (hn : 30000 < n) : NXT r28 c L xs (sL_law_1788 n r28 3 4 125 131 132 (Int32.ofNat (5 * c)) σ) := by
  have hO := o_group (n := n) h.2.1 ⟨h.1.2.2.2.1, h.1.2.2.2.2.1⟩ h.2.2.2.1 hcc hn (xs (5 * c + 1)) (xs (5 * c + 2))
  unfold sL_law_1788
  refine NXT.e (zaS_e (q := 1) h.1 (show 5 * c + 1 < L by omega) hL) ?_
  refine NXT.e (zaS_e (q := 2) h.1 (show 5 * c + 2 < L by omega) hL) ?_
  refine lgO (n := n) hO h (fun k σ1 L1 => ?_) (fun σ2 => ?_) (E := fun σ2 => if 0 = 0 ∨ 0 = 1 then some (0, σ2) else none) (K := fun σ2 => sL_law_1853 n r28 3 4 125 131 132 (Int32.ofNat (5 * c)) σ2)
  · exact (zaS_e (q := 1) L1 (show 5 * c + 1 < L by omega) hL).trans ((zaS_e (q := 2) L1 (show 5 * c + 2 < L by omega) hL).trans rfl)
  · unfold sL_law_1853
    rfl
theorem lg_1856 (h : JJ σ S c L xs) (hL : L ≤ 2560) (hi : 5 * c + 4 < L) (hcc : c ≤ 512) (hn : 30000 < n) : NXT r28 c L xs (sL_law_1856 n r28 3 4 125 131 132 (Int32.ofNat (5 * c)) σ) := by
  have hO := o_why (n := n) h.2.1 ⟨h.1.2.2.2.1, h.1.2.2.2.2.1⟩ h.2.2.2.1 hcc hn (xs (5 * c + 1))
  unfold sL_law_1856
  refine NXT.e (zaS_e (q := 1) h.1 (show 5 * c + 1 < L by omega) hL) ?_
  refine lgO (n := n) hO h (fun k σ1 L1 => ?_) (fun σ2 => ?_) (E := fun σ2 => if 0 = 0 ∨ 0 = 1 then some (0, σ2) else none) (K := fun σ2 => sL_law_1909 n r28 3 4 125 131 132 (Int32.ofNat (5 * c)) σ2)
  · exact (zaS_e (q := 1) L1 (show 5 * c + 1 < L by omega) hL).trans rfl
  · unfold sL_law_1909
    rfl
theorem lg_1996 (h : JJ σ S c L xs) (hL : L ≤ 2560) (hi : 5 * c + 4 < L) (hcc : c ≤ 512) (hn : 30000 < n) : NXT r28 c L xs (sL_law_1996 n r28 3 4 125 131 132 (Int32.ofNat (5 * c)) σ) := by
  have hO := o_premium (n := n) h.2.1 ⟨h.1.2.2.2.1, h.1.2.2.2.2.1⟩ h.2.2.2.1 hcc hn (xs (5 * c + 1))
  unfold sL_law_1996
  refine NXT.e (zaS_e (q := 1) h.1 (show 5 * c + 1 < L by omega) hL) ?_
  refine lgO (n := n) hO h (fun k σ1 L1 => ?_) (fun σ2 => ?_) (E := fun σ2 => if 0 = 0 ∨ 0 = 1 then some (0, σ2) else none) (K := fun σ2 => sL_law_2049 n r28 3 4 125 131 132 (Int32.ofNat (5 * c)) σ2)
  · exact (zaS_e (q := 1) L1 (show 5 * c + 1 < L by omega) hL).trans rfl
  · unfold sL_law_2049
    rfl
theorem lg_2052 (h : JJ σ S c L xs) (hL : L ≤ 2560) (hi : 5 * c + 4 < L) (hcc : c ≤ 512) (hn : 30000 < n) : NXT r28 c L xs (sL_law_2052 n r28 3 4 125 131 132 (Int32.ofNat (5 * c)) σ) := by
  have hO := o_bidder (n := n) h.2.1 ⟨h.1.2.2.2.1, h.1.2.2.2.2.1⟩ h.2.2.2.1 hcc hn (xs (5 * c + 1)) (xs (5 * c + 2))
  unfold sL_law_2052
  refine NXT.e (zaS_e (q := 1) h.1 (show 5 * c + 1 < L by omega) hL) ?_
  refine NXT.e (zaS_e (q := 2) h.1 (show 5 * c + 2 < L by omega) hL) ?_
  refine lgO (n := n) hO h (fun k σ1 L1 => ?_) (fun σ2 => ?_) (E := fun σ2 => if 0 = 0 ∨ 0 = 1 then some (0, σ2) else none) (K := fun σ2 => sL_law_2117 n r28 3 4 125 131 132 (Int32.ofNat (5 * c)) σ2)
  · exact (zaS_e (q := 1) L1 (show 5 * c + 1 < L by omega) hL).trans ((zaS_e (q := 2) L1 (show 5 * c + 2 < L by omega) hL).trans rfl)
  · unfold sL_law_2117
    rfl
theorem lg_2120 (h : JJ σ S c L xs) (hL : L ≤ 2560) (hi : 5 * c + 4 < L) (hcc : c ≤ 512) (hn : 30000 < n) : NXT r28 c L xs (sL_law_2120 n r28 3 4 125 131 132 (Int32.ofNat (5 * c)) σ) := by
  have hO := o_seller (n := n) h.2.1 ⟨h.1.2.2.2.1, h.1.2.2.2.2.1⟩ h.2.2.2.1 hcc hn (xs (5 * c + 1)) (xs (5 * c + 2))
  unfold sL_law_2120
  refine NXT.e (zaS_e (q := 1) h.1 (show 5 * c + 1 < L by omega) hL) ?_
  refine NXT.e (zaS_e (q := 2) h.1 (show 5 * c + 2 < L by omega) hL) ?_
  refine lgO (n := n) hO h (fun k σ1 L1 => ?_) (fun σ2 => ?_) (E := fun σ2 => if 0 = 0 ∨ 0 = 1 then some (0, σ2) else none) (K := fun σ2 => sL_law_2185 n r28 3 4 125 131 132 (Int32.ofNat (5 * c)) σ2)
  · exact (zaS_e (q := 1) L1 (show 5 * c + 1 < L by omega) hL).trans ((zaS_e (q := 2) L1 (show 5 * c + 2 < L by omega) hL).trans rfl)
  · unfold sL_law_2185
    rfl
theorem lg_2188 (h : JJ σ S c L xs) (hL : L ≤ 2560) (hi : 5 * c + 4 < L) (hcc : c ≤ 512) (hn : 30000 < n) : NXT r28 c L xs (sL_law_2188 n r28 3 4 125 131 132 (Int32.ofNat (5 * c)) σ) := by
  have hO := o_house (n := n) h.2.1 ⟨h.1.2.2.2.1, h.1.2.2.2.2.1⟩ h.2.2.2.1 hcc hn (xs (5 * c + 1))
  unfold sL_law_2188
  refine NXT.e (zaS_e (q := 1) h.1 (show 5 * c + 1 < L by omega) hL) ?_
  refine lgO (n := n) hO h (fun k σ1 L1 => ?_) (fun σ2 => ?_) (E := fun σ2 => if 0 = 0 ∨ 0 = 1 then some (0, σ2) else none) (K := fun σ2 => sL_law_2241 n r28 3 4 125 131 132 (Int32.ofNat (5 * c)) σ2)
  · exact (zaS_e (q := 1) L1 (show 5 * c + 1 < L by omega) hL).trans rfl
  · unfold sL_law_2241
    rfl
theorem lg_2309 (h : JJ σ S c L xs) (hL : L ≤ 2560) (hi : 5 * c + 4 < L) (hcc : c ≤ 512) (hn : 30000 < n) : NXT r28 c L xs (sL_law_2309 n r28 3 4 125 131 132 (Int32.ofNat (5 * c)) σ) := by
  have hO := o_events (n := n) h.2.1 ⟨h.1.2.2.2.1, h.1.2.2.2.2.1⟩ h.2.2.2.1 hcc hn (xs (5 * c + 1))
  unfold sL_law_2309
  refine NXT.e (zaS_e (q := 1) h.1 (show 5 * c + 1 < L by omega) hL) ?_
  refine lgO (n := n) hO h (fun k σ1 L1 => ?_) (fun σ2 => ?_) (E := fun σ2 => if 0 = 0 ∨ 0 = 1 then some (0, σ2) else none) (K := fun σ2 => sL_law_2362 n r28 3 4 125 131 132 (Int32.ofNat (5 * c)) σ2)
  · exact (zaS_e (q := 1) L1 (show 5 * c + 1 < L by omega) hL).trans rfl
  · unfold sL_law_2362
    rfl
theorem lg_2365 (h : JJ σ S c L xs) (hL : L ≤ 2560) (hi : 5 * c + 4 < L) (hcc : c ≤ 512) (hn : 30000 < n) : NXT r28 c L xs (sL_law_2365 n r28 3 4 125 131 132 (Int32.ofNat (5 * c)) σ) := by
  have hO := o_event (n := n) h.2.1 ⟨h.1.2.2.2.1, h.1.2.2.2.2.1⟩ h.2.2.2.1 hcc hn (xs (5 * c + 1)) (xs (5 * c + 2))
  unfold sL_law_2365
  refine NXT.e (zaS_e (q := 1) h.1 (show 5 * c + 1 < L by omega) hL) ?_
  refine NXT.e (zaS_e (q := 2) h.1 (show 5 * c + 2 < L by omega) hL) ?_
  refine lgO (n := n) hO h (fun k σ1 L1 => ?_) (fun σ2 => ?_) (E := fun σ2 => if 0 = 0 ∨ 0 = 1 then some (0, σ2) else none) (K := fun σ2 => sL_law_2430 n r28 3 4 125 131 132 (Int32.ofNat (5 * c)) σ2)
  · exact (zaS_e (q := 1) L1 (show 5 * c + 1 < L by omega) hL).trans ((zaS_e (q := 2) L1 (show 5 * c + 2 < L by omega) hL).trans rfl)
  · unfold sL_law_2430
    rfl
theorem lg_2484 (h : JJ σ S c L xs) (hL : L ≤ 2560) (hi : 5 * c + 4 < L) (hcc : c ≤ 512) (hn : 30000 < n) : NXT r28 c L xs (sL_law_2484 n r28 3 4 125 131 132 (Int32.ofNat (5 * c)) σ) := by
  have hO := o_read (n := n) h.2.1 ⟨h.1.2.2.2.1, h.1.2.2.2.2.1⟩ h.2.2.2.1 hcc hn h.2.2.2.2
  unfold sL_law_2484
  refine lgO (n := n) hO h (fun k σ1 L1 => ?_) (fun σ2 => ?_) (E := fun σ2 => if 0 = 0 ∨ 0 = 1 then some (0, σ2) else none) (K := fun σ2 => sL_law_2525 n r28 3 4 125 131 132 (Int32.ofNat (5 * c)) σ2)
  · exact rfl
  · unfold sL_law_2525
    rfl
theorem lg_2541 (h : JJ σ S c L xs) (hL : L ≤ 2560) (hi : 5 * c + 4 < L) (hcc : c ≤ 512) (hn : 30000 < n) : NXT r28 c L xs (sL_law_2541 n r28 3 4 125 131 132 (Int32.ofNat (5 * c)) σ) := by
  have hO := o_undo (n := n) h.2.1 ⟨h.1.2.2.2.1, h.1.2.2.2.2.1⟩ h.2.2.2.1 hcc hn
  unfold sL_law_2541
  refine lgO (n := n) hO h (fun k σ1 L1 => ?_) (fun σ2 => ?_) (E := fun σ2 => if 0 = 0 ∨ 0 = 1 then some (0, σ2) else none) (K := fun σ2 => sL_law_2582 n r28 3 4 125 131 132 (Int32.ofNat (5 * c)) σ2)
  · exact rfl
  · unfold sL_law_2582
    rfl
end
