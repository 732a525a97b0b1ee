/-! CALLS: would-be refusals, standings, limits, what a lot would cost -/
theorem Lt.congr {a a' : Nat → Int32} {i : Nat} (h : Lt a i) (hs : SmL a a' i) : Lt a' i := by
  obtain ⟨l1, l2, l3⟩ := h
  have eR : qR a' i = qR a i := by unfold qR; rw [hs.1 2 (by decide)]
  refine ⟨?_, fun b hb => ?_, fun b c hb hc hbc => ?_⟩
  · rw [eR, hs.1 2 (by decide)]; exact l1
  · obtain ⟨e1, e2, e3, e4⟩ := hs.q hb
    obtain ⟨f1, f2, f3, f4⟩ := hs.2 b hb
    rw [e1, e2, e3, e4, f1, f2, f3, f4]
    exact l2 b hb
  · obtain ⟨e1, e2, e3, e4⟩ := hs.q hb
    obtain ⟨f1, f2, f3, f4⟩ := hs.q hc
    rw [e1, e2, e3, e4, f1, f2, f3, f4]
    exact l3 b c hb hc hbc
theorem rkO_some {L T : Nat → Nat} {rank : Int32} {b : Nat} (h : rkO L T rank 0 10 = some b) : b < 10 ∧ 0 < L b := by
  have := fst1_some _ _ _ h
  exact ⟨by omega, this.2.2.1⟩
theorem put_put {a : Nat → Int32} {i b : Nat} {x y : Int32} : put (put a 584 i b x y) 584 i b (a (584 + 10 * i + b)) (a (784 + 10 * i + b)) = a := by
  funext j
  unfold put up
  by_cases h1 : j = 584 + 200 + 10 * i + b
  · rw [if_pos h1, h1]
  · rw [if_neg h1]
    by_cases h2 : j = 584 + 10 * i + b
    · rw [if_pos h2, h2]
    · rw [if_neg h2, if_neg h1, if_neg h2]
theorem put_same {a : Nat → Int32} {i b : Nat} : put a 584 i b (a (584 + 10 * i + b)) (a (784 + 10 * i + b)) = a := by
  funext j
  unfold put up
  by_cases h1 : j = 584 + 200 + 10 * i + b
  · rw [if_pos h1, h1]
  · rw [if_neg h1]
    by_cases h2 : j = 584 + 10 * i + b
    · rw [if_pos h2, h2]
    · rw [if_neg h2]
section
variable {σ τ : zW} {S S' : St} {c n B i b : Nat}
theorem c_lead {v : Nat} {a : Nat → Int32} (hv : Vw σ v) (hl : Lt a i) (ha : Arr σ v (lim a i) (tim a i)) (hH2 : zI σ v 2 = Int32.ofNat (hou a i)) (hn : 1000 < n) : wp (fX4_findLeader n v σ) (fun σ' => Fr (Pv v) σ σ' ∧ Stv σ' v a i) := by
  have hH := hou_le hl
  have hf := c_findLeader (n := n) hv ha hn (H := hou a i) (by omega) hH2
  refine ⟨stV σ v (sLd a i) (Int32.ofNat (sLm a i)) (Int32.ofNat (sSc a i)), ?_, ?_, ?_⟩
  · rw [hf, bsl_lmo]
    rfl
  · exact ((Fr.st ⟨Nat.le_refl _, by omega⟩).trans (Fr.st ⟨Nat.le_refl _, by omega⟩)).trans (Fr.st ⟨Nat.le_refl _, by omega⟩)
  · unfold stV
    refine ⟨fun b hb => ?_, ?_, ?_, ?_, ?_⟩
    · have e1 : ∀ x y z : Int32, zI (stI (stI (stI σ v 3 x) v 4 y) v 5 z) (v + 1) b = zI σ (v + 1) b := fun x y z => by rw [zI_st, if_neg (by omega), zI_st, if_neg (by omega), zI_st, if_neg (by omega)]
      have e2 : ∀ x y z : Int32, zI (stI (stI (stI σ v 3 x) v 4 y) v 5 z) (v + 2) b = zI σ (v + 2) b := fun x y z => by rw [zI_st, if_neg (by omega), zI_st, if_neg (by omega), zI_st, if_neg (by omega)]
      rw [e1, e2]
      exact ha b hb
    · rw [zI_st, if_neg (by omega), zI_st, if_neg (by omega), zI_st, if_neg (by omega)]
      exact hH2
    · rw [zI_st, if_neg (by omega), zI_st, if_neg (by omega), zI_st, if_pos ⟨rfl, rfl⟩]
    · rw [zI_st, if_neg (by omega), zI_st, if_pos ⟨rfl, rfl⟩]
    · rw [zI_st, if_pos ⟨rfl, rfl⟩]
/-- a bid above the own limit, for the time being -/
theorem ifrow (hI : Inv (sA S) B) (hi : i < mk (sA S)) (hb : b < 10) {y : Nat} (hy : y ≤ 99999) (hlt : lim (sA S) i b < y) (hB : B < 100000000) : Lt (put (sA S) 584 i b (Int32.ofNat y) (Int32.ofNat (nm (sA S) + 1))) i ∧ (∀ c, c < 10 → lim (put (sA S) 584 i b (Int32.ofNat y) (Int32.ofNat (nm (sA S) + 1))) i c = if c = b then y else lim (sA S) i c) ∧ (∀ c, c < 10 → tim (put (sA S) 584 i b (Int32.ofNat y) (Int32.ofNat (nm (sA S) + 1))) i c = if c = b then nm (sA S) + 1 else tim (sA S) i c) ∧ hou (put (sA S) 584 i b (Int32.ofNat y) (Int32.ofNat (nm (sA S) + 1))) i = hou (sA S) i := by
  have hi20 : i < 20 := by have := hI.1.2.1; omega
  have I1 := hI.bid hi hb hy hB
  have m1 : i < mk (put (rNum (sA S)) 584 i b (Int32.ofNat y) (sA S 984 + 1)) := by rw [mk_put (by omega), mk_num]; exact hi
  have e9 : sA S 984 + 1 = Int32.ofNat (nm (sA S) + 1) := by rw [hI.2.2.2.1.1, io_succ]
  have hnm := hI.2.2.2.1.2
  have eo : ∀ j, j ≠ 584 + 10 * i + b → j ≠ 784 + 10 * i + b → put (sA S) 584 i b (Int32.ofNat y) (Int32.ofNat (nm (sA S) + 1)) j = sA S j := fun j h1 h2 => by
    unfold put
    rw [up_ne (by omega), up_ne h1]
  have eM : put (sA S) 584 i b (Int32.ofNat y) (Int32.ofNat (nm (sA S) + 1)) (584 + 10 * i + b) = Int32.ofNat y := by
    unfold put
    rw [up_ne (by omega), up_self]
  have eO : put (sA S) 584 i b (Int32.ofNat y) (Int32.ofNat (nm (sA S) + 1)) (784 + 10 * i + b) = Int32.ofNat (nm (sA S) + 1) := by
    unfold put
    exact up_self
  have hs : SmL (put (rNum (sA S)) 584 i b (Int32.ofNat y) (sA S 984 + 1)) (put (sA S) 584 i b (Int32.ofNat y) (Int32.ofNat (nm (sA S) + 1))) i := by
    have key : ∀ j, j < 984 → put (sA S) 584 i b (Int32.ofNat y) (Int32.ofNat (nm (sA S) + 1)) j = put (rNum (sA S)) 584 i b (Int32.ofNat y) (sA S 984 + 1) j := fun j hj => by
      rw [e9]
      unfold put rNum up
      by_cases h1 : j = 584 + 200 + 10 * i + b
      · rw [if_pos h1, if_pos h1]
      · rw [if_neg h1, if_neg h1]
        by_cases h2 : j = 584 + 10 * i + b
        · rw [if_pos h2, if_pos h2]
        · rw [if_neg h2, if_neg h2, if_neg (by omega)]
    exact ⟨fun p hp => key _ (by omega), fun c hc => ⟨key _ (by omega), key _ (by omega), key _ (by omega), key _ (by omega)⟩⟩
  have hL := (I1.lt m1).congr hs
  have tc := tab_congr hI.2.1 (a' := put (sA S) 584 i b (Int32.ofNat y) (Int32.ofNat (nm (sA S) + 1))) (fun j hj => eo j (by omega) (by omega))
  generalize put (sA S) 584 i b (Int32.ofNat y) (Int32.ofNat (nm (sA S) + 1)) = a' at *
  have qm : ∀ c, c < 10 → qM a' i c = qM (sA S) i c := fun c hc => by unfold qM; rw [eo _ (by omega) (by omega)]
  have qo : ∀ c, c < 10 → qO a' i c = qO (sA S) i c := fun c hc => by unfold qO; rw [eo _ (by omega) (by omega)]
  have qd : ∀ c, c < 10 → qD a' i c = if c = b then y else qD (sA S) i c := fun c hc => by
    by_cases e : c = b
    · rw [if_pos e, e]; unfold qD; rw [eM, io_nat (by omega)]
    · rw [if_neg e]; unfold qD; rw [eo _ (by omega) (by omega)]
  have qn : ∀ c, c < 10 → qN a' i c = if c = b then nm (sA S) + 1 else qN (sA S) i c := fun c hc => by
    by_cases e : c = b
    · rw [if_pos e, e]; unfold qN; rw [eO, io_nat (by omega)]
    · rw [if_neg e]; unfold qN; rw [eo _ (by omega) (by omega)]
  have hst : stp (sA S) (qM (sA S) i b) < y := by unfold lim at hlt; omega
  refine ⟨hL, fun c hc => ?_, fun c hc => ?_, ?_⟩
  · unfold lim
    rw [qm c hc, qd c hc, (tc _).1]
    by_cases e : c = b
    · rw [if_pos e, if_pos e, e]
      omega
    · rw [if_neg e, if_neg e]
  · unfold tim
    rw [qm c hc, qd c hc, (tc _).1, qo c hc, qn c hc]
    by_cases e : c = b
    · rw [if_pos e, if_pos e, if_pos e, e, if_neg (by omega), if_neg (by omega)]
    · rw [if_neg e, if_neg e, if_neg e]
  · unfold hou qR
    rw [eo _ (by omega) (by omega), (tc _).1]

theorem o_wouldRefuse (hJ : JC σ S c) (hW : zK σ 131 = 23 ∧ zL σ 131 = 1) (hS : SI S (100 * c)) (hcc : c ≤ 512) (hn : 30000 < n) (w p q x : Int32) : OPR (fL_wouldRefuse n 4 w p q x 131) (fX8_wouldRefuse n 125 w p q x) σ S c := by
  have rm := hJ.room (by omega)
  have hR := hJ.rep
  have hI := hS.1
  rcases lot_cases hI.1 p with ⟨i, rfl, him, hi20, v1, v2⟩ | ⟨v1, v2⟩
  · rcases bid_cases q with ⟨b, rfl, hb, w1, w2⟩ | ⟨w1, w2⟩
    · by_cases hx : 1 ≤ x ∧ x ≤ 90000
      · obtain ⟨y, rfl, hy1, hy2⟩ := in_cases 1 90000 (by decide) (by decide) hx
        by_cases hw : w = 0
        · refine o_rd (v := rB (sA S) i b y) (X := fX7_wouldRefuse n 4 _ _ _ _) hJ hS hW ?_ (fun τ hτ => ?_)
          · unfold fX7_wouldRefuse
            refine wpE (zck_e hJ.x) ?_
            refine wpE (zbx_l (cn_lot hJ v1)) ?_
            refine wpE (zbx_l (cn_bid w1)) ?_
            refine wpE (zbx_l (cn_in hx)) ?_
            refine wpE (zgR_e hJ.x hJ.xs) ?_
            refine wpE (zgR_e hR.1.kS hR.1.r3) ?_
            refine wpE (zaRN_e hR.1.kO hR.1.lO hi20 (by decide) (hR.1.rL hi20)) ?_
            refine wpE (if_pos hw) ?_
            refine wpE (zck_e hJ.x) ?_
            obtain ⟨p2, e2, u2, F2⟩ := c_bidReason (n := n) hJ hI him hb (by omega) (show y ≤ 99999 by omega)
            refine wpE (zb2_e (v := p2.1) (s := p2.2) e2) ?_
            rw [u2]
            exact wp_some ⟨_, rfl, hJ.v F2, FC.v F2⟩
          · have hT := Tr.one (k := 0) hτ
            have h2 := hT.2.2
            unfold fX8_wouldRefuse
            refine wpE (zck_e hτ.k) ?_
            refine wpE (zb_e (jn_lot hτ v2)) ?_
            refine wpE (if_neg one_ne) ?_
            refine wpE (zb_e (jn_bid w2)) ?_
            refine wpE (if_neg one_ne) ?_
            refine wpE (zb_e (jn_in hx)) ?_
            refine wpE (if_neg one_ne) ?_
            unfold sX8_wouldRefuse_36
            refine wpE (thr_set hτ) ?_
            refine wpE (if_pos rfl) ?_
            refine wpE (if_pos hw) ?_
            refine wpE (zck_e h2.k) ?_
            obtain ⟨p2, e2, u2, s2⟩ := j_bidRefusal (n := n) h2 hI him hb (by omega) (show y ≤ 99999 by omega)
            refine wpE (zb2_e (v := p2.1) (s := p2.2) e2) ?_
            exact wp_some ⟨u2, Sm.thr hT s2⟩
        · refine o_rd (v := rO (sA S) i b (Int32.ofNat y)) (X := fX7_wouldRefuse n 4 _ _ _ _) hJ hS hW ?_ (fun τ hτ => ?_)
          · unfold fX7_wouldRefuse
            refine wpE (zck_e hJ.x) ?_
            refine wpE (zbx_l (cn_lot hJ v1)) ?_
            refine wpE (zbx_l (cn_bid w1)) ?_
            refine wpE (zbx_l (cn_in hx)) ?_
            refine wpE (zgR_e hJ.x hJ.xs) ?_
            refine wpE (zgR_e hR.1.kS hR.1.r3) ?_
            refine wpE (zaRN_e hR.1.kO hR.1.lO hi20 (by decide) (hR.1.rL hi20)) ?_
            refine wpE (if_neg hw) ?_
            refine wpE (zck_e hJ.x) ?_
            refine wpE (zb_e (c_orderReason hJ hI him hb (by omega) _)) ?_
            exact fin_rd hJ
          · have hT := Tr.one (k := 0) hτ
            have h2 := hT.2.2
            unfold fX8_wouldRefuse
            refine wpE (zck_e hτ.k) ?_
            refine wpE (zb_e (jn_lot hτ v2)) ?_
            refine wpE (if_neg one_ne) ?_
            refine wpE (zb_e (jn_bid w2)) ?_
            refine wpE (if_neg one_ne) ?_
            refine wpE (zb_e (jn_in hx)) ?_
            refine wpE (if_neg one_ne) ?_
            unfold sX8_wouldRefuse_36
            refine wpE (thr_set hτ) ?_
            refine wpE (if_pos rfl) ?_
            refine wpE (if_neg hw) ?_
            refine wpE (zck_e h2.k) ?_
            refine wpE (zb_e (j_orderRefusal h2 hI him hb (by omega) _)) ?_
            exact wp_some ⟨rfl, hT⟩
      · refine o_thr (e := 2) (k := 2) (X := fX7_wouldRefuse n 4 _ _ _ _) hJ hS rfl (by decide) ?_ (fun τ hτ => ?_)
        · unfold fX7_wouldRefuse
          refine wpE (zck_e hJ.x) ?_
          refine wpE (zbx_l (cn_lot hJ v1)) ?_
          refine wpE (zbx_l (cn_bid w1)) ?_
          refine wpE (zbx_r (cn_in_x rm hx)) ?_
          exact wp_some rfl
        · unfold fX8_wouldRefuse
          refine wpE (zck_e hτ.k) ?_
          refine wpE (zb_e (jn_lot hτ v2)) ?_
          refine wpE (if_neg one_ne) ?_
          refine wpE (zb_e (jn_bid w2)) ?_
          refine wpE (if_neg one_ne) ?_
          refine wpE (zb_e (jn_in_x hx)) ?_
          refine wpE (if_pos rfl) ?_
          unfold sX8_wouldRefuse_36
          refine wpE (thr_set hτ) ?_
          refine wpE (if_neg (by decide)) ?_
          exact wp_some (Tr.one hτ)
    · refine o_thr (e := 1) (k := 1) (X := fX7_wouldRefuse n 4 _ _ _ _) hJ hS rfl (by decide) ?_ (fun τ hτ => ?_)
      · unfold fX7_wouldRefuse
        refine wpE (zck_e hJ.x) ?_
        refine wpE (zbx_l (cn_lot hJ v1)) ?_
        refine wpE (zbx_r (cn_bid_x rm w1)) ?_
        exact wp_some rfl
      · unfold fX8_wouldRefuse
        refine wpE (zck_e hτ.k) ?_
        refine wpE (zb_e (jn_lot hτ v2)) ?_
        refine wpE (if_neg one_ne) ?_
        refine wpE (zb_e (jn_bid_x w2)) ?_
        refine wpE (if_pos rfl) ?_
        unfold sX8_wouldRefuse_16 sX8_wouldRefuse_36
        refine wpE (thr_set hτ) ?_
        refine wpE (if_neg (by decide)) ?_
        exact wp_some (Tr.one hτ)
  · refine o_thr (e := 1) (k := 1) (X := fX7_wouldRefuse n 4 _ _ _ _) hJ hS rfl (by decide) ?_ (fun τ hτ => ?_)
    · unfold fX7_wouldRefuse
      refine wpE (zck_e hJ.x) ?_
      refine wpE (zbx_r (cn_lot_x hJ rm v1)) ?_
      exact wp_some rfl
    · unfold fX8_wouldRefuse
      refine wpE (zck_e hτ.k) ?_
      refine wpE (zb_e (jn_lot_x hτ v2)) ?_
      refine wpE (if_pos rfl) ?_
      unfold sX8_wouldRefuse_16 sX8_wouldRefuse_36
      refine wpE (thr_set hτ) ?_
      refine wpE (if_neg (by decide)) ?_
      exact wp_some (Tr.one hτ)
theorem o_standing (hJ : JC σ S c) (hW : zK σ 131 = 23 ∧ zL σ 131 = 1) (hS : SI S (100 * c)) (hcc : c ≤ 512) (hn : 30000 < n) (p w : Int32) : OPR (fL_standing n 4 p w 131) (fX8_standing n 125 p w) σ S c := by
  have rm := hJ.room (by omega)
  have hR := hJ.rep
  have hI := hS.1
  rcases lot_cases hI.1 p with ⟨i, rfl, him, hi20, v1, v2⟩ | ⟨v1, v2⟩
  · by_cases hw : 0 ≤ w ∧ w ≤ 6
    · by_cases h0 : sA S (24 + 8 * i + 3) = 1
      · obtain ⟨x, rfl, -, hx⟩ := in_cases 0 6 (by decide) (by decide) hw
        have hL := hI.lt him
        have hpr := sPr_le hL
        have hx7 : x = 0 ∨ x = 1 ∨ x = 2 ∨ x = 3 ∨ x = 4 ∨ x = 5 ∨ x = 6 := by omega
        rcases hx7 with rfl | rfl | rfl | rfl | rfl | rfl | rfl
        · refine o_rd (v := Int32.ofNat (sPr (sA S) i)) (X := fX7_standing n 4 _ _) hJ hS hW ?_ (fun τ hτ => ?_)
          · unfold fX7_standing
            refine wpE (zck_e hJ.x) ?_
            refine wpE (zbx_l (cn_lot hJ v1)) ?_
            refine wpE (zbx_l (cn_in hw)) ?_
            refine wpE (zgR_e hJ.x hJ.xs) ?_
            refine wpE (zgR_e hR.1.kS hR.1.r3) ?_
            refine wpE (zaRN_e hR.1.kO hR.1.lO hi20 (by decide) (hR.1.rL hi20)) ?_
            refine wpE (zbx_l (cn_st hJ him hi20 h0)) ?_
            refine wpE (zgR_e hJ.x hJ.xv) ?_
            refine wpE (zgR_e hJ.x hJ.xs) ?_
            refine wpE (zgR_e hR.1.kS hR.1.r0) ?_
            refine wpE (zck_e hJ.vw.kV) ?_
            obtain ⟨σ1, e1, J1, F1, st1⟩ := c_settleJ (n := n) hJ hI him (by omega)
            refine wpE (zb_e e1) ?_
            refine wpE (if_pos (by decide)) ?_
            refine wpE (zgR_e J1.x J1.xv) ?_
            refine wpE (zgR_e J1.x J1.xs) ?_
            refine wpE (zgR_e J1.rep.1.kS J1.rep.1.r0) ?_
            refine wpE (zck_e J1.vw.kV) ?_
            refine wpE (zb_e (c_priceJ J1 hI him (by omega) st1)) ?_
            exact wp_some ⟨_, rfl, J1, FC.v F1⟩
          · have hT := Tr.one (k := 0) hτ
            have h2 := hT.2.2
            unfold fX8_standing
            refine wpE (zck_e hτ.k) ?_
            refine wpE (zb_e (jn_lot hτ v2)) ?_
            refine wpE (if_neg one_ne) ?_
            refine wpE (zb_e (jn_in hw)) ?_
            refine wpE (if_neg one_ne) ?_
            refine wpE (zck_e hτ.k) ?_
            refine wpE (zb_e (j_at3 hτ hi20)) ?_
            refine wpE (if_pos h0) ?_
            unfold sX8_standing_42
            refine wpE (thr_set hτ) ?_
            refine wpE (if_pos rfl) ?_
            refine wpE (zck_e h2.k) ?_
            obtain ⟨τ2, e2, s2, st2⟩ := j_standS (n := n) h2 hI him (by omega)
            refine wpE (zb_e e2) ?_
            refine wpE (if_pos (by decide)) ?_
            refine wpE (zgI_e s2.1.k st2.2.2.2) ?_
            exact wp_some ⟨rfl, Sm.thr hT s2⟩
        · refine o_rd (v := sLd (sA S) i) (X := fX7_standing n 4 _ _) hJ hS hW ?_ (fun τ hτ => ?_)
          · unfold fX7_standing
            refine wpE (zck_e hJ.x) ?_
            refine wpE (zbx_l (cn_lot hJ v1)) ?_
            refine wpE (zbx_l (cn_in hw)) ?_
            refine wpE (zgR_e hJ.x hJ.xs) ?_
            refine wpE (zgR_e hR.1.kS hR.1.r3) ?_
            refine wpE (zaRN_e hR.1.kO hR.1.lO hi20 (by decide) (hR.1.rL hi20)) ?_
            refine wpE (zbx_l (cn_st hJ him hi20 h0)) ?_
            refine wpE (zgR_e hJ.x hJ.xv) ?_
            refine wpE (zgR_e hJ.x hJ.xs) ?_
            refine wpE (zgR_e hR.1.kS hR.1.r0) ?_
            refine wpE (zck_e hJ.vw.kV) ?_
            obtain ⟨σ1, e1, J1, F1, st1⟩ := c_settleJ (n := n) hJ hI him (by omega)
            refine wpE (zb_e e1) ?_
            refine wpE (if_neg (by decide)) ?_
            refine wpE (if_pos (by decide)) ?_
            refine wpE (zgR_e J1.x J1.xv) ?_
            refine wpE (zgI_e J1.vw.kV st1.2.2.1) ?_
            exact wp_some ⟨_, rfl, J1, FC.v F1⟩
          · have hT := Tr.one (k := 0) hτ
            have h2 := hT.2.2
            unfold fX8_standing
            refine wpE (zck_e hτ.k) ?_
            refine wpE (zb_e (jn_lot hτ v2)) ?_
            refine wpE (if_neg one_ne) ?_
            refine wpE (zb_e (jn_in hw)) ?_
            refine wpE (if_neg one_ne) ?_
            refine wpE (zck_e hτ.k) ?_
            refine wpE (zb_e (j_at3 hτ hi20)) ?_
            refine wpE (if_pos h0) ?_
            unfold sX8_standing_42
            refine wpE (thr_set hτ) ?_
            refine wpE (if_pos rfl) ?_
            refine wpE (zck_e h2.k) ?_
            obtain ⟨τ2, e2, s2, st2⟩ := j_standS (n := n) h2 hI him (by omega)
            refine wpE (zb_e e2) ?_
            refine wpE (if_neg (by decide)) ?_
            refine wpE (if_pos (by decide)) ?_
            refine wpE (zgI_e s2.1.k st2.1) ?_
            exact wp_some ⟨rfl, Sm.thr hT s2⟩
        · refine o_rd (v := Int32.ofNat (nxt (sA S) (sPr (sA S) i))) (X := fX7_standing n 4 _ _) hJ hS hW ?_ (fun τ hτ => ?_)
          · unfold fX7_standing
            refine wpE (zck_e hJ.x) ?_
            refine wpE (zbx_l (cn_lot hJ v1)) ?_
            refine wpE (zbx_l (cn_in hw)) ?_
            refine wpE (zgR_e hJ.x hJ.xs) ?_
            refine wpE (zgR_e hR.1.kS hR.1.r3) ?_
            refine wpE (zaRN_e hR.1.kO hR.1.lO hi20 (by decide) (hR.1.rL hi20)) ?_
            refine wpE (zbx_l (cn_st hJ him hi20 h0)) ?_
            refine wpE (zgR_e hJ.x hJ.xv) ?_
            refine wpE (zgR_e hJ.x hJ.xs) ?_
            refine wpE (zgR_e hR.1.kS hR.1.r0) ?_
            refine wpE (zck_e hJ.vw.kV) ?_
            obtain ⟨σ1, e1, J1, F1, st1⟩ := c_settleJ (n := n) hJ hI him (by omega)
            refine wpE (zb_e e1) ?_
            refine wpE (if_neg (by decide)) ?_
            refine wpE (if_neg (by decide)) ?_
            refine wpE (if_pos (by decide)) ?_
            refine wpE (zgR_e J1.x J1.xs) ?_
            refine wpE (zgR_e J1.rep.1.kS J1.rep.1.r0) ?_
            refine wpE (zgR_e J1.x J1.xv) ?_
            refine wpE (zgR_e J1.x J1.xs) ?_
            refine wpE (zgR_e J1.rep.1.kS J1.rep.1.r0) ?_
            refine wpE (zck_e J1.vw.kV) ?_
            refine wpE (zb_e (c_priceJ J1 hI him (by omega) st1)) ?_
            refine wpE (zck_e J1.rep.1.kT) ?_
            refine wpE (zb_e (c_stepAfter J1.rep hI.2.1 hpr (by omega))) ?_
            exact wp_some ⟨_, rfl, J1, FC.v F1⟩
          · have hT := Tr.one (k := 0) hτ
            have h2 := hT.2.2
            unfold fX8_standing
            refine wpE (zck_e hτ.k) ?_
            refine wpE (zb_e (jn_lot hτ v2)) ?_
            refine wpE (if_neg one_ne) ?_
            refine wpE (zb_e (jn_in hw)) ?_
            refine wpE (if_neg one_ne) ?_
            refine wpE (zck_e hτ.k) ?_
            refine wpE (zb_e (j_at3 hτ hi20)) ?_
            refine wpE (if_pos h0) ?_
            unfold sX8_standing_42
            refine wpE (thr_set hτ) ?_
            refine wpE (if_pos rfl) ?_
            refine wpE (zck_e h2.k) ?_
            obtain ⟨τ2, e2, s2, st2⟩ := j_standS (n := n) h2 hI him (by omega)
            refine wpE (zb_e e2) ?_
            refine wpE (if_neg (by decide)) ?_
            refine wpE (if_neg (by decide)) ?_
            refine wpE (if_pos (by decide)) ?_
            refine wpE (zgI_e s2.1.k st2.2.2.2) ?_
            refine wpE (zck_e s2.1.k) ?_
            refine wpE (zb_e (j_stepAbove s2.1 hI.2.1 (by omega) hpr)) ?_
            exact wp_some ⟨rfl, Sm.thr hT s2⟩
        · by_cases hm : met (sA S) i
          · refine o_rd (v := 1) (X := fX7_standing n 4 _ _) hJ hS hW ?_ (fun τ hτ => ?_)
            · unfold fX7_standing
              refine wpE (zck_e hJ.x) ?_
              refine wpE (zbx_l (cn_lot hJ v1)) ?_
              refine wpE (zbx_l (cn_in hw)) ?_
              refine wpE (zgR_e hJ.x hJ.xs) ?_
              refine wpE (zgR_e hR.1.kS hR.1.r3) ?_
              refine wpE (zaRN_e hR.1.kO hR.1.lO hi20 (by decide) (hR.1.rL hi20)) ?_
              refine wpE (zbx_l (cn_st hJ him hi20 h0)) ?_
              refine wpE (zgR_e hJ.x hJ.xv) ?_
              refine wpE (zgR_e hJ.x hJ.xs) ?_
              refine wpE (zgR_e hR.1.kS hR.1.r0) ?_
              refine wpE (zck_e hJ.vw.kV) ?_
              obtain ⟨σ1, e1, J1, F1, st1⟩ := c_settleJ (n := n) hJ hI him (by omega)
              refine wpE (zb_e e1) ?_
              refine wpE (if_neg (by decide)) ?_
              refine wpE (if_neg (by decide)) ?_
              refine wpE (if_neg (by decide)) ?_
              refine wpE (if_pos (by decide)) ?_
              refine wpE (zgR_e J1.x J1.xv) ?_
              refine wpE (zgI_e (J1.rep.1.kL hi20) ((J1.rep.l2 hi20 him).trans hL.1.1)) ?_
              refine wpE (zgR_e J1.x J1.xs) ?_
              refine wpE (zgR_e J1.rep.1.kS J1.rep.1.r0) ?_
              refine wpE (zck_e J1.vw.kV) ?_
              refine wpE (zb_e (c_meets J1.rep J1.vw st1 hI.2.1 hL (by omega))) ?_
              refine wpE (if_neg (by rw [if_pos hm]; exact one_ne)) ?_
              exact wp_some ⟨_, rfl, J1, FC.v F1⟩
            · have hT := Tr.one (k := 0) hτ
              have h2 := hT.2.2
              unfold fX8_standing
              refine wpE (zck_e hτ.k) ?_
              refine wpE (zb_e (jn_lot hτ v2)) ?_
              refine wpE (if_neg one_ne) ?_
              refine wpE (zb_e (jn_in hw)) ?_
              refine wpE (if_neg one_ne) ?_
              refine wpE (zck_e hτ.k) ?_
              refine wpE (zb_e (j_at3 hτ hi20)) ?_
              refine wpE (if_pos h0) ?_
              unfold sX8_standing_42
              refine wpE (thr_set hτ) ?_
              refine wpE (if_pos rfl) ?_
              refine wpE (zck_e h2.k) ?_
              obtain ⟨τ2, e2, s2, st2⟩ := j_standS (n := n) h2 hI him (by omega)
              refine wpE (zb_e e2) ?_
              refine wpE (if_neg (by decide)) ?_
              refine wpE (if_neg (by decide)) ?_
              refine wpE (if_neg (by decide)) ?_
              refine wpE (if_pos (by decide)) ?_
              refine wpE (zck_e s2.1.k) ?_
              refine wpE (zb_e (j_isMet s2.1 st2 hL hi20)) ?_
              refine wpE (if_neg (by rw [if_pos hm]; exact one_ne)) ?_
              exact wp_some ⟨rfl, Sm.thr hT s2⟩
          · refine o_rd (v := 0) (X := fX7_standing n 4 _ _) hJ hS hW ?_ (fun τ hτ => ?_)
            · unfold fX7_standing
              refine wpE (zck_e hJ.x) ?_
              refine wpE (zbx_l (cn_lot hJ v1)) ?_
              refine wpE (zbx_l (cn_in hw)) ?_
              refine wpE (zgR_e hJ.x hJ.xs) ?_
              refine wpE (zgR_e hR.1.kS hR.1.r3) ?_
              refine wpE (zaRN_e hR.1.kO hR.1.lO hi20 (by decide) (hR.1.rL hi20)) ?_
              refine wpE (zbx_l (cn_st hJ him hi20 h0)) ?_
              refine wpE (zgR_e hJ.x hJ.xv) ?_
              refine wpE (zgR_e hJ.x hJ.xs) ?_
              refine wpE (zgR_e hR.1.kS hR.1.r0) ?_
              refine wpE (zck_e hJ.vw.kV) ?_
              obtain ⟨σ1, e1, J1, F1, st1⟩ := c_settleJ (n := n) hJ hI him (by omega)
              refine wpE (zb_e e1) ?_
              refine wpE (if_neg (by decide)) ?_
              refine wpE (if_neg (by decide)) ?_
              refine wpE (if_neg (by decide)) ?_
              refine wpE (if_pos (by decide)) ?_
              refine wpE (zgR_e J1.x J1.xv) ?_
              refine wpE (zgI_e (J1.rep.1.kL hi20) ((J1.rep.l2 hi20 him).trans hL.1.1)) ?_
              refine wpE (zgR_e J1.x J1.xs) ?_
              refine wpE (zgR_e J1.rep.1.kS J1.rep.1.r0) ?_
              refine wpE (zck_e J1.vw.kV) ?_
              refine wpE (zb_e (c_meets J1.rep J1.vw st1 hI.2.1 hL (by omega))) ?_
              refine wpE (if_pos (by rw [if_neg hm])) ?_
              exact wp_some ⟨_, rfl, J1, FC.v F1⟩
            · have hT := Tr.one (k := 0) hτ
              have h2 := hT.2.2
              unfold fX8_standing
              refine wpE (zck_e hτ.k) ?_
              refine wpE (zb_e (jn_lot hτ v2)) ?_
              refine wpE (if_neg one_ne) ?_
              refine wpE (zb_e (jn_in hw)) ?_
              refine wpE (if_neg one_ne) ?_
              refine wpE (zck_e hτ.k) ?_
              refine wpE (zb_e (j_at3 hτ hi20)) ?_
              refine wpE (if_pos h0) ?_
              unfold sX8_standing_42
              refine wpE (thr_set hτ) ?_
              refine wpE (if_pos rfl) ?_
              refine wpE (zck_e h2.k) ?_
              obtain ⟨τ2, e2, s2, st2⟩ := j_standS (n := n) h2 hI him (by omega)
              refine wpE (zb_e e2) ?_
              refine wpE (if_neg (by decide)) ?_
              refine wpE (if_neg (by decide)) ?_
              refine wpE (if_neg (by decide)) ?_
              refine wpE (if_pos (by decide)) ?_
              refine wpE (zck_e s2.1.k) ?_
              refine wpE (zb_e (j_isMet s2.1 st2 hL hi20)) ?_
              refine wpE (if_pos (by rw [if_neg hm])) ?_
              exact wp_some ⟨rfl, Sm.thr hT s2⟩
        · refine o_rd (v := Int32.ofNat (sLm (sA S) i)) (X := fX7_standing n 4 _ _) hJ hS hW ?_ (fun τ hτ => ?_)
          · unfold fX7_standing
            refine wpE (zck_e hJ.x) ?_
            refine wpE (zbx_l (cn_lot hJ v1)) ?_
            refine wpE (zbx_l (cn_in hw)) ?_
            refine wpE (zgR_e hJ.x hJ.xs) ?_
            refine wpE (zgR_e hR.1.kS hR.1.r3) ?_
            refine wpE (zaRN_e hR.1.kO hR.1.lO hi20 (by decide) (hR.1.rL hi20)) ?_
            refine wpE (zbx_l (cn_st hJ him hi20 h0)) ?_
            refine wpE (zgR_e hJ.x hJ.xv) ?_
            refine wpE (zgR_e hJ.x hJ.xs) ?_
            refine wpE (zgR_e hR.1.kS hR.1.r0) ?_
            refine wpE (zck_e hJ.vw.kV) ?_
            obtain ⟨σ1, e1, J1, F1, st1⟩ := c_settleJ (n := n) hJ hI him (by omega)
            refine wpE (zb_e e1) ?_
            refine wpE (if_neg (by decide)) ?_
            refine wpE (if_neg (by decide)) ?_
            refine wpE (if_neg (by decide)) ?_
            refine wpE (if_neg (by decide)) ?_
            refine wpE (if_pos (by decide)) ?_
            refine wpE (zgR_e J1.x J1.xv) ?_
            refine wpE (zgI_e J1.vw.kV st1.2.2.2.1) ?_
            exact wp_some ⟨_, rfl, J1, FC.v F1⟩
          · have hT := Tr.one (k := 0) hτ
            have h2 := hT.2.2
            unfold fX8_standing
            refine wpE (zck_e hτ.k) ?_
            refine wpE (zb_e (jn_lot hτ v2)) ?_
            refine wpE (if_neg one_ne) ?_
            refine wpE (zb_e (jn_in hw)) ?_
            refine wpE (if_neg one_ne) ?_
            refine wpE (zck_e hτ.k) ?_
            refine wpE (zb_e (j_at3 hτ hi20)) ?_
            refine wpE (if_pos h0) ?_
            unfold sX8_standing_42
            refine wpE (thr_set hτ) ?_
            refine wpE (if_pos rfl) ?_
            refine wpE (zck_e h2.k) ?_
            obtain ⟨τ2, e2, s2, st2⟩ := j_standS (n := n) h2 hI him (by omega)
            refine wpE (zb_e e2) ?_
            refine wpE (if_neg (by decide)) ?_
            refine wpE (if_neg (by decide)) ?_
            refine wpE (if_neg (by decide)) ?_
            refine wpE (if_neg (by decide)) ?_
            refine wpE (if_pos (by decide)) ?_
            refine wpE (zgI_e s2.1.k st2.2.1) ?_
            exact wp_some ⟨rfl, Sm.thr hT s2⟩
        · refine o_rd (v := Int32.ofNat (sSc (sA S) i)) (X := fX7_standing n 4 _ _) hJ hS hW ?_ (fun τ hτ => ?_)
          · unfold fX7_standing
            refine wpE (zck_e hJ.x) ?_
            refine wpE (zbx_l (cn_lot hJ v1)) ?_
            refine wpE (zbx_l (cn_in hw)) ?_
            refine wpE (zgR_e hJ.x hJ.xs) ?_
            refine wpE (zgR_e hR.1.kS hR.1.r3) ?_
            refine wpE (zaRN_e hR.1.kO hR.1.lO hi20 (by decide) (hR.1.rL hi20)) ?_
            refine wpE (zbx_l (cn_st hJ him hi20 h0)) ?_
            refine wpE (zgR_e hJ.x hJ.xv) ?_
            refine wpE (zgR_e hJ.x hJ.xs) ?_
            refine wpE (zgR_e hR.1.kS hR.1.r0) ?_
            refine wpE (zck_e hJ.vw.kV) ?_
            obtain ⟨σ1, e1, J1, F1, st1⟩ := c_settleJ (n := n) hJ hI him (by omega)
            refine wpE (zb_e e1) ?_
            refine wpE (if_neg (by decide)) ?_
            refine wpE (if_neg (by decide)) ?_
            refine wpE (if_neg (by decide)) ?_
            refine wpE (if_neg (by decide)) ?_
            refine wpE (if_neg (by decide)) ?_
            refine wpE (if_pos (by decide)) ?_
            refine wpE (zgR_e J1.x J1.xv) ?_
            refine wpE (zgI_e J1.vw.kV st1.2.2.2.2) ?_
            exact wp_some ⟨_, rfl, J1, FC.v F1⟩
          · have hT := Tr.one (k := 0) hτ
            have h2 := hT.2.2
            unfold fX8_standing
            refine wpE (zck_e hτ.k) ?_
            refine wpE (zb_e (jn_lot hτ v2)) ?_
            refine wpE (if_neg one_ne) ?_
            refine wpE (zb_e (jn_in hw)) ?_
            refine wpE (if_neg one_ne) ?_
            refine wpE (zck_e hτ.k) ?_
            refine wpE (zb_e (j_at3 hτ hi20)) ?_
            refine wpE (if_pos h0) ?_
            unfold sX8_standing_42
            refine wpE (thr_set hτ) ?_
            refine wpE (if_pos rfl) ?_
            refine wpE (zck_e h2.k) ?_
            obtain ⟨τ2, e2, s2, st2⟩ := j_standS (n := n) h2 hI him (by omega)
            refine wpE (zb_e e2) ?_
            refine wpE (if_neg (by decide)) ?_
            refine wpE (if_neg (by decide)) ?_
            refine wpE (if_neg (by decide)) ?_
            refine wpE (if_neg (by decide)) ?_
            refine wpE (if_neg (by decide)) ?_
            refine wpE (if_pos (by decide)) ?_
            refine wpE (zgI_e s2.1.k st2.2.2.1) ?_
            exact wp_some ⟨rfl, Sm.thr hT s2⟩
        · refine o_rd (v := cnl (sA S) i) (X := fX7_standing n 4 _ _) hJ hS hW ?_ (fun τ hτ => ?_)
          · unfold fX7_standing
            refine wpE (zck_e hJ.x) ?_
            refine wpE (zbx_l (cn_lot hJ v1)) ?_
            refine wpE (zbx_l (cn_in hw)) ?_
            refine wpE (zgR_e hJ.x hJ.xs) ?_
            refine wpE (zgR_e hR.1.kS hR.1.r3) ?_
            refine wpE (zaRN_e hR.1.kO hR.1.lO hi20 (by decide) (hR.1.rL hi20)) ?_
            refine wpE (zbx_l (cn_st hJ him hi20 h0)) ?_
            refine wpE (zgR_e hJ.x hJ.xv) ?_
            refine wpE (zgR_e hJ.x hJ.xs) ?_
            refine wpE (zgR_e hR.1.kS hR.1.r0) ?_
            refine wpE (zck_e hJ.vw.kV) ?_
            obtain ⟨σ1, e1, J1, F1, st1⟩ := c_settleJ (n := n) hJ hI him (by omega)
            refine wpE (zb_e e1) ?_
            refine wpE (if_neg (by decide)) ?_
            refine wpE (if_neg (by decide)) ?_
            refine wpE (if_neg (by decide)) ?_
            refine wpE (if_neg (by decide)) ?_
            refine wpE (if_neg (by decide)) ?_
            refine wpE (if_neg (by decide)) ?_
            refine wpE (zgR_e J1.x J1.xv) ?_
            refine wpE (zck_e J1.vw.kV) ?_
            refine wpE (zb_e (c_counting J1.vw st1 (by omega))) ?_
            exact wp_some ⟨_, rfl, J1, FC.v F1⟩
          · have hT := Tr.one (k := 0) hτ
            have h2 := hT.2.2
            unfold fX8_standing
            refine wpE (zck_e hτ.k) ?_
            refine wpE (zb_e (jn_lot hτ v2)) ?_
            refine wpE (if_neg one_ne) ?_
            refine wpE (zb_e (jn_in hw)) ?_
            refine wpE (if_neg one_ne) ?_
            refine wpE (zck_e hτ.k) ?_
            refine wpE (zb_e (j_at3 hτ hi20)) ?_
            refine wpE (if_pos h0) ?_
            unfold sX8_standing_42
            refine wpE (thr_set hτ) ?_
            refine wpE (if_pos rfl) ?_
            refine wpE (zck_e h2.k) ?_
            obtain ⟨τ2, e2, s2, st2⟩ := j_standS (n := n) h2 hI him (by omega)
            refine wpE (zb_e e2) ?_
            refine wpE (if_neg (by decide)) ?_
            refine wpE (if_neg (by decide)) ?_
            refine wpE (if_neg (by decide)) ?_
            refine wpE (if_neg (by decide)) ?_
            refine wpE (if_neg (by decide)) ?_
            refine wpE (if_neg (by decide)) ?_
            refine wpE (zck_e s2.1.k) ?_
            refine wpE (zb_e (j_countingLimits s2.1 hI.2.1 hL (by omega) hi20)) ?_
            exact wp_some ⟨rfl, Sm.thr hT s2⟩
      · refine o_thr (e := 3) (k := 3) (X := fX7_standing n 4 _ _) hJ hS rfl (by decide) ?_ (fun τ hτ => ?_)
        · unfold fX7_standing
          refine wpE (zck_e hJ.x) ?_
          refine wpE (zbx_l (cn_lot hJ v1)) ?_
          refine wpE (zbx_l (cn_in hw)) ?_
          refine wpE (zgR_e hJ.x hJ.xs) ?_
          refine wpE (zgR_e hR.1.kS hR.1.r3) ?_
          refine wpE (zaRN_e hR.1.kO hR.1.lO hi20 (by decide) (hR.1.rL hi20)) ?_
          refine wpE (zbx_r (cn_st_x hJ rm him hi20 h0)) ?_
          exact wp_some rfl
        · unfold fX8_standing
          refine wpE (zck_e hτ.k) ?_
          refine wpE (zb_e (jn_lot hτ v2)) ?_
          refine wpE (if_neg one_ne) ?_
          refine wpE (zb_e (jn_in hw)) ?_
          refine wpE (if_neg one_ne) ?_
          refine wpE (zck_e hτ.k) ?_
          refine wpE (zb_e (j_at3 hτ hi20)) ?_
          refine wpE (if_neg h0) ?_
          unfold sX8_standing_42
          refine wpE (thr_set hτ) ?_
          refine wpE (if_neg (by decide)) ?_
          exact wp_some (Tr.one hτ)
    · refine o_thr (e := 2) (k := 2) (X := fX7_standing n 4 _ _) hJ hS rfl (by decide) ?_ (fun τ hτ => ?_)
      · unfold fX7_standing
        refine wpE (zck_e hJ.x) ?_
        refine wpE (zbx_l (cn_lot hJ v1)) ?_
        refine wpE (zbx_r (cn_in_x rm hw)) ?_
        exact wp_some rfl
      · unfold fX8_standing
        refine wpE (zck_e hτ.k) ?_
        refine wpE (zb_e (jn_lot hτ v2)) ?_
        refine wpE (if_neg one_ne) ?_
        refine wpE (zb_e (jn_in_x hw)) ?_
        refine wpE (if_pos rfl) ?_
        unfold sX8_standing_42
        refine wpE (thr_set hτ) ?_
        refine wpE (if_neg (by decide)) ?_
        exact wp_some (Tr.one hτ)
  · refine o_thr (e := 1) (k := 1) (X := fX7_standing n 4 _ _) hJ hS rfl (by decide) ?_ (fun τ hτ => ?_)
    · unfold fX7_standing
      refine wpE (zck_e hJ.x) ?_
      refine wpE (zbx_r (cn_lot_x hJ rm v1)) ?_
      exact wp_some rfl
    · unfold fX8_standing
      refine wpE (zck_e hτ.k) ?_
      refine wpE (zb_e (jn_lot_x hτ v2)) ?_
      refine wpE (if_pos rfl) ?_
      unfold sX8_standing_42
      refine wpE (thr_set hτ) ?_
      refine wpE (if_neg (by decide)) ?_
      exact wp_some (Tr.one hτ)
theorem o_limit (hJ : JC σ S c) (hW : zK σ 131 = 23 ∧ zL σ 131 = 1) (hS : SI S (100 * c)) (hcc : c ≤ 512) (hn : 30000 < n) (p rk w : Int32) : OPR (fL_limit n 4 p rk w 131) (fX8_limit n 125 p rk w) σ S c := by
  have rm := hJ.room (by omega)
  have hR := hJ.rep
  have hI := hS.1
  rcases lot_cases hI.1 p with ⟨i, rfl, him, hi20, v1, v2⟩ | ⟨v1, v2⟩
  · by_cases hw : 0 ≤ w ∧ w ≤ 2
    · by_cases h0 : sA S (24 + 8 * i + 3) = 1
      · have hL := hI.lt him
        cases hrk : rkO (lim (sA S) i) (tim (sA S) i) rk 0 10 with
        | none =>
          obtain ⟨σ1, e1, J1, F1, st1⟩ := c_settleJ (n := n) hJ hI him (by omega)
          have rm1 := J1.room (by omega)
          refine OPR.ex (e := 4) (k := 4) (X := fX7_limit n 4 _ _ _) hJ (σ1 := nwX σ1) (S' := S) (wp_eq ?_) rfl (by decide) J1.thr ((FC.v F1).trans FC.thr) (hS.mono (by omega)) (fun τ hτ => ?_)
          · unfold fX7_limit
            refine wpE (zck_e hJ.x) ?_
            refine wpE (zbx_l (cn_lot hJ v1)) ?_
            refine wpE (zbx_l (cn_in hw)) ?_
            refine wpE (zgR_e hJ.x hJ.xs) ?_
            refine wpE (zgR_e hR.1.kS hR.1.r3) ?_
            refine wpE (zaRN_e hR.1.kO hR.1.lO hi20 (by decide) (hR.1.rL hi20)) ?_
            refine wpE (zbx_l (cn_st hJ him hi20 h0)) ?_
            refine wpE (zgR_e hJ.x hJ.xv) ?_
            refine wpE (zgR_e hJ.x hJ.xs) ?_
            refine wpE (zgR_e hR.1.kS hR.1.r0) ?_
            refine wpE (zck_e hJ.vw.kV) ?_
            refine wpE (zb_e e1) ?_
            refine wpE (zgR_e J1.x J1.xv) ?_
            refine wpE (zck_e J1.vw.kV) ?_
            refine wpE (zb_e ((c_bidderAt J1.vw st1.1 (by omega) rk).trans (congrArg (fun z => some (bco z)) hrk))) ?_
            refine wpE (if_pos rfl) ?_
            refine wpE (zth_e rm1.1 rm1.2) ?_
            exact wp_some rfl
          · have hT := Tr.one (k := 0) hτ
            have h2 := hT.2.2
            have q : wp (fX8_limit n 125 (Int32.ofNat i) rk w τ) (fun r => r = (0, stI (stI τ 125 0 0) 125 0 4)) := by
              unfold fX8_limit
              refine wpE (zck_e hτ.k) ?_
              refine wpE (zb_e (jn_lot hτ v2)) ?_
              refine wpE (if_neg one_ne) ?_
              refine wpE (zb_e (jn_in hw)) ?_
              refine wpE (if_neg one_ne) ?_
              refine wpE (zck_e hτ.k) ?_
              refine wpE (zb_e (j_at3 hτ hi20)) ?_
              refine wpE (if_pos h0) ?_
              unfold sX8_limit_41
              refine wpE (thr_set hτ) ?_
              refine wpE (if_pos rfl) ?_
              refine wpE (zck_e h2.k) ?_
              refine wpE (zb_e ((j_ranked h2 hI.2.1 hL (by omega) hi20 rk).trans (congrArg (fun z => some (bco z)) hrk))) ?_
              refine wpE (if_pos rfl) ?_
              refine wpE (zck_e h2.k) ?_
              refine wpE (zb2_e (jn_fail h2)) ?_
              exact wp_some rfl
            have t2 := Tr.two (k := 4) (l := 0) hτ
            exact ⟨_, _, wp_eq q, t2.1, t2.2.2, t2.2.1⟩
        | some b =>
          obtain ⟨hb, hlb⟩ := rkO_some hrk
          have hbn : ¬ Int32.ofNat b = -1 := fun q => (io_m1 (b := b) (by omega)) ▸ q
          obtain ⟨x, rfl, -, hx⟩ := in_cases 0 2 (by decide) (by decide) hw
          have hx7 : x = 0 ∨ x = 1 ∨ x = 2 := by omega
          rcases hx7 with rfl | rfl | rfl
          · refine o_rd (v := Int32.ofNat b) (X := fX7_limit n 4 _ _ _) hJ hS hW ?_ (fun τ hτ => ?_)
            · unfold fX7_limit
              refine wpE (zck_e hJ.x) ?_
              refine wpE (zbx_l (cn_lot hJ v1)) ?_
              refine wpE (zbx_l (cn_in hw)) ?_
              refine wpE (zgR_e hJ.x hJ.xs) ?_
              refine wpE (zgR_e hR.1.kS hR.1.r3) ?_
              refine wpE (zaRN_e hR.1.kO hR.1.lO hi20 (by decide) (hR.1.rL hi20)) ?_
              refine wpE (zbx_l (cn_st hJ him hi20 h0)) ?_
              refine wpE (zgR_e hJ.x hJ.xv) ?_
              refine wpE (zgR_e hJ.x hJ.xs) ?_
              refine wpE (zgR_e hR.1.kS hR.1.r0) ?_
              refine wpE (zck_e hJ.vw.kV) ?_
              obtain ⟨σ1, e1, J1, F1, st1⟩ := c_settleJ (n := n) hJ hI him (by omega)
              refine wpE (zb_e e1) ?_
              refine wpE (zgR_e J1.x J1.xv) ?_
              refine wpE (zck_e J1.vw.kV) ?_
              refine wpE (zb_e (v := Int32.ofNat b) ((c_bidderAt J1.vw st1.1 (by omega) rk).trans (congrArg (fun z => some (bco z)) hrk))) ?_
              refine wpE (if_neg hbn) ?_
              refine wpE (if_pos (by decide)) ?_
              exact wp_some ⟨_, rfl, J1, FC.v F1⟩
            · have hT := Tr.one (k := 0) hτ
              have h2 := hT.2.2
              unfold fX8_limit
              refine wpE (zck_e hτ.k) ?_
              refine wpE (zb_e (jn_lot hτ v2)) ?_
              refine wpE (if_neg one_ne) ?_
              refine wpE (zb_e (jn_in hw)) ?_
              refine wpE (if_neg one_ne) ?_
              refine wpE (zck_e hτ.k) ?_
              refine wpE (zb_e (j_at3 hτ hi20)) ?_
              refine wpE (if_pos h0) ?_
              unfold sX8_limit_41
              refine wpE (thr_set hτ) ?_
              refine wpE (if_pos rfl) ?_
              refine wpE (zck_e h2.k) ?_
              refine wpE (zb_e (v := Int32.ofNat b) ((j_ranked h2 hI.2.1 hL (by omega) hi20 rk).trans (congrArg (fun z => some (bco z)) hrk))) ?_
              refine wpE (if_neg hbn) ?_
              refine wpE (if_pos (by decide)) ?_
              exact wp_some ⟨rfl, hT⟩
          · refine o_rd (v := Int32.ofNat (lim (sA S) i b)) (X := fX7_limit n 4 _ _ _) hJ hS hW ?_ (fun τ hτ => ?_)
            · unfold fX7_limit
              refine wpE (zck_e hJ.x) ?_
              refine wpE (zbx_l (cn_lot hJ v1)) ?_
              refine wpE (zbx_l (cn_in hw)) ?_
              refine wpE (zgR_e hJ.x hJ.xs) ?_
              refine wpE (zgR_e hR.1.kS hR.1.r3) ?_
              refine wpE (zaRN_e hR.1.kO hR.1.lO hi20 (by decide) (hR.1.rL hi20)) ?_
              refine wpE (zbx_l (cn_st hJ him hi20 h0)) ?_
              refine wpE (zgR_e hJ.x hJ.xv) ?_
              refine wpE (zgR_e hJ.x hJ.xs) ?_
              refine wpE (zgR_e hR.1.kS hR.1.r0) ?_
              refine wpE (zck_e hJ.vw.kV) ?_
              obtain ⟨σ1, e1, J1, F1, st1⟩ := c_settleJ (n := n) hJ hI him (by omega)
              refine wpE (zb_e e1) ?_
              refine wpE (zgR_e J1.x J1.xv) ?_
              refine wpE (zck_e J1.vw.kV) ?_
              refine wpE (zb_e (v := Int32.ofNat b) ((c_bidderAt J1.vw st1.1 (by omega) rk).trans (congrArg (fun z => some (bco z)) hrk))) ?_
              refine wpE (if_neg hbn) ?_
              refine wpE (if_neg (by decide)) ?_
              refine wpE (if_pos (by decide)) ?_
              refine wpE (zgR_e J1.x J1.xv) ?_
              refine wpE (zgR_e J1.vw.kV J1.vw.v0) ?_
              refine wpE (zaN_e J1.vw.kV1 J1.vw.lV1 hb (by decide) (st1.1 b hb).1) ?_
              exact wp_some ⟨_, rfl, J1, FC.v F1⟩
            · have hT := Tr.one (k := 0) hτ
              have h2 := hT.2.2
              unfold fX8_limit
              refine wpE (zck_e hτ.k) ?_
              refine wpE (zb_e (jn_lot hτ v2)) ?_
              refine wpE (if_neg one_ne) ?_
              refine wpE (zb_e (jn_in hw)) ?_
              refine wpE (if_neg one_ne) ?_
              refine wpE (zck_e hτ.k) ?_
              refine wpE (zb_e (j_at3 hτ hi20)) ?_
              refine wpE (if_pos h0) ?_
              unfold sX8_limit_41
              refine wpE (thr_set hτ) ?_
              refine wpE (if_pos rfl) ?_
              refine wpE (zck_e h2.k) ?_
              refine wpE (zb_e (v := Int32.ofNat b) ((j_ranked h2 hI.2.1 hL (by omega) hi20 rk).trans (congrArg (fun z => some (bco z)) hrk))) ?_
              refine wpE (if_neg hbn) ?_
              refine wpE (if_neg (by decide)) ?_
              refine wpE (if_pos (by decide)) ?_
              refine wpE (zck_e h2.k) ?_
              refine wpE (zb_e (j_limitOf h2 hI.2.1 hL (by omega) hi20 hb)) ?_
              exact wp_some ⟨rfl, hT⟩
          · refine o_rd (v := Int32.ofNat (tim (sA S) i b)) (X := fX7_limit n 4 _ _ _) hJ hS hW ?_ (fun τ hτ => ?_)
            · unfold fX7_limit
              refine wpE (zck_e hJ.x) ?_
              refine wpE (zbx_l (cn_lot hJ v1)) ?_
              refine wpE (zbx_l (cn_in hw)) ?_
              refine wpE (zgR_e hJ.x hJ.xs) ?_
              refine wpE (zgR_e hR.1.kS hR.1.r3) ?_
              refine wpE (zaRN_e hR.1.kO hR.1.lO hi20 (by decide) (hR.1.rL hi20)) ?_
              refine wpE (zbx_l (cn_st hJ him hi20 h0)) ?_
              refine wpE (zgR_e hJ.x hJ.xv) ?_
              refine wpE (zgR_e hJ.x hJ.xs) ?_
              refine wpE (zgR_e hR.1.kS hR.1.r0) ?_
              refine wpE (zck_e hJ.vw.kV) ?_
              obtain ⟨σ1, e1, J1, F1, st1⟩ := c_settleJ (n := n) hJ hI him (by omega)
              refine wpE (zb_e e1) ?_
              refine wpE (zgR_e J1.x J1.xv) ?_
              refine wpE (zck_e J1.vw.kV) ?_
              refine wpE (zb_e (v := Int32.ofNat b) ((c_bidderAt J1.vw st1.1 (by omega) rk).trans (congrArg (fun z => some (bco z)) hrk))) ?_
              refine wpE (if_neg hbn) ?_
              refine wpE (if_neg (by decide)) ?_
              refine wpE (if_neg (by decide)) ?_
              refine wpE (zgR_e J1.x J1.xv) ?_
              refine wpE (zgR_e J1.vw.kV J1.vw.v1) ?_
              refine wpE (zaN_e J1.vw.kV2 J1.vw.lV2 hb (by decide) (st1.1 b hb).2.1) ?_
              exact wp_some ⟨_, rfl, J1, FC.v F1⟩
            · have hT := Tr.one (k := 0) hτ
              have h2 := hT.2.2
              unfold fX8_limit
              refine wpE (zck_e hτ.k) ?_
              refine wpE (zb_e (jn_lot hτ v2)) ?_
              refine wpE (if_neg one_ne) ?_
              refine wpE (zb_e (jn_in hw)) ?_
              refine wpE (if_neg one_ne) ?_
              refine wpE (zck_e hτ.k) ?_
              refine wpE (zb_e (j_at3 hτ hi20)) ?_
              refine wpE (if_pos h0) ?_
              unfold sX8_limit_41
              refine wpE (thr_set hτ) ?_
              refine wpE (if_pos rfl) ?_
              refine wpE (zck_e h2.k) ?_
              refine wpE (zb_e (v := Int32.ofNat b) ((j_ranked h2 hI.2.1 hL (by omega) hi20 rk).trans (congrArg (fun z => some (bco z)) hrk))) ?_
              refine wpE (if_neg hbn) ?_
              refine wpE (if_neg (by decide)) ?_
              refine wpE (if_neg (by decide)) ?_
              refine wpE (zck_e h2.k) ?_
              refine wpE (zb_e (j_timeOf h2 hI.2.1 hL (by omega) hi20 hb hlb)) ?_
              exact wp_some ⟨rfl, hT⟩
      · refine o_thr (e := 3) (k := 3) (X := fX7_limit n 4 _ _ _) hJ hS rfl (by decide) ?_ (fun τ hτ => ?_)
        · unfold fX7_limit
          refine wpE (zck_e hJ.x) ?_
          refine wpE (zbx_l (cn_lot hJ v1)) ?_
          refine wpE (zbx_l (cn_in hw)) ?_
          refine wpE (zgR_e hJ.x hJ.xs) ?_
          refine wpE (zgR_e hR.1.kS hR.1.r3) ?_
          refine wpE (zaRN_e hR.1.kO hR.1.lO hi20 (by decide) (hR.1.rL hi20)) ?_
          refine wpE (zbx_r (cn_st_x hJ rm him hi20 h0)) ?_
          exact wp_some rfl
        · unfold fX8_limit
          refine wpE (zck_e hτ.k) ?_
          refine wpE (zb_e (jn_lot hτ v2)) ?_
          refine wpE (if_neg one_ne) ?_
          refine wpE (zb_e (jn_in hw)) ?_
          refine wpE (if_neg one_ne) ?_
          refine wpE (zck_e hτ.k) ?_
          refine wpE (zb_e (j_at3 hτ hi20)) ?_
          refine wpE (if_neg h0) ?_
          unfold sX8_limit_41
          refine wpE (thr_set hτ) ?_
          refine wpE (if_neg (by decide)) ?_
          exact wp_some (Tr.one hτ)
    · refine o_thr (e := 2) (k := 2) (X := fX7_limit n 4 _ _ _) hJ hS rfl (by decide) ?_ (fun τ hτ => ?_)
      · unfold fX7_limit
        refine wpE (zck_e hJ.x) ?_
        refine wpE (zbx_l (cn_lot hJ v1)) ?_
        refine wpE (zbx_r (cn_in_x rm hw)) ?_
        exact wp_some rfl
      · unfold fX8_limit
        refine wpE (zck_e hτ.k) ?_
        refine wpE (zb_e (jn_lot hτ v2)) ?_
        refine wpE (if_neg one_ne) ?_
        refine wpE (zb_e (jn_in_x hw)) ?_
        refine wpE (if_pos rfl) ?_
        unfold sX8_limit_41
        refine wpE (thr_set hτ) ?_
        refine wpE (if_neg (by decide)) ?_
        exact wp_some (Tr.one hτ)
  · refine o_thr (e := 1) (k := 1) (X := fX7_limit n 4 _ _ _) hJ hS rfl (by decide) ?_ (fun τ hτ => ?_)
    · unfold fX7_limit
      refine wpE (zck_e hJ.x) ?_
      refine wpE (zbx_r (cn_lot_x hJ rm v1)) ?_
      exact wp_some rfl
    · unfold fX8_limit
      refine wpE (zck_e hτ.k) ?_
      refine wpE (zb_e (jn_lot_x hτ v2)) ?_
      refine wpE (if_pos rfl) ?_
      unfold sX8_limit_41
      refine wpE (thr_set hτ) ?_
      refine wpE (if_neg (by decide)) ?_
      exact wp_some (Tr.one hτ)
theorem j_if130 (hτ : JR τ S) (hT0 : Tb (sA S)) (hL : Lt (sA S) i) (hi20 : i < 20) (hb : b < 10) (hn : 1000 < n) (x y : Int32) : wp (sX8_priceIf_130 n 125 (Int32.ofNat i) (Int32.ofNat b) x y τ) (fun p => p.1 = Int32.ofNat (sPr (sA S) i) ∧ Sm τ (uA S (put (sA S) 584 i b x y)) p.2) := by
  unfold sX8_priceIf_130
  obtain ⟨τ1, e1, h1, f1, st1, k1⟩ := j_stand (n := n) hτ hT0 hL hn hi20
  refine wpE (zck_e hτ.k) ?_
  refine wpE (zb_e e1) ?_
  refine wpE (zgI_e h1.k st1.2.2.2) ?_
  refine wpE (zck_e h1.k) ?_
  obtain ⟨τ2, e2, s2⟩ := jw_putB (n := n) (x := x) (y := y) h1 hi20 hb
  refine wpE (zb_e e2) ?_
  exact wp_some ⟨rfl, Sm.tr ⟨h1, f1, k1⟩ s2⟩
theorem o_priceIf (hJ : JC σ S c) (hW : zK σ 131 = 23 ∧ zL σ 131 = 1) (hS : SI S (100 * c)) (hcc : c ≤ 512) (hn : 30000 < n) (p q x : Int32) : OPR (fL_priceIf n 4 p q x 131) (fX8_priceIf n 125 p q x) σ S c := by
  have rm := hJ.room (by omega)
  have hR := hJ.rep
  have hI := hS.1
  rcases lot_cases hI.1 p with ⟨i, rfl, him, hi20, v1, v2⟩ | ⟨v1, v2⟩
  · rcases bid_cases q with ⟨b, rfl, hb, w1, w2⟩ | ⟨w1, w2⟩
    · by_cases hx : 1 ≤ x ∧ x ≤ 99999
      · obtain ⟨y, rfl, hy1, hy2⟩ := in_cases 1 99999 (by decide) (by decide) hx
        by_cases hst : 0 < y ∧ stp (sA S) y = y
        · by_cases h0 : sA S (24 + 8 * i + 3) = 1
          · have hL := hI.lt him
            have hlb := lim_le hL hb
            have e9 : sA S 984 + 1 = Int32.ofNat (nm (sA S) + 1) := by rw [hI.2.2.2.1.1, io_succ]
            have elt : (Int32.ofNat (lim (sA S) i b) < Int32.ofNat y) = (lim (sA S) i b < y) := io_lt (by omega) (by omega)
            have x5 : (584 : Int32) + (10 * Int32.ofNat i + Int32.ofNat b) = Int32.ofNat (584 + 10 * i + b) := by rw [ix10, ixl, iy584, Nat.add_assoc]
            have x7 : (784 : Int32) + (10 * Int32.ofNat i + Int32.ofNat b) = Int32.ofNat (784 + 10 * i + b) := by rw [ix10, ixl, iy784, Nat.add_assoc]
            by_cases hlt : lim (sA S) i b < y
            · obtain ⟨L1, L2, L3, L4⟩ := ifrow hI him hb hy2 hlt (by omega)
              have tc := tab_congr hI.2.1 (a' := put (sA S) 584 i b (Int32.ofNat y) (Int32.ofNat (nm (sA S) + 1))) (fun j hj => by
                unfold put
                rw [up_ne (by omega), up_ne (by omega)])
              have T1 : Tb (put (sA S) 584 i b (Int32.ofNat y) (Int32.ofNat (nm (sA S) + 1))) := hI.2.1.congr (fun j hj => by
                unfold put
                rw [up_ne (by omega), up_ne (by omega)])
              refine o_rd (v := Int32.ofNat (sPr (put (sA S) 584 i b (Int32.ofNat y) (Int32.ofNat (nm (sA S) + 1))) i)) (X := fX7_priceIf n 4 _ _ _) hJ hS hW ?_ (fun τ hτ => ?_)
              · unfold fX7_priceIf
                refine wpE (zck_e hJ.x) ?_
                refine wpE (zbx_l (cn_lot hJ v1)) ?_
                refine wpE (zbx_l (cn_bid w1)) ?_
                refine wpE (zbx_l (cn_in hx)) ?_
                refine wpE (zgR_e hJ.x hJ.xs) ?_
                refine wpE (zgR_e hR.1.kS hR.1.r0) ?_
                refine wpE (zck_e hR.1.kT) ?_
                refine wpE (zb_e (c_isStep hR hI.2.1 hy2 (by omega))) ?_
                refine wpE (if_neg (by rw [if_pos hst]; exact one_ne)) ?_
                refine wpE (zgR_e hJ.x hJ.xs) ?_
                refine wpE (zgR_e hR.1.kS hR.1.r3) ?_
                refine wpE (zaRN_e hR.1.kO hR.1.lO hi20 (by decide) (hR.1.rL hi20)) ?_
                refine wpE (zbx_l (cn_st hJ him hi20 h0)) ?_
                refine wpE (zgR_e hJ.x hJ.xv) ?_
                refine wpE (zgR_e hJ.x hJ.xs) ?_
                refine wpE (zgR_e hR.1.kS hR.1.r0) ?_
                refine wpE (zck_e hJ.vw.kV) ?_
                obtain ⟨σ1, e1, J1, F1, st1⟩ := c_settleJ (n := n) hJ hI him (by omega)
                refine wpE (zb_e e1) ?_
                refine wpE (zgR_e J1.x J1.xv) ?_
                refine wpE (zgR_e J1.x J1.xs) ?_
                refine wpE (zgI_e J1.rep.1.kS J1.rep.num) ?_
                refine wpE (zck_e J1.vw.kV) ?_
                rw [e9]
                have hv2 : Vw (stI σ1 (117 + 1) b (Int32.ofNat y)) 117 := J1.vw
                have hv3 : Vw (stI (stI σ1 (117 + 1) b (Int32.ofNat y)) (117 + 2) b (Int32.ofNat (nm (sA S) + 1))) 117 := J1.vw
                have hnm := hI.2.2.2.1.2
                have hA : Arr (stI (stI σ1 (117 + 1) b (Int32.ofNat y)) (117 + 2) b (Int32.ofNat (nm (sA S) + 1))) 117 (lim (put (sA S) 584 i b (Int32.ofNat y) (Int32.ofNat (nm (sA S) + 1))) i) (tim (put (sA S) 584 i b (Int32.ofNat y) (Int32.ofNat (nm (sA S) + 1))) i) := by
                  intro d hd
                  obtain ⟨a1, a2, a3, a4⟩ := st1.1 d hd
                  rw [L2 d hd, L3 d hd]
                  refine ⟨?_, ?_, ?_, ?_⟩
                  · rw [zI_st, if_neg (by omega), zI_st]
                    by_cases e : d = b
                    · rw [if_pos ⟨rfl, e⟩, if_pos e]
                    · rw [if_neg (fun z => e z.2), if_neg e]; exact a1
                  · rw [zI_st]
                    by_cases e : d = b
                    · rw [if_pos ⟨rfl, e⟩, if_pos e]
                    · rw [if_neg (fun z => e z.2), if_neg e, zI_st, if_neg (by omega)]; exact a2
                  · by_cases e : d = b
                    · rw [if_pos e]; omega
                    · rw [if_neg e]; exact a3
                  · by_cases e : d = b
                    · rw [if_pos e]; omega
                    · rw [if_neg e]; exact a4
                obtain ⟨σ2, e2, F2, st2⟩ := c_lead (n := n) hv3 L1 hA (by rw [zI_st, if_neg (by omega), zI_st, if_neg (by omega), L4]; exact st1.2.1) (by omega)
                have er : fX4_raise n 117 (Int32.ofNat b) (Int32.ofNat y) (Int32.ofNat (nm (sA S) + 1)) σ1 = some σ2 := by
                  unfold fX4_raise
                  refine (zgR_e J1.vw.kV J1.vw.v0).trans ((zaN_e J1.vw.kV1 J1.vw.lV1 hb (by decide) (st1.1 b hb).1).trans ((if_pos (elt.symm ▸ hlt)).trans ?_))
                  refine (zgR_e J1.vw.kV J1.vw.v0).trans ((zsN_e J1.vw.kV1 J1.vw.lV1 hb (by decide) rfl).trans ?_)
                  refine (zgR_e hv2.kV hv2.v1).trans ((zsN_e hv2.kV2 hv2.lV2 hb (by decide) rfl).trans ?_)
                  refine (zck_e hv3.kV).trans ((zb_e e2).trans ?_)
                  rfl
                refine wpE (zb_e er) ?_
                have FF : Fr (Pv 117) σ1 σ2 := (((Fr.st ⟨by omega, by omega⟩).trans (Fr.st ⟨by omega, by omega⟩)).trans F2)
                have J2 := J1.v FF
                refine wpE (zgR_e J2.x J2.xv) ?_
                refine wpE (zgR_e J2.x J2.xs) ?_
                refine wpE (zgR_e J2.rep.1.kS J2.rep.1.r0) ?_
                refine wpE (zck_e J2.vw.kV) ?_
                refine wpE (zb_e (c_price2 J2.rep hI.2.1 J2.vw st2 T1 L1 (by omega) (fun z => (tc z).2.symm))) ?_
                exact wp_some ⟨_, rfl, J2, (FC.v F1).trans (FC.v FF)⟩
              · have hT := Tr.one (k := 0) hτ
                have h2 := hT.2.2
                unfold fX8_priceIf
                refine wpE (zck_e hτ.k) ?_
                refine wpE (zb_e (jn_lot hτ v2)) ?_
                refine wpE (if_neg one_ne) ?_
                refine wpE (zb_e (jn_bid w2)) ?_
                refine wpE (if_neg one_ne) ?_
                refine wpE (zb_e (jn_in hx)) ?_
                refine wpE (if_neg one_ne) ?_
                refine wpE (zck_e hτ.k) ?_
                refine wpE (zb_e (j_isStep hτ hI.2.1 (by omega) hy2)) ?_
                refine wpE (if_neg (by rw [if_pos hst]; exact one_ne)) ?_
                refine wpE (zck_e hτ.k) ?_
                refine wpE (zb_e (j_at3 hτ hi20)) ?_
                refine wpE (if_pos h0) ?_
                unfold sX8_priceIf_57
                refine wpE (thr_set hτ) ?_
                refine wpE (if_pos rfl) ?_
                refine wpE (zgR_e h2.k h2.w) ?_
                refine wpE (zaW_e h2 x5 (by omega)) ?_
                refine wpE (zgR_e h2.k h2.w) ?_
                refine wpE (zaW_e h2 x7 (by omega)) ?_
                refine wpE (zck_e h2.k) ?_
                refine wpE (zb_e (j_limitOf h2 hI.2.1 hL (by omega) hi20 hb)) ?_
                refine wpE (if_pos (elt.symm ▸ hlt)) ?_
                refine wpE (zgR_e h2.k h2.w) ?_
                refine wpE (zaW_e (j := 984) h2 rfl (by decide)) ?_
                refine wpE (zck_e h2.k) ?_
                rw [e9]
                obtain ⟨τ3, e3, s3⟩ := jw_putB (n := n) (x := Int32.ofNat y) (y := Int32.ofNat (nm (sA S) + 1)) h2 hi20 hb
                refine wpE (zb_e e3) ?_
                obtain ⟨p4, e4, u4, s4⟩ := j_if130 (n := n) s3.1 T1 L1 hi20 hb (by omega) (sA S (584 + 10 * i + b)) (sA S (784 + 10 * i + b))
                have s4 : Sm τ3 (uA S (put (put (sA S) 584 i b (Int32.ofNat y) (Int32.ofNat (nm (sA S) + 1))) 584 i b (sA S (584 + 10 * i + b)) (sA S (784 + 10 * i + b)))) p4.2 := s4
                rw [put_put] at s4
                exact ⟨p4, e4, u4, Sm.thr hT (s3.tr s4)⟩
            · refine o_rd (v := Int32.ofNat (sPr (sA S) i)) (X := fX7_priceIf n 4 _ _ _) hJ hS hW ?_ (fun τ hτ => ?_)
              · unfold fX7_priceIf
                refine wpE (zck_e hJ.x) ?_
                refine wpE (zbx_l (cn_lot hJ v1)) ?_
                refine wpE (zbx_l (cn_bid w1)) ?_
                refine wpE (zbx_l (cn_in hx)) ?_
                refine wpE (zgR_e hJ.x hJ.xs) ?_
                refine wpE (zgR_e hR.1.kS hR.1.r0) ?_
                refine wpE (zck_e hR.1.kT) ?_
                refine wpE (zb_e (c_isStep hR hI.2.1 hy2 (by omega))) ?_
                refine wpE (if_neg (by rw [if_pos hst]; exact one_ne)) ?_
                refine wpE (zgR_e hJ.x hJ.xs) ?_
                refine wpE (zgR_e hR.1.kS hR.1.r3) ?_
                refine wpE (zaRN_e hR.1.kO hR.1.lO hi20 (by decide) (hR.1.rL hi20)) ?_
                refine wpE (zbx_l (cn_st hJ him hi20 h0)) ?_
                refine wpE (zgR_e hJ.x hJ.xv) ?_
                refine wpE (zgR_e hJ.x hJ.xs) ?_
                refine wpE (zgR_e hR.1.kS hR.1.r0) ?_
                refine wpE (zck_e hJ.vw.kV) ?_
                obtain ⟨σ1, e1, J1, F1, st1⟩ := c_settleJ (n := n) hJ hI him (by omega)
                refine wpE (zb_e e1) ?_
                refine wpE (zgR_e J1.x J1.xv) ?_
                refine wpE (zgR_e J1.x J1.xs) ?_
                refine wpE (zgI_e J1.rep.1.kS J1.rep.num) ?_
                refine wpE (zck_e J1.vw.kV) ?_
                have er : ∀ z : Int32, fX4_raise n 117 (Int32.ofNat b) (Int32.ofNat y) z σ1 = some σ1 := fun z => by
                  unfold fX4_raise
                  refine (zgR_e J1.vw.kV J1.vw.v0).trans ((zaN_e J1.vw.kV1 J1.vw.lV1 hb (by decide) (st1.1 b hb).1).trans ((if_neg (fun z => hlt (elt ▸ z))).trans ?_))
                  rfl
                refine wpE (zb_e (er _)) ?_
                refine wpE (zgR_e J1.x J1.xv) ?_
                refine wpE (zgR_e J1.x J1.xs) ?_
                refine wpE (zgR_e J1.rep.1.kS J1.rep.1.r0) ?_
                refine wpE (zck_e J1.vw.kV) ?_
                refine wpE (zb_e (c_priceJ J1 hI him (by omega) st1)) ?_
                exact wp_some ⟨_, rfl, J1, FC.v F1⟩
              · have hT := Tr.one (k := 0) hτ
                have h2 := hT.2.2
                unfold fX8_priceIf
                refine wpE (zck_e hτ.k) ?_
                refine wpE (zb_e (jn_lot hτ v2)) ?_
                refine wpE (if_neg one_ne) ?_
                refine wpE (zb_e (jn_bid w2)) ?_
                refine wpE (if_neg one_ne) ?_
                refine wpE (zb_e (jn_in hx)) ?_
                refine wpE (if_neg one_ne) ?_
                refine wpE (zck_e hτ.k) ?_
                refine wpE (zb_e (j_isStep hτ hI.2.1 (by omega) hy2)) ?_
                refine wpE (if_neg (by rw [if_pos hst]; exact one_ne)) ?_
                refine wpE (zck_e hτ.k) ?_
                refine wpE (zb_e (j_at3 hτ hi20)) ?_
                refine wpE (if_pos h0) ?_
                unfold sX8_priceIf_57
                refine wpE (thr_set hτ) ?_
                refine wpE (if_pos rfl) ?_
                refine wpE (zgR_e h2.k h2.w) ?_
                refine wpE (zaW_e h2 x5 (by omega)) ?_
                refine wpE (zgR_e h2.k h2.w) ?_
                refine wpE (zaW_e h2 x7 (by omega)) ?_
                refine wpE (zck_e h2.k) ?_
                refine wpE (zb_e (j_limitOf h2 hI.2.1 hL (by omega) hi20 hb)) ?_
                refine wpE (if_neg (fun z => hlt (elt ▸ z))) ?_
                obtain ⟨p4, e4, u4, s4⟩ := j_if130 (n := n) h2 hI.2.1 hL hi20 hb (by omega) (sA S (584 + 10 * i + b)) (sA S (784 + 10 * i + b))
                rw [put_same] at s4
                exact ⟨p4, e4, u4, Sm.thr hT s4⟩
          · refine o_thr (e := 3) (k := 3) (X := fX7_priceIf n 4 _ _ _) hJ hS rfl (by decide) ?_ (fun τ hτ => ?_)
            · unfold fX7_priceIf
              refine wpE (zck_e hJ.x) ?_
              refine wpE (zbx_l (cn_lot hJ v1)) ?_
              refine wpE (zbx_l (cn_bid w1)) ?_
              refine wpE (zbx_l (cn_in hx)) ?_
              refine wpE (zgR_e hJ.x hJ.xs) ?_
              refine wpE (zgR_e hR.1.kS hR.1.r0) ?_
              refine wpE (zck_e hR.1.kT) ?_
              refine wpE (zb_e (c_isStep hR hI.2.1 hy2 (by omega))) ?_
              refine wpE (if_neg (by rw [if_pos hst]; exact one_ne)) ?_
              refine wpE (zgR_e hJ.x hJ.xs) ?_
              refine wpE (zgR_e hR.1.kS hR.1.r3) ?_
              refine wpE (zaRN_e hR.1.kO hR.1.lO hi20 (by decide) (hR.1.rL hi20)) ?_
              refine wpE (zbx_r (cn_st_x hJ rm him hi20 h0)) ?_
              exact wp_some rfl
            · unfold fX8_priceIf
              refine wpE (zck_e hτ.k) ?_
              refine wpE (zb_e (jn_lot hτ v2)) ?_
              refine wpE (if_neg one_ne) ?_
              refine wpE (zb_e (jn_bid w2)) ?_
              refine wpE (if_neg one_ne) ?_
              refine wpE (zb_e (jn_in hx)) ?_
              refine wpE (if_neg one_ne) ?_
              refine wpE (zck_e hτ.k) ?_
              refine wpE (zb_e (j_isStep hτ hI.2.1 (by omega) hy2)) ?_
              refine wpE (if_neg (by rw [if_pos hst]; exact one_ne)) ?_
              refine wpE (zck_e hτ.k) ?_
              refine wpE (zb_e (j_at3 hτ hi20)) ?_
              refine wpE (if_neg h0) ?_
              unfold sX8_priceIf_57
              refine wpE (thr_set hτ) ?_
              refine wpE (if_neg (by decide)) ?_
              exact wp_some (Tr.one hτ)
        · refine o_thr (e := 2) (k := 2) (X := fX7_priceIf n 4 _ _ _) hJ hS rfl (by decide) ?_ (fun τ hτ => ?_)
          · unfold fX7_priceIf
            refine wpE (zck_e hJ.x) ?_
            refine wpE (zbx_l (cn_lot hJ v1)) ?_
            refine wpE (zbx_l (cn_bid w1)) ?_
            refine wpE (zbx_l (cn_in hx)) ?_
            refine wpE (zgR_e hJ.x hJ.xs) ?_
            refine wpE (zgR_e hR.1.kS hR.1.r0) ?_
            refine wpE (zck_e hR.1.kT) ?_
            refine wpE (zb_e (c_isStep hR hI.2.1 hy2 (by omega))) ?_
            refine wpE (if_pos (by rw [if_neg hst])) ?_
            refine wpE (zth_e rm.1 rm.2) ?_
            exact wp_some rfl
          · unfold fX8_priceIf
            refine wpE (zck_e hτ.k) ?_
            refine wpE (zb_e (jn_lot hτ v2)) ?_
            refine wpE (if_neg one_ne) ?_
            refine wpE (zb_e (jn_bid w2)) ?_
            refine wpE (if_neg one_ne) ?_
            refine wpE (zb_e (jn_in hx)) ?_
            refine wpE (if_neg one_ne) ?_
            refine wpE (zck_e hτ.k) ?_
            refine wpE (zb_e (j_isStep hτ hI.2.1 (by omega) hy2)) ?_
            refine wpE (if_pos (by rw [if_neg hst])) ?_
            unfold sX8_priceIf_38 sX8_priceIf_57
            refine wpE (thr_set hτ) ?_
            refine wpE (if_neg (by decide)) ?_
            exact wp_some (Tr.one hτ)
      · refine o_thr (e := 2) (k := 2) (X := fX7_priceIf n 4 _ _ _) hJ hS rfl (by decide) ?_ (fun τ hτ => ?_)
        · unfold fX7_priceIf
          refine wpE (zck_e hJ.x) ?_
          refine wpE (zbx_l (cn_lot hJ v1)) ?_
          refine wpE (zbx_l (cn_bid w1)) ?_
          refine wpE (zbx_r (cn_in_x rm hx)) ?_
          exact wp_some rfl
        · unfold fX8_priceIf
          refine wpE (zck_e hτ.k) ?_
          refine wpE (zb_e (jn_lot hτ v2)) ?_
          refine wpE (if_neg one_ne) ?_
          refine wpE (zb_e (jn_bid w2)) ?_
          refine wpE (if_neg one_ne) ?_
          refine wpE (zb_e (jn_in_x hx)) ?_
          refine wpE (if_pos rfl) ?_
          unfold sX8_priceIf_38 sX8_priceIf_57
          refine wpE (thr_set hτ) ?_
          refine wpE (if_neg (by decide)) ?_
          exact wp_some (Tr.one hτ)
    · refine o_thr (e := 1) (k := 1) (X := fX7_priceIf n 4 _ _ _) hJ hS rfl (by decide) ?_ (fun τ hτ => ?_)
      · unfold fX7_priceIf
        refine wpE (zck_e hJ.x) ?_
        refine wpE (zbx_l (cn_lot hJ v1)) ?_
        refine wpE (zbx_r (cn_bid_x rm w1)) ?_
        exact wp_some rfl
      · unfold fX8_priceIf
        refine wpE (zck_e hτ.k) ?_
        refine wpE (zb_e (jn_lot hτ v2)) ?_
        refine wpE (if_neg one_ne) ?_
        refine wpE (zb_e (jn_bid_x w2)) ?_
        refine wpE (if_pos rfl) ?_
        unfold sX8_priceIf_16 sX8_priceIf_57
        refine wpE (thr_set hτ) ?_
        refine wpE (if_neg (by decide)) ?_
        exact wp_some (Tr.one hτ)
  · refine o_thr (e := 1) (k := 1) (X := fX7_priceIf n 4 _ _ _) hJ hS rfl (by decide) ?_ (fun τ hτ => ?_)
    · unfold fX7_priceIf
      refine wpE (zck_e hJ.x) ?_
      refine wpE (zbx_r (cn_lot_x hJ rm v1)) ?_
      exact wp_some rfl
    · unfold fX8_priceIf
      refine wpE (zck_e hτ.k) ?_
      refine wpE (zb_e (jn_lot_x hτ v2)) ?_
      refine wpE (if_pos rfl) ?_
      unfold sX8_priceIf_16 sX8_priceIf_57
      refine wpE (thr_set hτ) ?_
      refine wpE (if_neg (by decide)) ?_
      exact wp_some (Tr.one hτ)
end
