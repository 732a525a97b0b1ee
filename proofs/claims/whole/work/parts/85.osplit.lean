section
variable {σ τ : zW} {S S' : St} {c n B i : Nat}
theorem o_split (hJ : JC σ S c) (hW : zK σ 131 = 23 ∧ zL σ 131 = 1) (hS : SI S (100 * c)) (hcc : c ≤ 512) (hn : 30000 < n) (p q : Int32) : OPR (fL_split n 4 p q 131) (fX8_split n 125 p q) σ S c := by
  have rm := hJ.room (by omega)
  have hR := hJ.rep
  have hI := hS.1
  have hC := hI.1
  have e23 := hC.1
  have hm := hC.2.1
  rcases lot_cases hI.1 p with ⟨i, rfl, him, hi20, v1, v2⟩ | ⟨v1, v2⟩
  · obtain ⟨hL, ⟨q1, q2, q3⟩, ⟨s1, s2⟩, -⟩ := hI.2.2.1 i him
    have bad2 : ∀ τ, JR τ S → wp (sX8_split_40 n 125 (stI τ 125 0 0)) (fun r => Tr τ S 2 r.2) := fun τ hτ => by
      unfold sX8_split_40
      exact fin_fail hτ
    have bad3 : ∀ τ, JR τ S → wp (sX8_split_91 n 125 (stI τ 125 0 0)) (fun r => Tr τ S 3 r.2) := fun τ hτ => by
      unfold sX8_split_91
      exact fin_fail hτ
    by_cases g1 : 2 ≤ q ∧ q ≤ 4
    · obtain ⟨pp, rfl, hp2, hp4⟩ := in_cases 2 4 (by decide) (by decide) g1
      have lQ : (Int32.ofNat (qQ (sA S) i) < Int32.ofNat pp) = (qQ (sA S) i < pp) := io_lt (by omega) (by omega)
      by_cases g2 : qQ (sA S) i < pp
      · refine o_thr (e := 2) (k := 2) (X := fX7_split n 4 _ _) hJ hS rfl (by decide) ?_ (fun τ hτ => ?_)
        · unfold fX7_split
          refine wpE (zck_e hJ.x) ?_
          refine wpE (zbx_l (cn_lot hJ v1)) ?_
          refine wpE (zgR_e hJ.x hJ.xs) ?_
          refine wpE (zgR_e hR.1.kS hR.1.r3) ?_
          refine wpE (zaRN_e hR.1.kO hR.1.lO hi20 (by decide) (hR.1.rL hi20)) ?_
          refine wpE (zbx_l (cn_in g1)) ?_
          refine wpE (zgI_e (hR.1.kL hi20) ((hR.l1 hi20 him).trans q1)) ?_
          refine wpE (zbx_r (cn_in_x rm (fun z => Int32.not_lt.mpr z.2 (lQ.symm ▸ g2)))) ?_
          exact wp_some rfl
        · have t2 := (Tr.one (k := 0) hτ).2.2
          unfold fX8_split
          refine wpE (zpI_e hτ.k rfl) ?_
          refine wpE (zck_e t2.k) ?_
          refine wpE (zb_e (jn_lot t2 v2)) ?_
          refine wpE (if_neg one_ne) ?_
          refine wpE (zck_e t2.k) ?_
          refine wpE (zb_e ((j_at1 t2 hi20).trans (congrArg some q1))) ?_
          refine wpE (zb_e (jn_in g1)) ?_
          refine wpE (if_neg one_ne) ?_
          refine wpE (if_pos (lQ.symm ▸ g2)) ?_
          exact bad2 τ hτ
      · have g2' : 2 ≤ Int32.ofNat pp ∧ Int32.ofNat pp ≤ Int32.ofNat (qQ (sA S) i) := ⟨g1.1, Int32.not_lt.mp (fun z => g2 (lQ ▸ z))⟩
        have hcR : ∀ (τ : zW), JR τ S → ∀ Q : Int32 × zW → Prop, wp (zck (stI τ 125 0 0) 9 125 (zb (fX8_at n 125 (Int32.ofNat i) 3 (stI τ 125 0 0)) fun x24 => if x24 = 0 then zgR (stI τ 125 0 0) 9 125 1 fun x25 => zaI (stI τ 125 0 0) x25 23 fun x26 => if 20 < (x26 + Int32.ofNat pp) then sX8_split_91 n 125 (stI τ 125 0 0) else zck (stI τ 125 0 0) 9 125 (zb (fX8_allOrders n 125 (stI τ 125 0 0)) fun x27 => zck (stI τ 125 0 0) 9 125 (zb (fX8_ordersOf n 125 (Int32.ofNat i) (stI τ 125 0 0)) fun x28 => zck (stI τ 125 0 0) 9 125 (zb (fX8_splitOrders n 125 (Int32.ofNat i) (Int32.ofNat pp) (stI τ 125 0 0)) fun x29 => if 40 < ((x27 - x28) + x29) then sX8_split_91 n 125 (stI τ 125 0 0) else zck (stI τ 125 0 0) 9 125 (zb (fX8_keep n 125 (stI τ 125 0 0)) fun σ30 => zgR σ30 9 125 1 fun x31 => zaI σ30 x31 23 fun x32 => sX8_split_113 n n 125 (Int32.ofNat i) (Int32.ofNat pp) (Int32.ofNat (qQ (sA S) i)) x32 0 σ30)))) else sX8_split_91 n 125 (stI τ 125 0 0))) Q → wp (fX8_split n 125 (Int32.ofNat i) (Int32.ofNat pp) τ) Q := fun τ hτ Q h => by
          have t2 := (Tr.one (k := 0) hτ).2.2
          unfold fX8_split
          refine wpE (zpI_e hτ.k rfl) ?_
          refine wpE (zck_e t2.k) ?_
          refine wpE (zb_e (jn_lot t2 v2)) ?_
          refine wpE (if_neg one_ne) ?_
          refine wpE (zck_e t2.k) ?_
          refine wpE (zb_e ((j_at1 t2 hi20).trans (congrArg some q1))) ?_
          refine wpE (zb_e (jn_in g1)) ?_
          refine wpE (if_neg one_ne) ?_
          refine wpE (if_neg (fun z => g2 (lQ ▸ z))) ?_
          exact h
        by_cases h0 : sA S (24 + 8 * i + 3) = 0
        · have lr : (20 < sA S 23 + Int32.ofNat pp) = (20 < mk (sA S) + pp) := by
            rw [e23, ixl]
            exact io_lt (a := 20) (by decide) (by omega)
          by_cases g3 : 20 < mk (sA S) + pp
          · refine o_thr (e := 3) (k := 3) (X := fX7_split n 4 _ _) hJ hS rfl (by decide) ?_ (fun τ hτ => hcR τ hτ _ ?_)
            · unfold fX7_split
              refine wpE (zck_e hJ.x) ?_
              refine wpE (zbx_l (cn_lot hJ v1)) ?_
              refine wpE (zgR_e hJ.x hJ.xs) ?_
              refine wpE (zgR_e hR.1.kS hR.1.r3) ?_
              refine wpE (zaRN_e hR.1.kO hR.1.lO hi20 (by decide) (hR.1.rL hi20)) ?_
              refine wpE (zbx_l (cn_in g1)) ?_
              refine wpE (zgI_e (hR.1.kL hi20) ((hR.l1 hi20 him).trans q1)) ?_
              refine wpE (zbx_l (cn_in g2')) ?_
              refine wpE (zbx_l (cn_st hJ him hi20 h0)) ?_
              refine wpE (zck_e hJ.x) ?_
              refine wpE (zbx_r (cn_room_x hJ rm (lr.symm ▸ g3))) ?_
              exact wp_some rfl
            · have t2 := (Tr.one (k := 0) hτ).2.2
              refine wpE (zck_e t2.k) ?_
              refine wpE (zb_e (j_at3 t2 hi20)) ?_
              refine wpE (if_pos h0) ?_
              refine wpE (zgR_e t2.k t2.w) ?_
              refine wpE (zaW_e (j := 23) t2 rfl (by decide)) ?_
              refine wpE (if_pos (lr.symm ▸ g3)) ?_
              exact bad3 τ hτ
          · have sp := spl_of hI him
            have ho := onm_le_tot him
            have hT := hI.2.2.2.2.1
            have hpc : nac (pcn (qM (sA S) i) (qQ (sA S) i) pp) 0 pp ≤ pp * 10 := nac_le pp 0 (fun k _ _ => by
              have := nac_le (g := pos1 (sF (qM (sA S) i) (qQ (sA S) i) (qpt (qQ (sA S) i) pp k))) (M := 1) 10 0 (fun b _ _ => by unfold pos1; split <;> omega)
              unfold pcn
              omega)
            have ls : (40 < (Int32.ofNat (tot (sA S)) - Int32.ofNat (onm (sA S) i)) + Int32.ofNat (0 + nac (pcn (qM (sA S) i) (qQ (sA S) i) pp) 0 pp)) = (40 < tot (sA S) - onm (sA S) i + nac (pcn (qM (sA S) i) (qQ (sA S) i) pp) 0 pp) := by
              rw [io_sub ho, ixl, Nat.zero_add]
              exact io_lt (a := 40) (by decide) (by omega)
            have cA : fX3_orderCount n 5 σ = some (Int32.ofNat (tot (sA S))) := (c_orderCount hR hC (by omega)).trans (congrArg some tot_zsm)
            have cB : fX2_orderCount n (lo 5 i) σ = some (Int32.ofNat (onm (sA S) i)) := (c_ordersLot hR hm (by omega) him).trans (congrArg some oc_onm)
            have cD : fX2_ordersOfParts n (lo 5 i) (Int32.ofNat pp) σ = some (Int32.ofNat (0 + nac (pcn (qM (sA S) i) (qQ (sA S) i) pp) 0 pp)) := by
              unfold fX2_ordersOfParts
              exact c_oop4 hJ sp hp2 hp4 (by omega) q3 (by omega) pp n 0 0 (by omega) (by omega)
            have rA : ∀ τ, JR τ S → fX8_allOrders n 125 τ = some (Int32.ofNat (tot (sA S))) := fun τ t => (j_allOrders t hC (by omega)).trans (congrArg some tot_zsm)
            have rB : ∀ τ, JR τ S → fX8_ordersOf n 125 (Int32.ofNat i) τ = some (Int32.ofNat (onm (sA S) i)) := fun τ t => (j_ordersOf t (by omega) hi20).trans (congrArg some oc_onm)
            have rD : ∀ τ, JR τ S → fX8_splitOrders n 125 (Int32.ofNat i) (Int32.ofNat pp) τ = some (Int32.ofNat (0 + nac (pcn (qM (sA S) i) (qQ (sA S) i) pp) 0 pp)) := fun τ t => by
              unfold fX8_splitOrders
              refine (zck_e t.k).trans ((zb_e ((j_at1 t hi20).trans (congrArg some q1))).trans ?_)
              exact j_so13 t sp hp2 hp4 (by omega) q3 (by omega) pp n 0 0 (by omega) (by omega)
            by_cases g4 : 40 < tot (sA S) - onm (sA S) i + nac (pcn (qM (sA S) i) (qQ (sA S) i) pp) 0 pp
            · refine o_thr (e := 3) (k := 3) (X := fX7_split n 4 _ _) hJ hS rfl (by decide) ?_ (fun τ hτ => hcR τ hτ _ ?_)
              · unfold fX7_split
                refine wpE (zck_e hJ.x) ?_
                refine wpE (zbx_l (cn_lot hJ v1)) ?_
                refine wpE (zgR_e hJ.x hJ.xs) ?_
                refine wpE (zgR_e hR.1.kS hR.1.r3) ?_
                refine wpE (zaRN_e hR.1.kO hR.1.lO hi20 (by decide) (hR.1.rL hi20)) ?_
                refine wpE (zbx_l (cn_in g1)) ?_
                refine wpE (zgI_e (hR.1.kL hi20) ((hR.l1 hi20 him).trans q1)) ?_
                refine wpE (zbx_l (cn_in g2')) ?_
                refine wpE (zbx_l (cn_st hJ him hi20 h0)) ?_
                refine wpE (zck_e hJ.x) ?_
                refine wpE (zbx_l (cn_room hJ (fun z => g3 (lr ▸ z)))) ?_
                refine wpE (zgR_e hJ.x hJ.xs) ?_
                refine wpE (zck_e hR.1.kS) ?_
                refine wpE (zb_e cA) ?_
                refine wpE (zck_e (hR.1.kL hi20)) ?_
                refine wpE (zb_e cB) ?_
                refine wpE (zck_e (hR.1.kL hi20)) ?_
                refine wpE (zb_e cD) ?_
                refine wpE (if_pos (ls.symm ▸ g4)) ?_
                refine wpE (zth_e rm.1 rm.2) ?_
                exact wp_some rfl
              · have t2 := (Tr.one (k := 0) hτ).2.2
                refine wpE (zck_e t2.k) ?_
                refine wpE (zb_e (j_at3 t2 hi20)) ?_
                refine wpE (if_pos h0) ?_
                refine wpE (zgR_e t2.k t2.w) ?_
                refine wpE (zaW_e (j := 23) t2 rfl (by decide)) ?_
                refine wpE (if_neg (fun z => g3 (lr ▸ z))) ?_
                refine wpE (zck_e t2.k) ?_
                refine wpE (zb_e (rA _ t2)) ?_
                refine wpE (zck_e t2.k) ?_
                refine wpE (zb_e (rB _ t2)) ?_
                refine wpE (zck_e t2.k) ?_
                refine wpE (zb_e (rD _ t2)) ?_
                refine wpE (if_pos (ls.symm ▸ g4)) ?_
                exact bad3 τ hτ
            · have hG := srow_inv (p := pp) hI (by omega) him hp2 hp4 (by omega) (by omega) (by omega)
              have hps := ps_spl (p := pp) (s := Int32.ofNat (qS (sA S) i)) pp 0 (sA S) sp (by omega)
              have hcn : Cn (up (rmK (ps (qM (sA S) i) (qQ (sA S) i) (qR (sA S) i) (Int32.ofNat (qS (sA S) i)) pp pp 0 (sA S)) 184 i 10) (24 + 8 * i + 3) 5) := hps.1.2.2.2.2.2.cong (by rw [up_ne (by omega), rm_old (by omega)]) (by rw [up_ne (by omega), rm_old (by omega)])
              refine o_ok (v := Int32.ofNat (mk (sA S))) (S' := uA (keepS S) (srow (sA S) i pp)) (X := fX7_split n 4 _ _) hJ hW (hS.keep.row (hG.mono (by omega)) (by omega)) ?_ (fun τ hτ => hcR τ hτ _ ?_)
              · unfold fX7_split
                refine wpE (zck_e hJ.x) ?_
                refine wpE (zbx_l (cn_lot hJ v1)) ?_
                refine wpE (zgR_e hJ.x hJ.xs) ?_
                refine wpE (zgR_e hR.1.kS hR.1.r3) ?_
                refine wpE (zaRN_e hR.1.kO hR.1.lO hi20 (by decide) (hR.1.rL hi20)) ?_
                refine wpE (zbx_l (cn_in g1)) ?_
                refine wpE (zgI_e (hR.1.kL hi20) ((hR.l1 hi20 him).trans q1)) ?_
                refine wpE (zbx_l (cn_in g2')) ?_
                refine wpE (zbx_l (cn_st hJ him hi20 h0)) ?_
                refine wpE (zck_e hJ.x) ?_
                refine wpE (zbx_l (cn_room hJ (fun z => g3 (lr ▸ z)))) ?_
                refine wpE (zgR_e hJ.x hJ.xs) ?_
                refine wpE (zck_e hR.1.kS) ?_
                refine wpE (zb_e cA) ?_
                refine wpE (zck_e (hR.1.kL hi20)) ?_
                refine wpE (zb_e cB) ?_
                refine wpE (zck_e (hR.1.kL hi20)) ?_
                refine wpE (zb_e cD) ?_
                refine wpE (if_neg (fun z => g4 (ls ▸ z))) ?_
                refine wpE (zgR_e hJ.x hJ.xh) ?_
                refine wpE (zgR_e hJ.x hJ.xs) ?_
                refine wpE (zck_e hJ.kh) ?_
                obtain ⟨σ1, e1, J1, F1⟩ := cw_keep (n := n) hJ hI.1 (by omega) (by omega)
                have R1 := J1.rep
                refine wpE (zb_e e1) ?_
                refine wpE (zgR_e J1.x J1.xs) ?_
                refine wpE (zgI_e R1.1.kS (R1.cnt.trans e23)) ?_
                refine c_split97 hp2 hp4 (show pp ≤ qQ (sA S) i by omega) q3 (by omega) pp n 0 σ1 (keepS S) J1 sp (show mk (sA S) + pp ≤ 20 by omega) (by omega) (by omega) (fun σ2 w2 => ?_)
                unfold srow
                refine wpE (zpI_e (w2.1.rep.1.kL hi20) rfl) ?_
                have w3 := cw_fld (x := 5) w2.1 hi20 (by omega) (slo_l3 hi20) (by omega) (by omega)
                refine wpE (zck_e (w3.1.rep.1.kL hi20)) ?_
                obtain ⟨σ5, e5, w5⟩ := cw_rmO (n := n) w3.1 (by omega) hi20
                have w5' : Cw (stI σ2 (lo 5 i) 4 5) (uA (keepS S) (up (rmK (ps (qM (sA S) i) (qQ (sA S) i) (qR (sA S) i) (Int32.ofNat (qS (sA S) i)) pp pp 0 (sA S)) 184 i 10) (24 + 8 * i + 3) 5)) c σ5 := by
                  rw [← up_rm (by omega)]
                  exact w5
                have J5 := w5'.1
                refine wpE (zb_e e5) ?_
                refine wpE (zgR_e J5.x J5.xs) ?_
                refine wpE (zgR_e J5.rep.1.kS J5.rep.1.r4) ?_
                refine wpE (zck_e J5.rep.1.kG) ?_
                obtain ⟨σ7, e7, w7⟩ := cw_note (n := n) (κ := 6) (l := Int32.ofNat i) (β := -1) (x := Int32.ofNat (mk (sA S))) J5 hcn
                refine wpE (zb_e e7) ?_
                exact fin_ok rfl ((((Cw.tr ⟨J1, F1⟩ w2).tr w3).tr w5').tr w7)
              · have hT := Tr.one (k := 0) hτ
                have t2 := hT.2.2
                refine wpE (zck_e t2.k) ?_
                refine wpE (zb_e (j_at3 t2 hi20)) ?_
                refine wpE (if_pos h0) ?_
                refine wpE (zgR_e t2.k t2.w) ?_
                refine wpE (zaW_e (j := 23) t2 rfl (by decide)) ?_
                refine wpE (if_neg (fun z => g3 (lr ▸ z))) ?_
                refine wpE (zck_e t2.k) ?_
                refine wpE (zb_e (rA _ t2)) ?_
                refine wpE (zck_e t2.k) ?_
                refine wpE (zb_e (rB _ t2)) ?_
                refine wpE (zck_e t2.k) ?_
                refine wpE (zb_e (rD _ t2)) ?_
                refine wpE (if_neg (fun z => g4 (ls ▸ z))) ?_
                refine wpE (zck_e t2.k) ?_
                obtain ⟨τ1, e1, x1⟩ := jw_keep (n := n) t2 hn
                have e23' : sA (keepS S) 23 = Int32.ofNat (mk (sA S)) := e23
                refine wpE (zb_e e1) ?_
                refine wpE (zgR_e x1.1.k x1.1.w) ?_
                refine wpE (zaW_e (j := 23) x1.1 rfl (by decide)) ?_
                rw [e23']
                refine j_split113 hp2 hp4 (show pp ≤ qQ (sA S) i by omega) q3 (by omega) pp n 0 τ1 (keepS S) x1.1 sp (show mk (sA S) + pp ≤ 20 by omega) (by omega) (by omega) (fun τ2 x2 => ?_)
                unfold srow
                refine wpE (zck_e x2.1.k) ?_
                obtain ⟨p4, e4, u4, x4⟩ := jw_rmO (n := n) x2.1 (by omega) hi20
                refine wpE (zb2_e (v := p4.1) (s := p4.2) e4) ?_
                refine wpE (zck_e x4.1.k) ?_
                obtain ⟨τ6, e6, x6⟩ := jw_set (n := n) (p := 3) (x := 5) x4.1 hi20 (by decide)
                refine wpE (zb_e e6) ?_
                refine wpE (zck_e x6.1.k) ?_
                obtain ⟨τ8, e8, x8⟩ := jw_note (n := n) (κ := 6) (l := Int32.ofNat i) (β := -1) (x := Int32.ofNat (mk (sA S))) x6.1 hcn
                refine wpE (zb_e e8) ?_
                exact wp_some ⟨rfl, Sm.thr hT ((((x1.tr x2).tr x4).tr x6).tr x8)⟩
        · refine o_thr (e := 3) (k := 3) (X := fX7_split n 4 _ _) hJ hS rfl (by decide) ?_ (fun τ hτ => hcR τ hτ _ ?_)
          · unfold fX7_split
            refine wpE (zck_e hJ.x) ?_
            refine wpE (zbx_l (cn_lot hJ v1)) ?_
            refine wpE (zgR_e hJ.x hJ.xs) ?_
            refine wpE (zgR_e hR.1.kS hR.1.r3) ?_
            refine wpE (zaRN_e hR.1.kO hR.1.lO hi20 (by decide) (hR.1.rL hi20)) ?_
            refine wpE (zbx_l (cn_in g1)) ?_
            refine wpE (zgI_e (hR.1.kL hi20) ((hR.l1 hi20 him).trans q1)) ?_
            refine wpE (zbx_l (cn_in g2')) ?_
            refine wpE (zbx_r (cn_st_x hJ rm him hi20 h0)) ?_
            exact wp_some rfl
          · have t2 := (Tr.one (k := 0) hτ).2.2
            refine wpE (zck_e t2.k) ?_
            refine wpE (zb_e (j_at3 t2 hi20)) ?_
            refine wpE (if_neg h0) ?_
            exact bad3 τ hτ
    · refine o_thr (e := 2) (k := 2) (X := fX7_split n 4 _ _) hJ hS rfl (by decide) ?_ (fun τ hτ => ?_)
      · unfold fX7_split
        refine wpE (zck_e hJ.x) ?_
        refine wpE (zbx_l (cn_lot hJ v1)) ?_
        refine wpE (zgR_e hJ.x hJ.xs) ?_
        refine wpE (zgR_e hR.1.kS hR.1.r3) ?_
        refine wpE (zaRN_e hR.1.kO hR.1.lO hi20 (by decide) (hR.1.rL hi20)) ?_
        refine wpE (zbx_r (cn_in_x rm g1)) ?_
        exact wp_some rfl
      · have t2 := (Tr.one (k := 0) hτ).2.2
        unfold fX8_split
        refine wpE (zpI_e hτ.k rfl) ?_
        refine wpE (zck_e t2.k) ?_
        refine wpE (zb_e (jn_lot t2 v2)) ?_
        refine wpE (if_neg one_ne) ?_
        refine wpE (zck_e t2.k) ?_
        refine wpE (zb_e ((j_at1 t2 hi20).trans (congrArg some q1))) ?_
        refine wpE (zb_e (jn_in_x g1)) ?_
        refine wpE (if_pos rfl) ?_
        exact bad2 τ hτ
  · refine o_thr (e := 1) (k := 1) (X := fX7_split n 4 _ _) hJ hS rfl (by decide) ?_ (fun τ hτ => ?_)
    · unfold fX7_split
      refine wpE (zck_e hJ.x) ?_
      refine wpE (zbx_r (cn_lot_x hJ rm v1)) ?_
      exact wp_some rfl
    · have t2 := (Tr.one (k := 0) hτ).2.2
      unfold fX8_split
      refine wpE (zpI_e hτ.k rfl) ?_
      refine wpE (zck_e t2.k) ?_
      refine wpE (zb_e (jn_lot_x t2 v2)) ?_
      refine wpE (if_pos rfl) ?_
      exact fin_fail hτ
end
