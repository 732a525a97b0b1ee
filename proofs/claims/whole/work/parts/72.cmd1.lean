/-! ORDERS ARE GIVEN AND CANCELLED, LOTS OPENED AND WITHDRAWN -/
theorem mk_up {a : Nat → Int32} {j : Nat} {v : Int32} (h : j ≠ 23) : mk (up a j v) = mk a := by
  unfold mk
  rw [up_ne (Ne.symm h)]
theorem mk_put {a : Nat → Int32} {c i b : Nat} {x y : Int32} (h : 184 ≤ c) : mk (put a c i b x y) = mk a := by
  unfold put
  rw [mk_up (by omega), mk_up (by omega)]
theorem mk_num {a : Nat → Int32} : mk (rNum a) = mk a := mk_up (by omega)
theorem mk_rm {a : Nat → Int32} {c i k : Nat} (h : 184 ≤ c) : mk (rmK a c i k) = mk a := by
  unfold mk rmK
  rw [if_neg (by omega)]
theorem rO_zero {a : Nat → Int32} {i b : Nat} {x : Int32} (h : rO a i b x = 0) : ¬ (a (184 + 10 * i + b) = 0 ∧ tot a = 40) := by
  intro q
  unfold rO at h
  by_cases h1 : a (24 + 8 * i + 3) = 0 ∨ a (24 + 8 * i + 3) = 1
  · rw [if_pos h1] at h
    by_cases h2 : a (184 + 10 * i + b) < x
    · rw [if_pos h2] at h
      by_cases h3 : a (13 + b) < x
      · rw [if_pos h3] at h; exact absurd h (by decide)
      · rw [if_neg h3, if_pos q] at h; exact absurd h (by decide)
    · rw [if_neg h2] at h; exact absurd h (by decide)
  · rw [if_neg h1] at h; exact absurd h (by decide)
section
variable {S : St} {B c n : Nat}
theorem cmd_order (hS : SI S B) (hB : B < 100000000) (hn : 30000 < n) (hcc : c ≤ 100000) (p q x : Int32) : CMD (fX7_tryOrder n 4 p q x) (fX8_order n 125 p q x) S B c lkO := by
  have hI := hS.1
  rcases lot_cases hI.1 p with ⟨i, rfl, him, hi20, v1, v2⟩ | ⟨v1, v2⟩
  · rcases bid_cases q with ⟨b, rfl, hb, w1, w2⟩ | ⟨w1, w2⟩
    · by_cases hx : 1 ≤ x ∧ x ≤ 90000
      · obtain ⟨y, rfl, hy1, hy2⟩ := in_cases 1 90000 (by decide) (by decide) hx
        have nx1 : ¬ Int32.ofNat y < 1 := Int32.not_lt.mpr hx.1
        have nx2 : ¬ 90000 < Int32.ofNat y := Int32.not_lt.mpr hx.2
        by_cases hr : rO (sA S) i b (Int32.ofNat y) = 0
        · have h0 := rO_zero hr
          have hm0 := ((hI.lt him).2.1 b hb).1
          have I1 := hI.order him hb hy2 hB (by
            by_cases t : tot (sA S) < 40
            · exact Or.inl t
            · have t2 := hI.2.2.2.2.1
              refine Or.inr (Or.inl ?_)
              rw [hm0.1, io_pos (by omega)]
              by_cases z : qM (sA S) i b = 0
              · exact absurd ⟨by rw [hm0.1, z]; rfl, by omega⟩ h0
              · omega)
          have I2 := I1.note (κ := 0) (l := Int32.ofNat i) (β := Int32.ofNat b) (x := Int32.ofNat y) rfl (by rw [mk_put (by omega), mk_num]; exact him)
          refine ⟨Int32.ofNat (tot (rNote (put (rNum (sA S)) 184 i b (Int32.ofNat y) (sA S 984 + 1)) 0 (Int32.ofNat i) (Int32.ofNat b) (Int32.ofNat y))), 0, uA (keepS S) (rNote (put (rNum (sA S)) 184 i b (Int32.ofNat y) (sA S 984 + 1)) 0 (Int32.ofNat i) (Int32.ofNat b) (Int32.ofNat y)), ⟨hS.keep.row I2 (by omega), rfl⟩, Or.inl ⟨io_ge0 (by have := I2.2.2.2.2.1; omega), rfl⟩, fun σ hJ => ?_, fun τ hτ => ?_⟩
          · have hR := hJ.rep
            unfold fX7_tryOrder
            refine wpE (zgR_e hJ.x hJ.xs) ?_
            refine wpE (zck_e hR.1.kS) ?_
            refine wpE (zb_e (has_y hJ v1)) ?_
            refine wpE (if_neg one_ne) ?_
            refine wpE (zb_e (isb_y w1)) ?_
            refine wpE (if_neg one_ne) ?_
            refine wpE (if_neg nx1) ?_
            refine wpE (if_neg nx2) ?_
            refine wpE (zgR_e hJ.x hJ.xs) ?_
            refine wpE (zgR_e hR.1.kS hR.1.r3) ?_
            refine wpE (zaRN_e hR.1.kO hR.1.lO hi20 (by decide) (hR.1.rL hi20)) ?_
            refine wpE (zck_e hJ.x) ?_
            refine wpE (zb_e (c_orderReason hJ hI him hb (by omega) _)) ?_
            refine wpE (if_pos hr) ?_
            refine wpE (zgR_e hJ.x hJ.xh) ?_
            refine wpE (zgR_e hJ.x hJ.xs) ?_
            refine wpE (zck_e hJ.kh) ?_
            obtain ⟨σ1, e1, J1, F1⟩ := cw_keep (n := n) hJ hI.1 (by omega) hcc
            refine wpE (zb_e e1) ?_
            refine wpE (zgR_e J1.x J1.xs) ?_
            refine wpE (zck_e J1.rep.1.kS) ?_
            obtain ⟨p2, e2, u2, J2, F2⟩ := cw_num (n := n) J1
            refine wpE (zb2_e (v := p2.1) (s := p2.2) e2) ?_
            rw [u2]
            refine wpE (zck_e (J2.rep.1.kL hi20)) ?_
            obtain ⟨σ3, e3, J3, F3⟩ := cw_putO (n := n) (x := Int32.ofNat y) (y := sA (keepS S) 984 + 1) J2 hi20 hb
            refine wpE (zb_e e3) ?_
            refine wpE (zgR_e J3.x J3.xs) ?_
            refine wpE (zgR_e J3.rep.1.kS J3.rep.1.r4) ?_
            refine wpE (zck_e J3.rep.1.kG) ?_
            obtain ⟨σ4, e4, J4, F4⟩ := cw_note (n := n) (κ := 0) (l := Int32.ofNat i) (β := Int32.ofNat b) (x := Int32.ofNat y) J3 I1.1
            refine wpE (zb_e e4) ?_
            refine wpE (zgR_e J4.x J4.xs) ?_
            refine wpE (zck_e J4.rep.1.kS) ?_
            refine wpE (zb_e ((c_orderCount J4.rep I2.1 (by omega)).trans (congrArg some tot_zsm))) ?_
            exact wp_some ⟨rfl, J4, ((F1.trans F2).trans F3).trans F4⟩
          · have hT := Tr.one (k := 0) hτ
            have h1 := hT.2.2
            unfold fX8_order
            refine wpE (zck_e hτ.k) ?_
            refine wpE (zb_e (jn_lot hτ v2)) ?_
            refine wpE (if_neg one_ne) ?_
            refine wpE (zb_e (jn_bid w2)) ?_
            refine wpE (if_neg one_ne) ?_
            refine wpE (zb_e (jn_in hx)) ?_
            refine wpE (if_neg one_ne) ?_
            unfold sX8_order_35
            refine wpE (thr_set hτ) ?_
            refine wpE (if_pos rfl) ?_
            refine wpE (zck_e h1.k) ?_
            refine wpE (zb_e (j_orderRefusal h1 hI him hb (by omega) _)) ?_
            refine wpE (if_pos hr) ?_
            refine wpE (zck_e h1.k) ?_
            obtain ⟨τ1, e1, s1⟩ := jw_keep (n := n) h1 hn
            refine wpE (zb_e e1) ?_
            refine wpE (zck_e s1.1.k) ?_
            obtain ⟨p2, e2, u2, s2⟩ := jw_num (n := n) s1.1
            refine wpE (zb2_e (v := p2.1) (s := p2.2) e2) ?_
            rw [u2]
            refine wpE (zck_e s2.1.k) ?_
            obtain ⟨τ3, e3, s3⟩ := jw_putO (n := n) (x := Int32.ofNat y) (y := sA (keepS S) 984 + 1) s2.1 hi20 hb
            refine wpE (zb_e e3) ?_
            refine wpE (zck_e s3.1.k) ?_
            obtain ⟨τ4, e4, s4⟩ := jw_note (n := n) (κ := 0) (l := Int32.ofNat i) (β := Int32.ofNat b) (x := Int32.ofNat y) s3.1 I1.1
            refine wpE (zb_e e4) ?_
            refine wpE (zck_e s4.1.k) ?_
            refine wpE (zb_e ((j_allOrders s4.1 I2.1 (by omega)).trans (congrArg some tot_zsm))) ?_
            have hF := Sm.thr hT (((s1.tr s2).tr s3).tr s4)
            exact wp_some ⟨hF.1, fun _ => rfl, hF.2.2, hF.2.1⟩
        · refine ⟨-5, 3, uR S (rO (sA S) i b (Int32.ofNat y)), ⟨hS.mono (by omega), rfl⟩, Or.inr (Or.inr (Or.inr ⟨rfl, rfl⟩)), fun σ hJ => ?_, fun τ hτ => ?_⟩
          · have hR := hJ.rep
            unfold fX7_tryOrder
            refine wpE (zgR_e hJ.x hJ.xs) ?_
            refine wpE (zck_e hR.1.kS) ?_
            refine wpE (zb_e (has_y hJ v1)) ?_
            refine wpE (if_neg one_ne) ?_
            refine wpE (zb_e (isb_y w1)) ?_
            refine wpE (if_neg one_ne) ?_
            refine wpE (if_neg nx1) ?_
            refine wpE (if_neg nx2) ?_
            refine wpE (zgR_e hJ.x hJ.xs) ?_
            refine wpE (zgR_e hR.1.kS hR.1.r3) ?_
            refine wpE (zaRN_e hR.1.kO hR.1.lO hi20 (by decide) (hR.1.rL hi20)) ?_
            refine wpE (zck_e hJ.x) ?_
            refine wpE (zb_e (c_orderReason hJ hI him hb (by omega) _)) ?_
            refine wpE (if_neg hr) ?_
            refine wpE (zpI_e hJ.x rfl) ?_
            exact wp_some ⟨rfl, hJ.uR⟩
          · have hT := Tr.one (k := 0) hτ
            have h1 := hT.2.2
            unfold fX8_order
            refine wpE (zck_e hτ.k) ?_
            refine wpE (zb_e (jn_lot hτ v2)) ?_
            refine wpE (if_neg one_ne) ?_
            refine wpE (zb_e (jn_bid w2)) ?_
            refine wpE (if_neg one_ne) ?_
            refine wpE (zb_e (jn_in hx)) ?_
            refine wpE (if_neg one_ne) ?_
            unfold sX8_order_35
            refine wpE (thr_set hτ) ?_
            refine wpE (if_pos rfl) ?_
            refine wpE (zck_e h1.k) ?_
            refine wpE (zb_e (j_orderRefusal h1 hI him hb (by omega) _)) ?_
            refine wpE (if_neg hr) ?_
            refine wpE (zpI_e h1.k rfl) ?_
            have s2 := h1.uR (r := rO (sA S) i b (Int32.ofNat y))
            refine wpE (zck_e s2.1.k) ?_
            refine wpE (zb2_e (jn_fail s2.1)) ?_
            have hF := hT.then ((Sm.thr ⟨rfl, Fr.refl, h1⟩ s2).then (Tr.one (k := 3) s2.1))
            exact wp_some ⟨hF.1, fun q => absurd q (by decide), hF.2.2, hF.2.1⟩
      · refine ⟨-2, 2, S, ⟨hS.mono (by omega), rfl⟩, Or.inr (Or.inr (Or.inl ⟨rfl, rfl⟩)), fun σ hJ => ?_, fun τ hτ => ?_⟩
        · have hR := hJ.rep
          unfold fX7_tryOrder
          refine wpE (zgR_e hJ.x hJ.xs) ?_
          refine wpE (zck_e hR.1.kS) ?_
          refine wpE (zb_e (has_y hJ v1)) ?_
          refine wpE (if_neg one_ne) ?_
          refine wpE (zb_e (isb_y w1)) ?_
          refine wpE (if_neg one_ne) ?_
          unfold sX7_tryOrder_31
          by_cases h1 : x < 1
          · exact wpE (if_pos h1) (wp_some ⟨rfl, Cw.refl hJ⟩)
          · refine wpE (if_neg h1) ?_
            refine wpE (if_pos ?_) (wp_some ⟨rfl, Cw.refl hJ⟩)
            by_cases h2 : 90000 < x
            · exact h2
            · exact absurd ⟨Int32.not_lt.mp h1, Int32.not_lt.mp h2⟩ hx
        · have hT := Tr.one (k := 2) hτ
          unfold fX8_order
          refine wpE (zck_e hτ.k) ?_
          refine wpE (zb_e (jn_lot hτ v2)) ?_
          refine wpE (if_neg one_ne) ?_
          refine wpE (zb_e (jn_bid w2)) ?_
          refine wpE (if_neg one_ne) ?_
          refine wpE (zb_e (jn_in_x hx)) ?_
          refine wpE (if_pos rfl) ?_
          unfold sX8_order_35
          refine wpE (thr_set hτ) ?_
          refine wpE (if_neg (by decide)) ?_
          exact wp_some ⟨hT.1, fun q => absurd q (by decide), hT.2.2, hT.2.1⟩
    · refine ⟨-1, 1, S, ⟨hS.mono (by omega), rfl⟩, Or.inr (Or.inl ⟨rfl, rfl⟩), fun σ hJ => ?_, fun τ hτ => ?_⟩
      · have hR := hJ.rep
        unfold fX7_tryOrder
        refine wpE (zgR_e hJ.x hJ.xs) ?_
        refine wpE (zck_e hR.1.kS) ?_
        refine wpE (zb_e (has_y hJ v1)) ?_
        refine wpE (if_neg one_ne) ?_
        refine wpE (zb_e (isb_n w1)) ?_
        refine wpE (if_pos rfl) ?_
        exact wp_some ⟨rfl, Cw.refl hJ⟩
      · have hT := Tr.one (k := 1) hτ
        unfold fX8_order
        refine wpE (zck_e hτ.k) ?_
        refine wpE (zb_e (jn_lot hτ v2)) ?_
        refine wpE (if_neg one_ne) ?_
        refine wpE (zb_e (jn_bid_x w2)) ?_
        refine wpE (if_pos rfl) ?_
        unfold sX8_order_16 sX8_order_35
        refine wpE (thr_set hτ) ?_
        refine wpE (if_neg (by decide)) ?_
        exact wp_some ⟨hT.1, fun q => absurd q (by decide), hT.2.2, hT.2.1⟩
  · refine ⟨-1, 1, S, ⟨hS.mono (by omega), rfl⟩, Or.inr (Or.inl ⟨rfl, rfl⟩), fun σ hJ => ?_, fun τ hτ => ?_⟩
    · have hR := hJ.rep
      unfold fX7_tryOrder
      refine wpE (zgR_e hJ.x hJ.xs) ?_
      refine wpE (zck_e hR.1.kS) ?_
      refine wpE (zb_e (has_n hJ v1)) ?_
      refine wpE (if_pos rfl) ?_
      exact wp_some ⟨rfl, Cw.refl hJ⟩
    · have hT := Tr.one (k := 1) hτ
      unfold fX8_order
      refine wpE (zck_e hτ.k) ?_
      refine wpE (zb_e (jn_lot_x hτ v2)) ?_
      refine wpE (if_pos rfl) ?_
      unfold sX8_order_16 sX8_order_35
      refine wpE (thr_set hτ) ?_
      refine wpE (if_neg (by decide)) ?_
      exact wp_some ⟨hT.1, fun q => absurd q (by decide), hT.2.2, hT.2.1⟩
theorem cmd_cancel (hS : SI S B) (hn : 30000 < n) (hcc : c ≤ 100000) (p q : Int32) : CMD (fX7_tryCancel n 4 p q) (fX8_cancel n 125 p q) S B c lkC := by
  have hI := hS.1
  rcases lot_cases hI.1 p with ⟨i, rfl, him, hi20, v1, v2⟩ | ⟨v1, v2⟩
  · rcases bid_cases q with ⟨b, rfl, hb, w1, w2⟩ | ⟨w1, w2⟩
    · by_cases h0 : sA S (184 + 10 * i + b) = 0
      · refine ⟨-4, 2, S, ⟨hS.mono (by omega), rfl⟩, Or.inr (Or.inr (Or.inl ⟨rfl, rfl⟩)), fun σ hJ => ?_, fun τ hτ => ?_⟩
        · have hR := hJ.rep
          unfold fX7_tryCancel
          refine wpE (zgR_e hJ.x hJ.xs) ?_
          refine wpE (zck_e hR.1.kS) ?_
          refine wpE (zb_e (has_y hJ v1)) ?_
          refine wpE (if_neg one_ne) ?_
          refine wpE (zb_e (isb_y w1)) ?_
          refine wpE (if_neg one_ne) ?_
          refine wpE (zgR_e hJ.x hJ.xs) ?_
          refine wpE (zgR_e hR.1.kS hR.1.r3) ?_
          refine wpE (zaRN_e hR.1.kO hR.1.lO hi20 (by decide) (hR.1.rL hi20)) ?_
          refine wpE (zgR_e (hR.1.kL hi20) (hR.1.rL0 hi20)) ?_
          refine wpE (zaN_e (hR.1.kL0 hi20) (hR.1.lL0 hi20) hb (by decide) (hR.p0 hi20 hb him)) ?_
          refine wpE (if_pos h0) ?_
          exact wp_some ⟨rfl, Cw.refl hJ⟩
        · have hT := Tr.one (k := 2) hτ
          unfold fX8_cancel
          refine wpE (zck_e hτ.k) ?_
          refine wpE (zb_e (jn_lot hτ v2)) ?_
          refine wpE (if_neg one_ne) ?_
          refine wpE (zb_e (jn_bid w2)) ?_
          refine wpE (if_neg one_ne) ?_
          refine wpE (zck_e hτ.k) ?_
          refine wpE (zb_e (j_orderOf hτ hi20 hb)) ?_
          refine wpE (if_pos h0) ?_
          unfold sX8_cancel_47
          refine wpE (thr_set hτ) ?_
          refine wpE (if_neg (by decide)) ?_
          exact wp_some ⟨hT.1, fun q => absurd q (by decide), hT.2.2, hT.2.1⟩
      · by_cases h1 : sA S (24 + 8 * i + 3) = 0
        · have hm0 := ((hI.lt him).2.1 b hb).1
          have I1 := hI.cancel him hb
          have I2 := I1.note (κ := 9) (l := Int32.ofNat i) (β := Int32.ofNat b) (x := sA S (184 + 10 * i + b)) rfl (by rw [mk_put (by omega)]; exact him)
          refine ⟨sA S (184 + 10 * i + b), 0, uA (keepS S) (rNote (put (sA S) 184 i b 0 0) 9 (Int32.ofNat i) (Int32.ofNat b) (sA S (184 + 10 * i + b))), ⟨hS.keep.row (I2.mono (by omega)) (by omega), rfl⟩, Or.inl ⟨by rw [hm0.1]; exact io_ge0 (by omega), rfl⟩, fun σ hJ => ?_, fun τ hτ => ?_⟩
          · have hR := hJ.rep
            unfold fX7_tryCancel
            refine wpE (zgR_e hJ.x hJ.xs) ?_
            refine wpE (zck_e hR.1.kS) ?_
            refine wpE (zb_e (has_y hJ v1)) ?_
            refine wpE (if_neg one_ne) ?_
            refine wpE (zb_e (isb_y w1)) ?_
            refine wpE (if_neg one_ne) ?_
            refine wpE (zgR_e hJ.x hJ.xs) ?_
            refine wpE (zgR_e hR.1.kS hR.1.r3) ?_
            refine wpE (zaRN_e hR.1.kO hR.1.lO hi20 (by decide) (hR.1.rL hi20)) ?_
            refine wpE (zgR_e (hR.1.kL hi20) (hR.1.rL0 hi20)) ?_
            refine wpE (zaN_e (hR.1.kL0 hi20) (hR.1.lL0 hi20) hb (by decide) (hR.p0 hi20 hb him)) ?_
            refine wpE (if_neg h0) ?_
            refine wpE (zgI_e (hR.1.kL hi20) (hR.l3 hi20 him)) ?_
            refine wpE (if_pos h1) ?_
            refine wpE (zgR_e hJ.x hJ.xh) ?_
            refine wpE (zgR_e hJ.x hJ.xs) ?_
            refine wpE (zck_e hJ.kh) ?_
            obtain ⟨σ1, e1, J1, F1⟩ := cw_keep (n := n) hJ hI.1 (by omega) hcc
            refine wpE (zb_e e1) ?_
            refine wpE (zck_e (J1.rep.1.kL hi20)) ?_
            obtain ⟨σ3, e3, J3, F3⟩ := cw_putO (n := n) (x := 0) (y := 0) J1 hi20 hb
            refine wpE (zb_e e3) ?_
            refine wpE (zgR_e J3.x J3.xs) ?_
            refine wpE (zgR_e J3.rep.1.kS J3.rep.1.r4) ?_
            refine wpE (zck_e J3.rep.1.kG) ?_
            obtain ⟨σ4, e4, J4, F4⟩ := cw_note (n := n) (κ := 9) (l := Int32.ofNat i) (β := Int32.ofNat b) (x := sA S (184 + 10 * i + b)) J3 I1.1
            refine wpE (zb_e e4) ?_
            exact wp_some ⟨rfl, J4, (F1.trans F3).trans F4⟩
          · have hT := Tr.one (k := 0) hτ
            have g1 := hT.2.2
            unfold fX8_cancel
            refine wpE (zck_e hτ.k) ?_
            refine wpE (zb_e (jn_lot hτ v2)) ?_
            refine wpE (if_neg one_ne) ?_
            refine wpE (zb_e (jn_bid w2)) ?_
            refine wpE (if_neg one_ne) ?_
            refine wpE (zck_e hτ.k) ?_
            refine wpE (zb_e (j_orderOf hτ hi20 hb)) ?_
            refine wpE (if_neg h0) ?_
            refine wpE (zck_e hτ.k) ?_
            refine wpE (zb_e (j_at3 hτ hi20)) ?_
            refine wpE (if_pos h1) ?_
            unfold sX8_cancel_47
            refine wpE (thr_set hτ) ?_
            refine wpE (if_pos rfl) ?_
            refine wpE (zck_e g1.k) ?_
            obtain ⟨τ1, e1, s1⟩ := jw_keep (n := n) g1 hn
            refine wpE (zb_e e1) ?_
            refine wpE (zck_e s1.1.k) ?_
            refine wpE (zb_e (j_orderOf s1.1 hi20 hb)) ?_
            refine wpE (zck_e s1.1.k) ?_
            obtain ⟨τ3, e3, s3⟩ := jw_putO (n := n) (x := 0) (y := 0) s1.1 hi20 hb
            refine wpE (zb_e e3) ?_
            refine wpE (zck_e s3.1.k) ?_
            obtain ⟨τ4, e4, s4⟩ := jw_note (n := n) (κ := 9) (l := Int32.ofNat i) (β := Int32.ofNat b) (x := sA S (184 + 10 * i + b)) s3.1 I1.1
            refine wpE (zb_e e4) ?_
            have hF := Sm.thr hT ((s1.tr s3).tr s4)
            exact wp_some ⟨hF.1, fun _ => rfl, hF.2.2, hF.2.1⟩
        · refine ⟨-3, 3, S, ⟨hS.mono (by omega), rfl⟩, Or.inr (Or.inr (Or.inr ⟨rfl, rfl⟩)), fun σ hJ => ?_, fun τ hτ => ?_⟩
          · have hR := hJ.rep
            unfold fX7_tryCancel
            refine wpE (zgR_e hJ.x hJ.xs) ?_
            refine wpE (zck_e hR.1.kS) ?_
            refine wpE (zb_e (has_y hJ v1)) ?_
            refine wpE (if_neg one_ne) ?_
            refine wpE (zb_e (isb_y w1)) ?_
            refine wpE (if_neg one_ne) ?_
            refine wpE (zgR_e hJ.x hJ.xs) ?_
            refine wpE (zgR_e hR.1.kS hR.1.r3) ?_
            refine wpE (zaRN_e hR.1.kO hR.1.lO hi20 (by decide) (hR.1.rL hi20)) ?_
            refine wpE (zgR_e (hR.1.kL hi20) (hR.1.rL0 hi20)) ?_
            refine wpE (zaN_e (hR.1.kL0 hi20) (hR.1.lL0 hi20) hb (by decide) (hR.p0 hi20 hb him)) ?_
            refine wpE (if_neg h0) ?_
            refine wpE (zgI_e (hR.1.kL hi20) (hR.l3 hi20 him)) ?_
            refine wpE (if_neg h1) ?_
            exact wp_some ⟨rfl, Cw.refl hJ⟩
          · have hT := Tr.one (k := 3) hτ
            unfold fX8_cancel
            refine wpE (zck_e hτ.k) ?_
            refine wpE (zb_e (jn_lot hτ v2)) ?_
            refine wpE (if_neg one_ne) ?_
            refine wpE (zb_e (jn_bid w2)) ?_
            refine wpE (if_neg one_ne) ?_
            refine wpE (zck_e hτ.k) ?_
            refine wpE (zb_e (j_orderOf hτ hi20 hb)) ?_
            refine wpE (if_neg h0) ?_
            refine wpE (zck_e hτ.k) ?_
            refine wpE (zb_e (j_at3 hτ hi20)) ?_
            refine wpE (if_neg h1) ?_
            unfold sX8_cancel_47
            refine wpE (thr_set hτ) ?_
            refine wpE (if_neg (by decide)) ?_
            exact wp_some ⟨hT.1, fun q => absurd q (by decide), hT.2.2, hT.2.1⟩
    · refine ⟨-1, 1, S, ⟨hS.mono (by omega), rfl⟩, Or.inr (Or.inl ⟨rfl, rfl⟩), fun σ hJ => ?_, fun τ hτ => ?_⟩
      · have hR := hJ.rep
        unfold fX7_tryCancel
        refine wpE (zgR_e hJ.x hJ.xs) ?_
        refine wpE (zck_e hR.1.kS) ?_
        refine wpE (zb_e (has_y hJ v1)) ?_
        refine wpE (if_neg one_ne) ?_
        refine wpE (zb_e (isb_n w1)) ?_
        refine wpE (if_pos rfl) ?_
        exact wp_some ⟨rfl, Cw.refl hJ⟩
      · have hT := Tr.one (k := 1) hτ
        unfold fX8_cancel
        refine wpE (zck_e hτ.k) ?_
        refine wpE (zb_e (jn_lot hτ v2)) ?_
        refine wpE (if_neg one_ne) ?_
        refine wpE (zb_e (jn_bid_x w2)) ?_
        refine wpE (if_pos rfl) ?_
        unfold sX8_cancel_16 sX8_cancel_47
        refine wpE (thr_set hτ) ?_
        refine wpE (if_neg (by decide)) ?_
        exact wp_some ⟨hT.1, fun q => absurd q (by decide), hT.2.2, hT.2.1⟩
  · refine ⟨-1, 1, S, ⟨hS.mono (by omega), rfl⟩, Or.inr (Or.inl ⟨rfl, rfl⟩), fun σ hJ => ?_, fun τ hτ => ?_⟩
    · have hR := hJ.rep
      unfold fX7_tryCancel
      refine wpE (zgR_e hJ.x hJ.xs) ?_
      refine wpE (zck_e hR.1.kS) ?_
      refine wpE (zb_e (has_n hJ v1)) ?_
      refine wpE (if_pos rfl) ?_
      exact wp_some ⟨rfl, Cw.refl hJ⟩
    · have hT := Tr.one (k := 1) hτ
      unfold fX8_cancel
      refine wpE (zck_e hτ.k) ?_
      refine wpE (zb_e (jn_lot_x hτ v2)) ?_
      refine wpE (if_pos rfl) ?_
      unfold sX8_cancel_16 sX8_cancel_47
      refine wpE (thr_set hτ) ?_
      refine wpE (if_neg (by decide)) ?_
      exact wp_some ⟨hT.1, fun q => absurd q (by decide), hT.2.2, hT.2.1⟩
end
