/-! LOTS ARE CLOSED -/
theorem rm_old {a : Nat → Int32} {c i k j : Nat} (h : ¬ ((c + 10 * i ≤ j ∧ j < c + 10 * i + k) ∨ (c + 200 + 10 * i ≤ j ∧ j < c + 200 + 10 * i + k))) : rmK a c i k j = a j := if_neg h
noncomputable def rsn (a : Nat → Int32) (i : Nat) : Int32 := if sLd a i = -1 then 1 else if sLd a i = 10 then 2 else 3
/-- bought in; sold -/
noncomputable def rBI (a : Nat → Int32) (i : Nat) : Nat → Int32 := rNote (up (up (up (rmK a 184 i 10) (24 + 8 * i + 3) 3) (24 + 8 * i + 5) (rsn a i)) (985 + qS a i) (a (985 + qS a i) + Int32.ofNat (qR a i) * 2 / 100)) 4 (Int32.ofNat i) (-1) (Int32.ofNat (qR a i) * 2 / 100)
noncomputable def rSold (a : Nat → Int32) (i : Nat) : Nat → Int32 := rNote (up (up (up (up (rmK a 184 i 10) (24 + 8 * i + 3) 2) (24 + 8 * i + 5) 0) (24 + 8 * i + 6) (sLd a i)) (24 + 8 * i + 7) (Int32.ofNat (sPr a i))) 3 (Int32.ofNat i) (sLd a i) (Int32.ofNat (sPr a i))
section
variable {S : St} {B c n i : Nat} {σ τ : zW}
theorem sX8_165 (hτ : JR τ S) (hI : Inv (sA S) B) (hi : i < mk (sA S)) (hi20 : i < 20) (hn : 30000 < n) (v2 fee r : Int32) (hC : Cn (up (up (sA S) (24 + 8 * i + 5) r) (985 + qS (sA S) i) (sA S (985 + qS (sA S) i) + fee))) :
    wp (sX8_close_165 n 125 (Int32.ofNat i) v2 fee 125 (Int32.ofNat i) 5 r τ) (fun p => p.1 = v2 ∧ Sm τ (uA S (rmK (rNote (up (up (sA S) (24 + 8 * i + 5) r) (985 + qS (sA S) i) (sA S (985 + qS (sA S) i) + fee)) 4 (Int32.ofNat i) (-1) fee) 184 i 10)) p.2) := by
  obtain ⟨hs1, hs2⟩ := (hI.2.2.1 i hi).2.2.1
  unfold sX8_close_165
  refine wpE (zck_e hτ.k) ?_
  obtain ⟨τ2, e2, s2⟩ := jw_set (n := n) (p := 5) (x := r) hτ hi20 (by decide)
  refine wpE (zb_e e2) ?_
  refine wpE (zgR_e s2.1.k s2.1.w) ?_
  refine wpE (zck_e s2.1.k) ?_
  have es : sA (uA S (up (sA S) (24 + 8 * i + 5) r)) (24 + 8 * i + 0) = Int32.ofNat (qS (sA S) i) := (up_ne (by omega)).trans hs1
  refine wpE (zb_e ((j_at0 s2.1 hi20).trans (congrArg some es))) ?_
  have i985 : (985 : Int32) + Int32.ofNat (qS (sA S) i) = Int32.ofNat (985 + qS (sA S) i) := iy985
  have ev : sA (uA S (up (sA S) (24 + 8 * i + 5) r)) (985 + qS (sA S) i) = sA S (985 + qS (sA S) i) := up_ne (by omega)
  refine wpE (zaW_e s2.1 i985 (by omega)) ?_
  rw [ev]
  refine jw_st (j := 985 + qS (sA S) i) s2.1 i985 (by omega) (fun s3 => ?_)
  refine wpE (zck_e s3.1.k) ?_
  obtain ⟨τ4, e4, s4⟩ := jw_note (n := n) (κ := 4) (l := Int32.ofNat i) (β := -1) (x := fee) s3.1 hC
  refine wpE (zb_e e4) ?_
  unfold sX8_close_195
  refine wpE (zck_e s4.1.k) ?_
  obtain ⟨p5, e5, u5, s5⟩ := jw_rmO (n := n) s4.1 (by omega) hi20
  refine wpE (zb2_e (v := p5.1) (s := p5.2) e5) ?_
  exact wp_some ⟨rfl, ((s2.tr s3).tr s4).tr s5⟩
theorem cmd_close (hS : SI S B) (hn : 30000 < n) (hcc : c ≤ 100000) (p : Int32) : CMD (fX7_tryClose n 4 p) (fX8_close n 125 p) S B c lkS := by
  have hI := hS.1
  rcases lot_cases hI.1 p with ⟨i, rfl, him, hi20, v1, v2⟩ | ⟨v1, v2⟩
  · by_cases h0 : sA S (24 + 8 * i + 3) = 1
    · have hL := hI.lt him
      have hpr := sPr_le hL
      have hqR := hL.1
      obtain ⟨hs1, hs2⟩ := (hI.2.2.1 i him).2.2.1
      have I1 := hI.rm him (c := 184) (Or.inl rfl)
      have m1 : i < mk (rmK (sA S) 184 i 10) := by rw [mk_rm (by omega)]; exact him
      have tc := tab_congr hI.2.1 (a' := rmK (sA S) 184 i 10) (fun j hj => rm_old (by omega))
      have head : ∀ (Q : Int32 × zW → Prop) (σ : zW), JC σ S c → (∀ σ2, JC σ2 (uA (keepS S) (rmK (sA S) 184 i 10)) c → FC σ σ2 → Stv σ2 117 (sA S) i → fX4_price n 117 (5 + 1) σ2 = some (Int32.ofNat (sPr (sA S) i)) → wp (if @ite _ (met (sA S) i) (Classical.propDecidable _) (1 : Int32) 0 = 0 then zck σ2 8 4 (zb (fX7_buyIn n 4 (Int32.ofNat i) (lo 5 i) σ2) fun σ32 => some (0, σ32)) else zgR σ2 8 4 1 fun x20 => zgR σ2 8 4 0 fun x21 => zgR σ2 4 x21 0 fun x22 => zck σ2 5 x20 (zb (fX4_price n x20 x22 σ2) fun x23 => zgR σ2 8 4 1 fun x24 => zgI σ2 5 x24 3 fun x25 => zck σ2 3 (lo 5 i) (zb (fX2_sell n (lo 5 i) x25 x23 σ2) fun σ26 => zgR σ26 8 4 0 fun x27 => zgR σ26 4 x27 4 fun x28 => zgR σ26 8 4 1 fun x29 => zgI σ26 5 x29 3 fun x30 => zck σ26 2 x28 (zb (fX1_note n x28 3 (Int32.ofNat i) x30 x23 σ26) fun σ31 => some (x23, σ31))))) Q) → wp (fX7_tryClose n 4 (Int32.ofNat i) σ) Q := by
        intro Q σ hJ hQ
        have hR := hJ.rep
        unfold fX7_tryClose
        refine wpE (zgR_e hJ.x hJ.xs) ?_
        refine wpE (zck_e hR.1.kS) ?_
        refine wpE (zb_e (has_y hJ v1)) ?_
        refine wpE (if_neg one_ne) ?_
        refine wpE (zgR_e hJ.x hJ.xs) ?_
        refine wpE (zgR_e hR.1.kS hR.1.r3) ?_
        refine wpE (zaRN_e hR.1.kO hR.1.lO hi20 (by decide) (hR.1.rL hi20)) ?_
        refine wpE (zgI_e (hR.1.kL hi20) (hR.l3 hi20 him)) ?_
        refine wpE (if_pos h0) ?_
        refine wpE (zgR_e hJ.x hJ.xh) ?_
        refine wpE (zgR_e hJ.x hJ.xs) ?_
        refine wpE (zck_e hJ.kh) ?_
        obtain ⟨σ1, e1, J1, F1⟩ := cw_keep (n := n) hJ hI.1 (by omega) hcc
        refine wpE (zb_e e1) ?_
        refine wpE (zgR_e J1.x J1.xv) ?_
        refine wpE (zgR_e J1.x J1.xs) ?_
        refine wpE (zgR_e J1.rep.1.kS J1.rep.1.r0) ?_
        refine wpE (zck_e J1.vw.kV) ?_
        obtain ⟨σ2, e2, J2, F2, st2⟩ := c_settleJ (n := n) J1 hI him (by omega)
        refine wpE (zb_e e2) ?_
        refine wpE (zck_e (J2.rep.1.kL hi20)) ?_
        obtain ⟨σ3, e3, F3, R3⟩ := c_removeOrders (n := n) J2.rep (by omega) hi20
        refine wpE (zb_e e3) ?_
        have w3 := cw_wr J2 ⟨F3, R3⟩
        have J3 := w3.1
        have st3 := st2.fc F3
        have hp := c_price2 (n := n) J3.rep I1.2.1 J3.vw st3 hI.2.1 hL (by omega) (fun x => (tc x).2)
        refine wpE (zgR_e J3.x J3.xv) ?_
        refine wpE (zgI_e (J3.rep.1.kL hi20) ((J3.rep.l2 hi20 m1).trans ((rm_old (by omega)).trans hqR.1))) ?_
        refine wpE (zgR_e J3.x J3.xs) ?_
        refine wpE (zgR_e J3.rep.1.kS J3.rep.1.r0) ?_
        refine wpE (zck_e J3.vw.kV) ?_
        refine wpE (zb_e (c_meets2 J3.vw st3 hL hp)) ?_
        exact hQ σ3 J3 ((F1.trans (FC.v F2)).trans w3.2) st3 hp
      have headR : ∀ (Q : Int32 × zW → Prop) (τ : zW), JR τ S → (∀ τ2, Tr τ (keepS S) 0 τ2 → Std τ2 (sA S) i → wp (if @ite _ (met (sA S) i) (Classical.propDecidable _) (1 : Int32) 0 = 0 then zck τ2 9 125 (zb (fX8_at n 125 (Int32.ofNat i) 2 τ2) fun x14 => zdv 100 (zck τ2 9 125 (zb (fX8_set n 125 (Int32.ofNat i) 3 3 τ2) fun σ15 => zgI σ15 9 125 7 fun x16 => if x16 = (-1) then sX8_close_165 n 125 (Int32.ofNat i) 0 ((x14 * 2) / 100) 125 (Int32.ofNat i) 5 1 σ15 else zgI σ15 9 125 7 fun x17 => if x17 = 10 then sX8_close_165 n 125 (Int32.ofNat i) 0 ((x14 * 2) / 100) 125 (Int32.ofNat i) 5 2 σ15 else sX8_close_165 n 125 (Int32.ofNat i) 0 ((x14 * 2) / 100) 125 (Int32.ofNat i) 5 3 σ15))) else zgI τ2 9 125 10 fun x18 => zck τ2 9 125 (zb (fX8_set n 125 (Int32.ofNat i) 3 2 τ2) fun σ19 => zck σ19 9 125 (zb (fX8_set n 125 (Int32.ofNat i) 5 0 σ19) fun σ20 => zgI σ20 9 125 7 fun x21 => zck σ20 9 125 (zb (fX8_set n 125 (Int32.ofNat i) 6 x21 σ20) fun σ22 => zgI σ22 9 125 10 fun x23 => zck σ22 9 125 (zb (fX8_set n 125 (Int32.ofNat i) 7 x23 σ22) fun σ24 => zgI σ24 9 125 7 fun x25 => zgI σ24 9 125 10 fun x26 => zck σ24 9 125 (zb (fX8_note n 125 3 (Int32.ofNat i) x25 x26 σ24) fun σ27 => sX8_close_195 n 125 (Int32.ofNat i) x18 σ27)))))) Q) → wp (fX8_close n 125 (Int32.ofNat i) τ) Q := by
        intro Q τ hτ hQ
        have hT := Tr.one (k := 0) hτ
        have h1 := hT.2.2
        unfold fX8_close
        refine wpE (zck_e hτ.k) ?_
        refine wpE (zb_e (jn_lot hτ v2)) ?_
        refine wpE (if_neg one_ne) ?_
        refine wpE (zck_e hτ.k) ?_
        refine wpE (zb_e (j_at3 hτ hi20)) ?_
        refine wpE (if_pos h0) ?_
        unfold sX8_close_28
        refine wpE (thr_set hτ) ?_
        refine wpE (if_pos rfl) ?_
        refine wpE (zck_e h1.k) ?_
        obtain ⟨τ1, e1, s1⟩ := jw_keep (n := n) h1 hn
        refine wpE (zb_e e1) ?_
        refine wpE (zck_e s1.1.k) ?_
        obtain ⟨τ2, e2, s2, st2⟩ := j_standS (n := n) s1.1 hI him (by omega)
        refine wpE (zb_e e2) ?_
        refine wpE (zck_e s2.1.k) ?_
        refine wpE (zb_e (j_isMet s2.1 st2 hL hi20)) ?_
        exact hQ τ2 (Sm.thr hT (s1.tr s2)) st2
      by_cases hm : met (sA S) i
      · obtain ⟨bb, hbb, hld⟩ := met_led hL hm
        have I2 : Inv (up (up (up (up (rmK (sA S) 184 i 10) (24 + 8 * i + 3) 2) (24 + 8 * i + 5) 0) (24 + 8 * i + 6) (sLd (sA S) i)) (24 + 8 * i + 7) (Int32.ofNat (sPr (sA S) i))) B := by
          refine I1.flds m1 (fun j hj => ?_) ⟨qR (sA S) i, hqR.2, ?_⟩ (fun _ => ⟨⟨bb, hbb, ?_⟩, sPr (sA S) i, hpr, up_self⟩)
          · rw [up_ne (by omega), up_ne (by omega), up_ne (by omega), up_ne (by omega)]
          · rw [up_ne (by omega), up_ne (by omega), up_ne (by omega), up_ne (by omega), rm_old (by omega), hqR.1]
          · rw [up_ne (by omega), up_self, hld]
        have m2 : i < mk (up (up (up (up (rmK (sA S) 184 i 10) (24 + 8 * i + 3) 2) (24 + 8 * i + 5) 0) (24 + 8 * i + 6) (sLd (sA S) i)) (24 + 8 * i + 7) (Int32.ofNat (sPr (sA S) i))) := by rw [mk_up (by omega), mk_up (by omega), mk_up (by omega), mk_up (by omega)]; exact m1
        have I3 := I2.note (κ := 3) (l := Int32.ofNat i) (β := sLd (sA S) i) (x := Int32.ofNat (sPr (sA S) i)) rfl m2
        have I2r : Inv (up (up (up (up (sA S) (24 + 8 * i + 3) 2) (24 + 8 * i + 5) 0) (24 + 8 * i + 6) (sLd (sA S) i)) (24 + 8 * i + 7) (Int32.ofNat (sPr (sA S) i))) B := by
          refine hI.flds him (fun j hj => ?_) ⟨qR (sA S) i, hqR.2, ?_⟩ (fun _ => ⟨⟨bb, hbb, ?_⟩, sPr (sA S) i, hpr, up_self⟩)
          · rw [up_ne (by omega), up_ne (by omega), up_ne (by omega), up_ne (by omega)]
          · rw [up_ne (by omega), up_ne (by omega), up_ne (by omega), up_ne (by omega), hqR.1]
          · rw [up_ne (by omega), up_self, hld]
        refine ⟨Int32.ofNat (sPr (sA S) i), 0, uA (keepS S) (rSold (sA S) i), ⟨hS.keep.row (I3.mono (by omega)) (by omega), rfl⟩, Or.inl ⟨io_ge0 (by omega), rfl⟩, fun σ hJ => head _ σ hJ (fun σ2 J2 F2 st2 hp => ?_), fun τ hτ => headR _ τ hτ (fun τ2 T2 st2 => ?_)⟩
        · refine wpE (if_neg (by rw [if_pos hm]; exact one_ne)) ?_
          refine wpE (zgR_e J2.x J2.xv) ?_
          refine wpE (zgR_e J2.x J2.xs) ?_
          refine wpE (zgR_e J2.rep.1.kS J2.rep.1.r0) ?_
          refine wpE (zck_e J2.vw.kV) ?_
          refine wpE (zb_e hp) ?_
          refine wpE (zgR_e J2.x J2.xv) ?_
          refine wpE (zgI_e J2.vw.kV st2.2.2.1) ?_
          refine wpE (zck_e (J2.rep.1.kL hi20)) ?_
          have hlo : lo 5 i = 5 + (12 + 5 * i) := rfl
          have w1 := cw_fld (x := 2) J2 hi20 (by omega) (slo_l3 hi20) (by omega) (by omega)
          have w2 := cw_fld (x := 0) w1.1 hi20 (by omega) (slo_l5 hi20) (by omega) (by omega)
          have w3 := cw_fld (x := sLd (sA S) i) w2.1 hi20 (by omega) (slo_l6 hi20) (by omega) (by omega)
          have w4 := cw_fld (x := Int32.ofNat (sPr (sA S) i)) w3.1 hi20 (by omega) (slo_l7 hi20) (by omega) (by omega)
          have es : fX2_sell n (lo 5 i) (sLd (sA S) i) (Int32.ofNat (sPr (sA S) i)) σ2 = some (stI (stI (stI (stI σ2 (lo 5 i) 4 2) (lo 5 i) 9 0) (lo 5 i) 10 (sLd (sA S) i)) (lo 5 i) 11 (Int32.ofNat (sPr (sA S) i))) := by
            unfold fX2_sell
            refine (zpI_e (J2.rep.1.kL hi20) rfl).trans ?_
            refine (zpI_e (w1.1.rep.1.kL hi20) rfl).trans ?_
            refine (zpI_e (w2.1.rep.1.kL hi20) rfl).trans ?_
            exact zpI_e (w3.1.rep.1.kL hi20) rfl
          refine wpE (zb_e es) ?_
          have J4 := w4.1
          have F4 : Fr (Ps 5) σ2 (stI (stI (stI (stI σ2 (lo 5 i) 4 2) (lo 5 i) 9 0) (lo 5 i) 10 (sLd (sA S) i)) (lo 5 i) 11 (Int32.ofNat (sPr (sA S) i))) := (((Fr.st ⟨by omega, by omega⟩).trans (Fr.st ⟨by omega, by omega⟩)).trans (Fr.st ⟨by omega, by omega⟩)).trans (Fr.st ⟨by omega, by omega⟩)
          have st4 := st2.fc F4
          refine wpE (zgR_e J4.x J4.xs) ?_
          refine wpE (zgR_e J4.rep.1.kS J4.rep.1.r4) ?_
          refine wpE (zgR_e J4.x J4.xv) ?_
          refine wpE (zgI_e J4.vw.kV st4.2.2.1) ?_
          refine wpE (zck_e J4.rep.1.kG) ?_
          obtain ⟨σ5, e5, w5⟩ := cw_note (n := n) (κ := 3) (l := Int32.ofNat i) (β := sLd (sA S) i) (x := Int32.ofNat (sPr (sA S) i)) J4 I2.1
          refine wpE (zb_e e5) ?_
          exact wp_some ⟨rfl, w5.1, ((((F2.trans w1.2).trans w2.2).trans w3.2).trans w4.2).trans w5.2⟩
        · refine wpE (if_neg (by rw [if_pos hm]; exact one_ne)) ?_
          have h2 := T2.2.2
          have kp7 : ∀ {τa τb : zW} {Sa : St}, Sm τa Sa τb → True := fun _ => trivial
          refine wpE (zgI_e h2.k st2.2.2.2) ?_
          refine wpE (zck_e h2.k) ?_
          obtain ⟨τ3, e3, W3⟩ := r_set (n := n) h2.1.1 (p := 3) (v := 2) hi20 (by decide)
          refine wpE (zb_e e3) ?_
          have s3 := jw_ww h2 W3
          have c3 : zI τ3 125 = zI τ2 125 := W3.1.2 125 (by decide)
          refine wpE (zck_e s3.1.k) ?_
          obtain ⟨τ4, e4, W4⟩ := r_set (n := n) s3.1.1.1 (p := 5) (v := 0) hi20 (by decide)
          refine wpE (zb_e e4) ?_
          have s4 := jw_ww s3.1 W4
          have c4 : zI τ4 125 = zI τ2 125 := (W4.1.2 125 (by decide)).trans c3
          refine wpE (zgI_e s4.1.k ((congrFun c4 7).trans st2.1)) ?_
          refine wpE (zck_e s4.1.k) ?_
          obtain ⟨τ5, e5, W5⟩ := r_set (n := n) s4.1.1.1 (p := 6) (v := sLd (sA S) i) hi20 (by decide)
          refine wpE (zb_e e5) ?_
          have s5 := jw_ww s4.1 W5
          have c5 : zI τ5 125 = zI τ2 125 := (W5.1.2 125 (by decide)).trans c4
          refine wpE (zgI_e s5.1.k ((congrFun c5 10).trans st2.2.2.2)) ?_
          refine wpE (zck_e s5.1.k) ?_
          obtain ⟨τ6, e6, W6⟩ := r_set (n := n) s5.1.1.1 (p := 7) (v := Int32.ofNat (sPr (sA S) i)) hi20 (by decide)
          refine wpE (zb_e e6) ?_
          have s6 := jw_ww s5.1 W6
          have c6 : zI τ6 125 = zI τ2 125 := (W6.1.2 125 (by decide)).trans c5
          refine wpE (zgI_e s6.1.k ((congrFun c6 7).trans st2.1)) ?_
          refine wpE (zgI_e s6.1.k ((congrFun c6 10).trans st2.2.2.2)) ?_
          refine wpE (zck_e s6.1.k) ?_
          have a3 : zI τ3 126 = up (sA S) (24 + 8 * i + 3) 2 := by rw [W3.2, h2.a]; rfl
          have a4 : zI τ4 126 = up (up (sA S) (24 + 8 * i + 3) 2) (24 + 8 * i + 5) 0 := by rw [W4.2, a3]
          have a5 : zI τ5 126 = up (up (up (sA S) (24 + 8 * i + 3) 2) (24 + 8 * i + 5) 0) (24 + 8 * i + 6) (sLd (sA S) i) := by rw [W5.2, a4]
          have a6 : zI τ6 126 = up (up (up (up (sA S) (24 + 8 * i + 3) 2) (24 + 8 * i + 5) 0) (24 + 8 * i + 6) (sLd (sA S) i)) (24 + 8 * i + 7) (Int32.ofNat (sPr (sA S) i)) := by rw [W6.2, a5]
          have s6' : Sm τ2 (uA (keepS S) (up (up (up (up (sA S) (24 + 8 * i + 3) 2) (24 + 8 * i + 5) 0) (24 + 8 * i + 6) (sLd (sA S) i)) (24 + 8 * i + 7) (Int32.ofNat (sPr (sA S) i)))) τ6 := by
            have q := ((s3.tr s4).tr s5).tr s6
            rw [← a6]
            refine ⟨?_, q.2⟩
            have := q.1.2.1
            exact ⟨q.1.1, rfl, q.1.2.2⟩
          obtain ⟨τ7, e7, s7⟩ := jw_note (n := n) (κ := 3) (l := Int32.ofNat i) (β := sLd (sA S) i) (x := Int32.ofNat (sPr (sA S) i)) s6'.1 I2r.1
          refine wpE (zb_e e7) ?_
          unfold sX8_close_195
          refine wpE (zck_e s7.1.k) ?_
          obtain ⟨p8, e8, u8, s8⟩ := jw_rmO (n := n) s7.1 (by omega) hi20
          refine wpE (zb2_e (v := p8.1) (s := p8.2) e8) ?_
          have hF := Sm.thr T2 ((s6'.tr s7).tr s8)
          have eq : rmK (rNote (up (up (up (up (sA S) (24 + 8 * i + 3) 2) (24 + 8 * i + 5) 0) (24 + 8 * i + 6) (sLd (sA S) i)) (24 + 8 * i + 7) (Int32.ofNat (sPr (sA S) i))) 3 (Int32.ofNat i) (sLd (sA S) i) (Int32.ofNat (sPr (sA S) i))) 184 i 10 = rSold (sA S) i := by
            unfold rSold
            rw [rNote_rm (Or.inl rfl) hi20 (by decide), up_rm (by omega), up_rm (by omega), up_rm (by omega), up_rm (by omega)]
          have hF2 : Tr τ (uA (keepS S) (rmK (rNote (up (up (up (up (sA S) (24 + 8 * i + 3) 2) (24 + 8 * i + 5) 0) (24 + 8 * i + 6) (sLd (sA S) i)) (24 + 8 * i + 7) (Int32.ofNat (sPr (sA S) i))) 3 (Int32.ofNat i) (sLd (sA S) i) (Int32.ofNat (sPr (sA S) i))) 184 i 10)) 0 p8.2 := hF
          rw [eq] at hF2
          exact wp_some ⟨hF2.1, fun _ => rfl, hF2.2.2, hF2.2.1⟩
      · have I2 := I1.free (j0 := 24 + 8 * i + 3) (v := 3) (Or.inr (Or.inr ⟨i, hi20, Or.inr (Or.inr ⟨rfl, by decide⟩)⟩))
        have I3 := I2.free (j0 := 24 + 8 * i + 5) (v := rsn (sA S) i) (Or.inr (Or.inr ⟨i, hi20, Or.inr (Or.inl rfl)⟩))
        have I4 := I3.free (j0 := 985 + qS (sA S) i) (v := sA S (985 + qS (sA S) i) + Int32.ofNat (qR (sA S) i) * 2 / 100) (Or.inr (Or.inl (by omega)))
        have m4 : i < mk (up (up (up (rmK (sA S) 184 i 10) (24 + 8 * i + 3) 3) (24 + 8 * i + 5) (rsn (sA S) i)) (985 + qS (sA S) i) (sA S (985 + qS (sA S) i) + Int32.ofNat (qR (sA S) i) * 2 / 100)) := by rw [mk_up (by omega), mk_up (by omega), mk_up (by omega)]; exact m1
        have I5 := I4.note (κ := 4) (l := Int32.ofNat i) (β := -1) (x := Int32.ofNat (qR (sA S) i) * 2 / 100) rfl m4
        have I2r := hI.free (j0 := 24 + 8 * i + 3) (v := 3) (Or.inr (Or.inr ⟨i, hi20, Or.inr (Or.inr ⟨rfl, by decide⟩)⟩))
        have I3r := fun r => I2r.free (j0 := 24 + 8 * i + 5) (v := r) (Or.inr (Or.inr ⟨i, hi20, Or.inr (Or.inl rfl)⟩))
        have I4r := fun r => (I3r r).free (j0 := 985 + qS (sA S) i) (v := sA S (985 + qS (sA S) i) + Int32.ofNat (qR (sA S) i) * 2 / 100) (Or.inr (Or.inl (by omega)))
        refine ⟨0, 0, uA (keepS S) (rBI (sA S) i), ⟨hS.keep.row (I5.mono (by omega)) (by omega), rfl⟩, Or.inl ⟨by decide, rfl⟩, fun σ hJ => head _ σ hJ (fun σ2 J2 F2 st2 hp => ?_), fun τ hτ => headR _ τ hτ (fun τ2 T2 st2 => ?_)⟩
        · refine wpE (if_pos (by rw [if_neg hm])) ?_
          refine wpE (zck_e J2.x) ?_
          have hlo : lo 5 i = 5 + (12 + 5 * i) := rfl
          have hb : wp (fX7_buyIn n 4 (Int32.ofNat i) (lo 5 i) σ2) (Cw σ2 (uA (keepS S) (rBI (sA S) i)) c) := by
            unfold fX7_buyIn
            refine wpE (zgI_e (J2.rep.1.kL hi20) ((J2.rep.l2 hi20 m1).trans ((rm_old (by omega)).trans hqR.1))) ?_
            refine wpE (zb_e c_feeOf) ?_
            have w3 := cw_fld (x := 3) J2 hi20 (by omega) (slo_l3 hi20) (by omega) (by omega)
            refine wpE (zpI_e (J2.rep.1.kL hi20) rfl) ?_
            have J3 := w3.1
            have st3 := st2.fc (Fr.st (o := lo 5 i) (k := 4) (v := 3) ⟨by omega, by omega⟩)
            refine wpE (zgR_e J3.x J3.xv) ?_
            refine wpE (zck_e J3.vw.kV) ?_
            refine wpE (zb_e (c_reason J3.vw st3)) ?_
            have w4 := cw_fld (x := rsn (sA S) i) J3 hi20 (by omega) (slo_l5 hi20) (by omega) (by omega)
            refine wpE (zpI_e (v' := rsn (sA S) i) (J3.rep.1.kL hi20) rfl) ?_
            have J4 := w4.1
            refine wpE (zgR_e J4.x J4.xs) ?_
            refine wpE (zgR_e J4.rep.1.kS J4.rep.1.r2) ?_
            have m3 : i < mk (up (up (rmK (sA S) 184 i 10) (24 + 8 * i + 3) 3) (24 + 8 * i + 5) (rsn (sA S) i)) := by rw [mk_up (by omega), mk_up (by omega)]; exact m1
            have eS : sA (uA (uA (uA (keepS S) (rmK (sA S) 184 i 10)) (up (rmK (sA S) 184 i 10) (24 + 8 * i + 3) 3)) (up (up (rmK (sA S) 184 i 10) (24 + 8 * i + 3) 3) (24 + 8 * i + 5) (rsn (sA S) i))) (24 + 8 * i + 0) = Int32.ofNat (qS (sA S) i) := by
              show up (up (rmK (sA S) 184 i 10) _ _) _ _ _ = _
              rw [up_ne (by omega), up_ne (by omega), rm_old (by omega), hs1]
            have eF : sA (uA (uA (uA (keepS S) (rmK (sA S) 184 i 10)) (up (rmK (sA S) 184 i 10) (24 + 8 * i + 3) 3)) (up (up (rmK (sA S) 184 i 10) (24 + 8 * i + 3) 3) (24 + 8 * i + 5) (rsn (sA S) i))) (985 + qS (sA S) i) = sA S (985 + qS (sA S) i) := by
              show up (up (rmK (sA S) 184 i 10) _ _) _ _ _ = _
              rw [up_ne (by omega), up_ne (by omega), rm_old (by omega)]
            refine wpE (zgI_e (J4.rep.1.kL hi20) ((J4.rep.l0 hi20 m3).trans eS)) ?_
            refine wpE (zaN_e J4.rep.1.kF J4.rep.1.lF (show qS (sA S) i < 6 by omega) (by decide) ((J4.rep.fee (by omega)).trans eF)) ?_
            refine wpE (zsN_e J4.rep.1.kF J4.rep.1.lF (show qS (sA S) i < 6 by omega) (by decide) rfl) ?_
            have w5 := cw_at (x := sA S (985 + qS (sA S) i) + Int32.ofNat (qR (sA S) i) * 2 / 100) J4 (o := 5) (by decide) (by omega) (slo_fee (show qS (sA S) i < 6 by omega)) (by omega) (by omega)
            have J5 := w5.1
            refine wpE (zgR_e J5.x J5.xs) ?_
            refine wpE (zgR_e J5.rep.1.kS J5.rep.1.r4) ?_
            refine wpE (zck_e J5.rep.1.kG) ?_
            obtain ⟨σ6, e6, w6⟩ := cw_note (n := n) (κ := 4) (l := Int32.ofNat i) (β := -1) (x := Int32.ofNat (qR (sA S) i) * 2 / 100) J5 I4.1
            refine wpE (zb_e e6) ?_
            exact wp_some (((w3.tr w4).tr w5).tr w6)
          obtain ⟨σ7, e7, w7⟩ := hb
          refine wpE (zb_e e7) ?_
          exact wp_some ⟨rfl, w7.1, F2.trans w7.2⟩
        · refine wpE (if_pos (by rw [if_neg hm])) ?_
          have h2 := T2.2.2
          refine wpE (zck_e h2.k) ?_
          refine wpE (zb_e ((j_at2 h2 hi20).trans (congrArg some hqR.1))) ?_
          refine wpE (zdv_e (by decide)) ?_
          refine wpE (zck_e h2.k) ?_
          obtain ⟨τ3, e3, W3⟩ := r_set (n := n) h2.1.1 (p := 3) (v := 3) hi20 (by decide)
          refine wpE (zb_e e3) ?_
          have s3 := jw_ww h2 W3
          have a3 : zI τ3 126 = up (sA S) (24 + 8 * i + 3) 3 := by rw [W3.2, h2.a]; rfl
          have s3' : Sm τ2 (uA (keepS S) (up (sA S) (24 + 8 * i + 3) 3)) τ3 := ⟨⟨s3.1.1, a3, s3.1.2.2⟩, s3.2⟩
          have c3 : zI τ3 125 = zI τ2 125 := W3.1.2 125 (by decide)
          have l7 : zI τ3 125 7 = sLd (sA S) i := (congrFun c3 7).trans st2.1
          have fin : ∀ r : Int32, r = rsn (sA S) i → wp (sX8_close_165 n 125 (Int32.ofNat i) 0 (Int32.ofNat (qR (sA S) i) * 2 / 100) 125 (Int32.ofNat i) 5 r τ3) (fun p => zI p.2 125 0 = 0 ∧ (0 ≤ (0 : Int32) → p.1 = 0) ∧ JR p.2 (uA (keepS S) (rBI (sA S) i)) ∧ Fr PR τ p.2) := by
            intro r hr
            have eS : qS (up (sA S) (24 + 8 * i + 3) 3) i = qS (sA S) i := by unfold qS; rw [up_ne (by omega)]
            have eF : up (sA S) (24 + 8 * i + 3) 3 (985 + qS (sA S) i) = sA S (985 + qS (sA S) i) := up_ne (by omega)
            have hC := (I4r r).1
            have m3 : i < mk (up (sA S) (24 + 8 * i + 3) 3) := by rw [mk_up (by omega)]; exact him
            obtain ⟨p4, e4, u4, s4⟩ := sX8_165 (n := n) (i := i) s3'.1 I2r m3 hi20 hn 0 (Int32.ofNat (qR (sA S) i) * 2 / 100) r (by
              show Cn (up (up (up (sA S) (24 + 8 * i + 3) 3) (24 + 8 * i + 5) r) (985 + qS (up (sA S) (24 + 8 * i + 3) 3) i) (up (sA S) (24 + 8 * i + 3) 3 (985 + qS (up (sA S) (24 + 8 * i + 3) 3) i) + _))
              rw [eS, eF]
              exact hC)
            refine ⟨p4, e4, ?_⟩
            have s4 : Sm τ3 (uA (keepS S) (rmK (rNote (up (up (up (sA S) (24 + 8 * i + 3) 3) (24 + 8 * i + 5) r) (985 + qS (up (sA S) (24 + 8 * i + 3) 3) i) (up (sA S) (24 + 8 * i + 3) 3 (985 + qS (up (sA S) (24 + 8 * i + 3) 3) i) + Int32.ofNat (qR (sA S) i) * 2 / 100)) 4 (Int32.ofNat i) (-1) (Int32.ofNat (qR (sA S) i) * 2 / 100)) 184 i 10)) p4.2 := s4
            rw [eS, eF, rNote_rm (Or.inl rfl) hi20 (by decide), up_rm (by omega), up_rm (by omega), up_rm (by omega), hr] at s4
            have hF := Sm.thr T2 (s3'.tr s4)
            exact ⟨hF.1, fun _ => u4, hF.2.2, hF.2.1⟩
          refine wpE (zgI_e s3.1.k l7) ?_
          by_cases q1 : sLd (sA S) i = -1
          · refine wpE (if_pos q1) ?_
            exact fin 1 (by unfold rsn; rw [if_pos q1])
          · refine wpE (if_neg q1) ?_
            refine wpE (zgI_e s3.1.k l7) ?_
            by_cases q2 : sLd (sA S) i = 10
            · refine wpE (if_pos q2) ?_
              exact fin 2 (by unfold rsn; rw [if_neg q1, if_pos q2])
            · refine wpE (if_neg q2) ?_
              exact fin 3 (by unfold rsn; rw [if_neg q1, if_neg q2])
    · refine ⟨-3, 2, S, ⟨hS.mono (by omega), rfl⟩, Or.inr (Or.inr ⟨rfl, rfl⟩), fun σ hJ => ?_, fun τ hτ => ?_⟩
      · have hR := hJ.rep
        unfold fX7_tryClose
        refine wpE (zgR_e hJ.x hJ.xs) ?_
        refine wpE (zck_e hR.1.kS) ?_
        refine wpE (zb_e (has_y hJ v1)) ?_
        refine wpE (if_neg one_ne) ?_
        refine wpE (zgR_e hJ.x hJ.xs) ?_
        refine wpE (zgR_e hR.1.kS hR.1.r3) ?_
        refine wpE (zaRN_e hR.1.kO hR.1.lO hi20 (by decide) (hR.1.rL hi20)) ?_
        refine wpE (zgI_e (hR.1.kL hi20) (hR.l3 hi20 him)) ?_
        refine wpE (if_neg h0) ?_
        exact wp_some ⟨rfl, Cw.refl hJ⟩
      · have hT := Tr.one (k := 2) hτ
        unfold fX8_close
        refine wpE (zck_e hτ.k) ?_
        refine wpE (zb_e (jn_lot hτ v2)) ?_
        refine wpE (if_neg one_ne) ?_
        refine wpE (zck_e hτ.k) ?_
        refine wpE (zb_e (j_at3 hτ hi20)) ?_
        refine wpE (if_neg h0) ?_
        unfold sX8_close_28
        refine wpE (thr_set hτ) ?_
        refine wpE (if_neg (by decide)) ?_
        exact wp_some ⟨hT.1, fun q => absurd q (by decide), hT.2.2, hT.2.1⟩
  · refine ⟨-1, 1, S, ⟨hS.mono (by omega), rfl⟩, Or.inr (Or.inl ⟨rfl, rfl⟩), fun σ hJ => ?_, fun τ hτ => ?_⟩
    · have hR := hJ.rep
      unfold fX7_tryClose
      refine wpE (zgR_e hJ.x hJ.xs) ?_
      refine wpE (zck_e hR.1.kS) ?_
      refine wpE (zb_e (has_n hJ v1)) ?_
      refine wpE (if_pos rfl) ?_
      exact wp_some ⟨rfl, Cw.refl hJ⟩
    · have hT := Tr.one (k := 1) hτ
      unfold fX8_close
      refine wpE (zck_e hτ.k) ?_
      refine wpE (zb_e (jn_lot_x hτ v2)) ?_
      refine wpE (if_pos rfl) ?_
      unfold sX8_close_28
      refine wpE (thr_set hτ) ?_
      refine wpE (if_neg (by decide)) ?_
      exact wp_some ⟨hT.1, fun q => absurd q (by decide), hT.2.2, hT.2.1⟩
end
