section
variable {σ τ : zW} {S S' : St} {c n L : Nat} {xs : Nat → Int32} {r28 : Nat → Nat → Nat → Nat → Nat → Int32 → zW → Option (Int32 × zW)}
theorem lgU {F : zW → Option (Int32 × zW)} {G : zW → Option zW} {A : Int32 → zW → Option (Int32 × zW)} {E : zW → Option (Int32 × zW)} (hO : OPU F G σ S c) (h : JJ σ S c L xs)
    (hA : ∀ k σ1, LW σ1 L xs → A k σ1 = zck σ1 9 125 (zb (G σ1) fun σ2 => zck σ2 9 125 (zb (fX8_thrown n 125 σ2) fun t => if t = k then sL_law_2620 n r28 3 4 125 131 132 (Int32.ofNat (5 * c)) σ2 else E σ2))) : NXT r28 c L xs (zb2 (F σ) A) := by
  obtain ⟨k, σ1, S', e, J1, lw, jr, ⟨hs, htx⟩, hG⟩ := hO
  have L1 := lw L xs h.1
  have t1 := jr h.2.2.1
  obtain ⟨τ', g1, g2, g4, g5⟩ := hG σ1 t1
  have L2 := L1.pr g5
  have hj : JJ τ' S' (c + 1) L xs := ⟨L2, J1.pr g5, g4, hs, htx h.2.2.2.2⟩
  have et : fX8_thrown n 125 τ' = some k := by
    unfold fX8_thrown
    exact (zgI_e g4.k g2).trans rfl
  exact NXT.e ((zb2_e e).trans ((hA k σ1 L1).trans ((zck_e t1.k).trans ((zb_e g1).trans ((zck_e g4.k).trans ((zb_e et).trans (if_pos rfl))))))) (lg2620 (n := n) hj)
theorem JJ.pr {σ' : zW} (h : JJ σ S c L xs) (hf : Fr PR σ σ') (hj : JR σ' S) : JJ σ' S (c + 1) L xs := ⟨h.1.pr hf, (h.2.1.pr hf).mono (by omega), hj, h.2.2.2.1.mono (by omega), h.2.2.2.2⟩
theorem lg_2620 (h : JJ σ S c L xs) : NXT r28 c L xs (sL_law_2620 n r28 3 4 125 131 132 (Int32.ofNat (5 * c)) σ) := lg2620 (h.pr Fr.refl h.2.2.1)
theorem lg_2433 (h : JJ σ S c L xs) (hn : 30000 < n) : NXT r28 c L xs (sL_law_2433 n r28 3 4 125 131 132 (Int32.ofNat (5 * c)) σ) := by
  have hI := h.2.2.2.1.1
  have hτ := h.2.2.1
  unfold sL_law_2433
  exact NXT.e ((zck_e h.2.1.x).trans ((zb_e (c_audit h.2.1 hI (by omega))).trans ((zck_e hτ.k).trans ((zb2_e (j_audit hτ hI (by omega))).trans (if_pos rfl))))) (lg2620 (n := n) (h.pr PR.i (Tr.one (k := 0) hτ).2.2))
theorem lg_2446 (h : JJ σ S c L xs) (hL : L ≤ 2560) (hi : 5 * c + 4 < L) (hcc : c ≤ 512) (hn : 30000 < n) : NXT r28 c L xs (sL_law_2446 n r28 3 4 125 131 132 (Int32.ofNat (5 * c)) σ) := by
  have hO := o_append (n := n) h.2.1 h.2.2.2.1 hcc hn h.2.2.2.2 ((xs (5 * c + 1)).toUInt32 % 65536).toInt32
  unfold sL_law_2446
  refine NXT.e (zaS_e (q := 1) h.1 (show 5 * c + 1 < L by omega) hL) ?_
  refine lgU (n := n) hO h (fun k σ1 L1 => ?_) (E := fun σ2 => if 0 = 0 ∨ 0 = 1 then some (0, σ2) else none)
  exact (zaS_e (q := 1) L1 (show 5 * c + 1 < L by omega) hL).trans rfl
theorem lg_2596 (h : JJ σ S c L xs) (hcc : c ≤ 512) (hn : 30000 < n) : NXT r28 c L xs (sL_law_2596 n r28 3 4 125 131 132 (Int32.ofNat (5 * c)) σ) := by
  have hO := o_restore (n := n) h.2.1 h.2.2.2.1 hcc hn
  unfold sL_law_2596
  exact lgU (n := n) hO h (fun k σ1 L1 => rfl) (E := fun σ2 => if 0 = 0 ∨ 0 = 1 then some (0, σ2) else none)
theorem lg_2528 (h : JJ σ S c L xs) : NXT r28 c L xs (sL_law_2528 n r28 3 4 125 131 132 (Int32.ofNat (5 * c)) σ) := by
  have hτ := h.2.2.1
  have t := Tr.one (k := 0) hτ
  have ec : fX7_faultPosition n 4 σ = some (sFl S) := by
    unfold fX7_faultPosition
    exact (zgI_e h.2.1.x h.2.1.fl).trans rfl
  have er : fX8_faultPosition n 125 σ = some (sFl S, stI σ 125 0 0) := by
    unfold fX8_faultPosition
    exact (zpI_e hτ.k rfl).trans ((zgI_e t.2.2.k t.2.2.fl).trans rfl)
  unfold sL_law_2528
  exact NXT.e ((zck_e h.2.1.x).trans ((zb_e ec).trans ((zck_e hτ.k).trans ((zb2_e er).trans (if_pos rfl))))) (lg2620 (n := n) (h.pr PR.i t.2.2))
theorem lg_2585 (h : JJ σ S c L xs) (hcc : c ≤ 512) (hn : 30000 < n) : NXT r28 c L xs (sL_law_2585 n r28 3 4 125 131 132 (Int32.ofNat (5 * c)) σ) := by
  obtain ⟨hW, hJ, hτ, hS, hT⟩ := h
  obtain ⟨σ1, e1, J1, F1⟩ := c_save (n := n) hJ hS.1.1 (by omega) (by omega)
  have t1 := hτ.fc F1
  obtain ⟨σ2, e2, t2, F2⟩ := r_save (n := n) t1 hn
  have hS2 : SI (uV S (sA S)) (100 * (c + 1)) := ⟨hS.1.mono (by omega), fun k hk => (hS.2.1 k hk).mono (by omega), fun _ => hS.1.mono (by omega), hS.2.2.2⟩
  have hj : JJ σ2 (uV S (sA S)) (c + 1) L xs := ⟨(hW.fc F1).pr F2, (J1.pr F2).mono (by omega), t2, hS2, hT⟩
  unfold sL_law_2585
  exact NXT.e ((zck_e hJ.x).trans ((zb_e e1).trans ((zck_e t1.k).trans (zb_e e2)))) (lg2620 (n := n) hj)
theorem lg_1204 (h : JJ σ S c L xs) (hL : L ≤ 2560) (hi : 5 * c + 4 < L) (hcc : c ≤ 512) (hn : 30000 < n) : NXT r28 c L xs (sL_law_1204 n r28 3 4 125 131 132 (Int32.ofNat (5 * c)) σ) := by
  have hO := fun w => o_wouldRefuse (n := n) h.2.1 ⟨h.1.2.2.2.1, h.1.2.2.2.2.1⟩ h.2.2.2.1 hcc hn w (xs (5 * c + 2)) (xs (5 * c + 3)) (xs (5 * c + 4))
  unfold sL_law_1204
  refine NXT.e (zaS_e (q := 1) h.1 (show 5 * c + 1 < L by omega) hL) ?_
  by_cases hx : xs (5 * c + 1) = 0
  · refine NXT.e (if_pos hx) ?_
    unfold sL_law_1219
    refine NXT.e (zaS_e (q := 2) h.1 (show 5 * c + 2 < L by omega) hL) ?_
    refine NXT.e (zaS_e (q := 3) h.1 (show 5 * c + 3 < L by omega) hL) ?_
    refine NXT.e (zaS_e (q := 4) h.1 (show 5 * c + 4 < L by omega) hL) ?_
    refine lgO (n := n) (hO 0) h (fun k σ1 L1 => ?_) (fun σ2 => ?_) (E := fun σ2 => if 0 = 0 ∨ 0 = 1 then some (0, σ2) else none) (K := fun σ2 => sL_law_1309 n r28 3 4 125 131 132 (Int32.ofNat (5 * c)) σ2)
    · refine (zaS_e (q := 1) L1 (show 5 * c + 1 < L by omega) hL).trans ((if_pos hx).trans ?_)
      unfold sL_law_1258
      exact (zaS_e (q := 2) L1 (show 5 * c + 2 < L by omega) hL).trans ((zaS_e (q := 3) L1 (show 5 * c + 3 < L by omega) hL).trans ((zaS_e (q := 4) L1 (show 5 * c + 4 < L by omega) hL).trans rfl))
    · unfold sL_law_1309
      rfl
  · refine NXT.e (if_neg hx) ?_
    unfold sL_law_1219
    refine NXT.e (zaS_e (q := 2) h.1 (show 5 * c + 2 < L by omega) hL) ?_
    refine NXT.e (zaS_e (q := 3) h.1 (show 5 * c + 3 < L by omega) hL) ?_
    refine NXT.e (zaS_e (q := 4) h.1 (show 5 * c + 4 < L by omega) hL) ?_
    refine lgO (n := n) (hO 1) h (fun k σ1 L1 => ?_) (fun σ2 => ?_) (E := fun σ2 => if 0 = 0 ∨ 0 = 1 then some (0, σ2) else none) (K := fun σ2 => sL_law_1309 n r28 3 4 125 131 132 (Int32.ofNat (5 * c)) σ2)
    · refine (zaS_e (q := 1) L1 (show 5 * c + 1 < L by omega) hL).trans ((if_neg hx).trans ?_)
      unfold sL_law_1258
      exact (zaS_e (q := 2) L1 (show 5 * c + 2 < L by omega) hL).trans ((zaS_e (q := 3) L1 (show 5 * c + 3 < L by omega) hL).trans ((zaS_e (q := 4) L1 (show 5 * c + 4 < L by omega) hL).trans rfl))
    · unfold sL_law_1309
      rfl
theorem lg_1912 (h : JJ σ S c L xs) (hL : L ≤ 2560) (hi : 5 * c + 4 < L) (hcc : c ≤ 512) (hn : 30000 < n) : NXT r28 c L xs (sL_law_1912 n r28 3 4 125 131 132 (Int32.ofNat (5 * c)) σ) := by
  have hO := fun w => o_sold (n := n) h.2.1 ⟨h.1.2.2.2.1, h.1.2.2.2.2.1⟩ h.2.2.2.1 hcc hn (xs (5 * c + 1)) w
  unfold sL_law_1912
  refine NXT.e (zaS_e (q := 1) h.1 (show 5 * c + 1 < L by omega) hL) ?_
  refine NXT.e (zaS_e (q := 2) h.1 (show 5 * c + 2 < L by omega) hL) ?_
  by_cases hx : xs (5 * c + 2) = 0
  · refine NXT.e (if_pos hx) ?_
    unfold sL_law_1933
    refine lgO (n := n) (hO 0) h (fun k σ1 L1 => ?_) (fun σ2 => ?_) (E := fun σ2 => if 0 = 0 ∨ 0 = 1 then some (0, σ2) else none) (K := fun σ2 => sL_law_1993 n r28 3 4 125 131 132 (Int32.ofNat (5 * c)) σ2)
    · refine (zaS_e (q := 1) L1 (show 5 * c + 1 < L by omega) hL).trans ((zaS_e (q := 2) L1 (show 5 * c + 2 < L by omega) hL).trans ((if_pos hx).trans ?_))
      unfold sL_law_1960
      rfl
    · unfold sL_law_1993
      rfl
  · refine NXT.e (if_neg hx) ?_
    unfold sL_law_1933
    refine lgO (n := n) (hO 1) h (fun k σ1 L1 => ?_) (fun σ2 => ?_) (E := fun σ2 => if 0 = 0 ∨ 0 = 1 then some (0, σ2) else none) (K := fun σ2 => sL_law_1993 n r28 3 4 125 131 132 (Int32.ofNat (5 * c)) σ2)
    · refine (zaS_e (q := 1) L1 (show 5 * c + 1 < L by omega) hL).trans ((zaS_e (q := 2) L1 (show 5 * c + 2 < L by omega) hL).trans ((if_neg hx).trans ?_))
      unfold sL_law_1960
      rfl
    · unfold sL_law_1993
      rfl
/-! the share sold -/
theorem zsD_e {α : Type} {σ : zW} {r : Nat} {v : UInt64} {c : zW → Option α} (h : zK σ r = 24) (hL : zL σ r = 1) : zsD σ r 0 v c = c (stD σ r v) := by
  unfold zsD
  rw [if_pos ⟨⟨h, hL⟩, by rw [hL]; exact ⟨Int32.le_refl 0, by decide⟩⟩]
theorem zaD_e {α : Type} {σ : zW} {r : Nat} {v : UInt64} {c : UInt64 → Option α} (h : zK σ r = 24) (hL : zL σ r = 1) (hv : zD σ r = v) : zaD σ r 0 c = c v := by
  unfold zaD
  rw [if_pos ⟨h, by rw [hL]; exact ⟨Int32.le_refl 0, by decide⟩⟩, hv]
theorem lg_2244 (h : JJ σ S c L xs) (hcc : c ≤ 512) (hn : 30000 < n) : NXT r28 c L xs (sL_law_2244 n r28 3 4 125 131 132 (Int32.ofNat (5 * c)) σ) := by
  obtain ⟨hW, hJ, hτ, hS, hT⟩ := h
  have rm := hJ.room (by omega)
  have hR := hJ.rep
  have hC := hS.1.1
  have c3 : fX1_countOf n (5 + 7) 3 σ = some (Int32.ofNat (evc (sA S) 3)) := (c_countOf hR hC (by omega) 3).trans (congrArg some (evc_c 3))
  have c4 : fX1_countOf n (5 + 7) 4 σ = some (Int32.ofNat (evc (sA S) 4)) := (c_countOf hR hC (by omega) 4).trans (congrArg some (evc_c 4))
  have r3 : ∀ τ, JR τ S → fX8_eventsOf n 125 3 τ = some (Int32.ofNat (evc (sA S) 3)) := fun τ t => (j_eventsOf t hC (by omega) 3).trans (congrArg some (evc_r 3 (by decide)))
  have r4 : ∀ τ, JR τ S → fX8_eventsOf n 125 4 τ = some (Int32.ofNat (evc (sA S) 4)) := fun τ t => (j_eventsOf t hC (by omega) 4).trans (congrArg some (evc_r 4 (by decide)))
  have hle : evc (sA S) 3 + evc (sA S) 4 ≤ kp (sA S) := evc_le (kp (sA S)) 0
  have hk := hC.2.2.2
  have t0 := Tr.one (k := 0) hτ
  unfold sL_law_2244
  by_cases hz : evc (sA S) 3 + evc (sA S) 4 = 0
  · have ez : Int32.ofNat (evc (sA S) 3) + Int32.ofNat (evc (sA S) 4) = 0 := by rw [ixl, hz]; rfl
    have ec : fL_soldShare n 4 132 σ = some (1, nwX σ) := by
      unfold fL_soldShare
      refine (zck_e hJ.x).trans ((zbx_r (?_ : fX7_soldShare n 4 σ = some (.inr 6, nwX σ))).trans rfl)
      unfold fX7_soldShare
      exact (zgR_e hJ.x hJ.xs).trans ((zgR_e hR.1.kS hR.1.r4).trans ((zck_e hR.1.kG).trans ((zb_e c3).trans ((zgR_e hJ.x hJ.xs).trans ((zgR_e hR.1.kS hR.1.r4).trans ((zck_e hR.1.kG).trans ((zb_e c4).trans ((if_pos ez).trans (zth_e rm.1 rm.2)))))))))
    have hτ1 : JR (nwX σ) S := hτ.fc FC.thr
    have t1 := Tr.one (k := 0) hτ1
    have t2 := Tr.two (k := 1) (l := 0) hτ1
    have er : fX8_soldShare n 125 (nwX σ) = some (FP.i2d 0, stI (stI (nwX σ) 125 0 0) 125 0 1) := by
      unfold fX8_soldShare
      exact (zpI_e hτ1.k rfl).trans ((zck_e t1.2.2.k).trans ((zb_e (r3 _ t1.2.2)).trans ((zck_e t1.2.2.k).trans ((zb_e (r4 _ t1.2.2)).trans ((if_pos ez).trans ((zck_e t1.2.2.k).trans ((zb2_e (jn_fail t1.2.2)).trans rfl)))))))
    have et : fX8_thrown n 125 (stI (stI (nwX σ) 125 0 0) 125 0 1) = some 1 := by
      unfold fX8_thrown
      exact (zgI_e t2.2.2.k t2.1).trans rfl
    have hj : JJ (stI (stI (nwX σ) 125 0 0) 125 0 1) S (c + 1) L xs := ⟨(hW.fc FC.thr).pr t2.2.1, hJ.thr.pr t2.2.1, t2.2.2, hS.mono (by omega), hT⟩
    exact NXT.e ((zb2_e ec).trans ((zck_e hτ1.k).trans ((zb2_e er).trans ((zck_e t2.2.2.k).trans ((zb_e et).trans ((if_pos rfl).trans ((if_neg one_ne).trans (show _ = sL_law_2620 n r28 3 4 125 131 132 (Int32.ofNat (5 * c)) (stI (stI (nwX σ) 125 0 0) 125 0 1) by unfold sL_law_2306; rfl))))))))  (lg2620 (n := n) hj)
  · have ez : ¬ Int32.ofNat (evc (sA S) 3) + Int32.ofNat (evc (sA S) 4) = 0 := fun z => by rw [ixl, io_z (by omega)] at z; exact hz z
    have dv : ∀ {α : Type} {k : UInt64 → Option α}, zdd (FP.i2d (Int32.ofNat (evc (sA S) 3))) (FP.i2d (Int32.ofNat (evc (sA S) 3) + Int32.ofNat (evc (sA S) 4))) k = k (FP.ddiv (FP.i2d (Int32.ofNat (evc (sA S) 3))) (FP.i2d (Int32.ofNat (evc (sA S) 3 + evc (sA S) 4)))) := fun {α k} => by
      rw [ixl]
      exact zdd_e (by omega) (by omega) (by omega)
    generalize FP.ddiv (FP.i2d (Int32.ofNat (evc (sA S) 3))) (FP.i2d (Int32.ofNat (evc (sA S) 3 + evc (sA S) 4))) = d at dv
    have k132 := hW.2.2.2.2.2
    have ec : fL_soldShare n 4 132 σ = some (0, stD σ 132 d) := by
      unfold fL_soldShare
      have e7 : fX7_soldShare n 4 σ = some (.inl d, σ) := by
        unfold fX7_soldShare
        exact (zgR_e hJ.x hJ.xs).trans ((zgR_e hR.1.kS hR.1.r4).trans ((zck_e hR.1.kG).trans ((zb_e c3).trans ((zgR_e hJ.x hJ.xs).trans ((zgR_e hR.1.kS hR.1.r4).trans ((zck_e hR.1.kG).trans ((zb_e c4).trans ((if_neg ez).trans dv))))))))
      exact (zck_e hJ.x).trans ((zbx_l e7).trans ((zsD_e k132.1 k132.2).trans rfl))
    have hτ1 : JR (stD σ 132 d) S := hτ
    have hJ1 : JC (stD σ 132 d) S c := hJ
    have hW1 : LW (stD σ 132 d) L xs := hW
    have t1 := Tr.one (k := 0) hτ1
    have er : fX8_soldShare n 125 (stD σ 132 d) = some (d, stI (stD σ 132 d) 125 0 0) := by
      unfold fX8_soldShare
      exact (zpI_e hτ1.k rfl).trans ((zck_e t1.2.2.k).trans ((zb_e (r3 _ t1.2.2)).trans ((zck_e t1.2.2.k).trans ((zb_e (r4 _ t1.2.2)).trans ((if_neg ez).trans ((zck_e t1.2.2.k).trans ((zb_e (r3 _ t1.2.2)).trans (dv.trans rfl))))))))
    have et : fX8_thrown n 125 (stI (stD σ 132 d) 125 0 0) = some 0 := by
      unfold fX8_thrown
      exact (zgI_e t1.2.2.k t1.1).trans rfl
    have hW2 := hW1.pr t1.2.1
    have hj : JJ (stI (stD σ 132 d) 125 0 0) S (c + 1) L xs := ⟨hW2, (hJ1.pr t1.2.1).mono (by omega), t1.2.2, hS.mono (by omega), hT⟩
    have ed : zD (stI (stD σ 132 d) 125 0 0) 132 = d := by
      show va_up σ.2.2.2.2.2 132 d 132 = d
      unfold va_up
      exact if_pos rfl
    have rd : ∀ {α : Type} {k : UInt64 → Option α}, zaD (stI (stD σ 132 d) 125 0 0) 132 0 k = k d := fun {α k} => zaD_e hW2.2.2.2.2.2.1 hW2.2.2.2.2.2.2 ed
    have fin : sL_law_2306 n r28 3 4 125 131 132 (Int32.ofNat (5 * c)) (stI (stD σ 132 d) 125 0 0) = sL_law_2620 n r28 3 4 125 131 132 (Int32.ofNat (5 * c)) (stI (stD σ 132 d) 125 0 0) := by
      unfold sL_law_2306
      rfl
    refine NXT.e ((zb2_e ec).trans ((zck_e hτ1.k).trans ((zb2_e er).trans ((zck_e t1.2.2.k).trans ((zb_e et).trans ((if_pos rfl).trans ((if_pos rfl).trans (rd.trans ?_)))))))) (lg2620 (n := n) hj)
    rcases dcmp_self d with hd | hd
    · have ne : ¬ Op.cmpValue (FP.dcmp d d) .l = 0 := by rw [hd]; decide
      exact (if_neg ne).trans (rd.trans (rd.trans ((if_neg ne).trans ((if_neg ne).trans fin))))
    · have eq : Op.cmpValue (FP.dcmp d d) .l = 0 := by rw [hd]; decide
      exact (if_pos eq).trans fin
end
