/-! LOTS ARE GROUPED -/
theorem src_lt {a : Nat → Int32} {i : Nat} (h : Lt a i) : Src a i (qM a i) := fun b hb => (h.2.1 b hb).1
theorem onm_pos {a : Nat → Int32} {i : Nat} {f : Nat → Nat} (h : Lt a i) (hf : ∀ b, b < 10 → 0 < f b → 0 < qM a i b) : nac (pos1 f) 0 10 ≤ onm a i := by
  unfold onm
  refine nac_mono 10 0 (fun b _ hb => ?_)
  show pos1 f b ≤ if 0 < a (184 + 10 * i + b) then 1 else 0
  unfold pos1
  by_cases g : 0 < f b
  · obtain ⟨m1, m2⟩ := (h.2.1 b (by omega)).1
    have := hf b (by omega) g
    rw [if_pos g, m1, if_pos (Eq.mpr (io_pos (by omega)) this)]
    omega
  · rw [if_neg g]
    omega
section
variable {σ τ : zW} {S S' : St} {c n B i j : Nat}
theorem fin_thr {k : Nat} {σ : zW} (rm : zN σ + 1 ≤ 603072 ∧ zS σ + 6 ≤ 7219305) : wp (zth σ fun σ1 => some ((.inr k : Int32 ⊕ Nat), σ1)) (fun r => r = (.inr k, nwX σ)) := by
  refine wpE (zth_e rm.1 rm.2) ?_
  exact wp_some rfl
theorem fin_fail {k : Int32} (hτ : JR τ S) : wp (zck (stI τ 125 0 0) 9 125 (zb2 (fX8_fail n 125 k (stI τ 125 0 0)) fun x1 σ2 => some (x1, σ2))) (fun r => Tr τ S k r.2) := by
  have h2 := (Tr.one (k := 0) hτ).2.2
  refine wpE (zck_e h2.k) ?_
  refine wpE (zb2_e (jn_fail h2)) ?_
  exact wp_some (Tr.two hτ)
theorem io_inj {x y : Nat} (hx : x < 2147483648) (hy : y < 2147483648) : (Int32.ofNat x = Int32.ofNat y) ↔ x = y := ⟨fun h => by
  have := congrArg Int32.toNatClampNeg h
  rw [io_nat hx, io_nat hy] at this
  exact this, fun h => by rw [h]⟩
def grow (a : Nat → Int32) (i j : Nat) : Nat → Int32 := rNote (up (up (rmK (rmK (pg (gF (qM a i) (qM a j)) (mk a) 10 0 (rMk a (Int32.ofNat (qS a i)) (Int32.ofNat (qQ a i) + Int32.ofNat (qQ a j)) (Int32.ofNat (qR a i) + Int32.ofNat (qR a j)))) 184 i 10) 184 j 10) (24 + 8 * i + 3) 6) (24 + 8 * j + 3) 6) 7 (Int32.ofNat i) (-1) (Int32.ofNat (mk a))
theorem grow_inv {a : Nat → Int32} (hI : Inv a B) (hB : B + 10 < 100000000) (hi : i < mk a) (hj : j < mk a) (hij : i ≠ j) (hm : mk a < 20) (hq : qQ a i + qQ a j ≤ 20) (hr : qR a i + qR a j ≤ 90000) : Inv (grow a i j) (B + 10) := by
  obtain ⟨hL, ⟨q1, q2, q3⟩, ⟨s1, s2⟩, -⟩ := hI.2.2.1 i hi
  unfold grow
  have m1 : mk (rmK a 184 i 10) = mk a := mk_rm (by omega)
  have m2 : mk (rmK (rmK a 184 i 10) 184 j 10) = mk a := (mk_rm (by omega)).trans m1
  have I1 := hI.rm hi (c := 184) (Or.inl rfl)
  have I2 := I1.rm (i := j) (by rw [m1]; exact hj) (c := 184) (Or.inl rfl)
  have I3 := I2.make (by rw [m2]; exact hm) s2 (show 1 ≤ qQ a i + qQ a j by omega) hq hr
  have t1 := tot_rm hi (by omega) (by omega)
  have t2 := tot_rm (a := rmK a 184 i 10) (i := j) (by rw [m1]; exact hj) (by omega) (by omega)
  have t0 := onm_pos (f := gF (qM a i) (qM a j)) hL (fun b _ g => by
    unfold gF at g
    by_cases z : 0 < qM a i b ∧ 0 < qM a j b
    · exact z.1
    · rw [if_neg z] at g; omega)
  have t4 := hI.2.2.2.2.1
  have k1 := (rMk_cn (sl := Int32.ofNat (qS a i)) (q := Int32.ofNat (qQ a i + qQ a j)) (r := Int32.ofNat (qR a i + qR a j)) I2.1 (by rw [m2]; exact hm)).2
  have I4 := (pg_inv (f := gF (qM a i) (qM a j)) (t := mk a) (fun b _ => by unfold gF; split <;> omega) 10 0 _ B I3.1 (by rw [k1, m2]; omega) (by omega) (by omega) (by rw [I3.2]; omega)).1
  have er : rmK (rmK (pg (gF (qM a i) (qM a j)) (mk a) 10 0 (rMk a (Int32.ofNat (qS a i)) (Int32.ofNat (qQ a i) + Int32.ofNat (qQ a j)) (Int32.ofNat (qR a i) + Int32.ofNat (qR a j)))) 184 i 10) 184 j 10 = pg (gF (qM a i) (qM a j)) (mk a) 10 0 (rMk (rmK (rmK a 184 i 10) 184 j 10) (Int32.ofNat (qS a i)) (Int32.ofNat (qQ a i + qQ a j)) (Int32.ofNat (qR a i + qR a j))) := by
    rw [pg_rm (by omega) hm (by omega) 10 0 _ (by omega), pg_rm (by omega) hm (by omega) 10 0 _ (by omega), rMk_rm hi hm, rMk_rm (by rw [m1]; exact hj) (by rw [m1]; exact hm), ixl, ixl]
  rw [er]
  have I5 : Inv (up (up (pg (gF (qM a i) (qM a j)) (mk a) 10 0 (rMk (rmK (rmK a 184 i 10) 184 j 10) (Int32.ofNat (qS a i)) (Int32.ofNat (qQ a i + qQ a j)) (Int32.ofNat (qR a i + qR a j)))) (24 + 8 * i + 3) 6) (24 + 8 * j + 3) 6) (B + 10) := (I4.free (Or.inr (Or.inr ⟨i, by omega, Or.inr (Or.inr ⟨rfl, by decide⟩)⟩))).free (Or.inr (Or.inr ⟨j, by omega, Or.inr (Or.inr ⟨rfl, by decide⟩)⟩))
  exact I5.note rfl (by rw [mk_up (by omega), mk_up (by omega), mk_pg (by omega), k1, m2]; omega)
theorem o_group (hJ : JC σ S c) (hW : zK σ 131 = 23 ∧ zL σ 131 = 1) (hS : SI S (100 * c)) (hcc : c ≤ 512) (hn : 30000 < n) (p q : Int32) : OPR (fL_group n 4 p q 131) (fX8_group n 125 p q) σ S c := by
  have rm := hJ.room (by omega)
  have hR := hJ.rep
  have hI := hS.1
  have hC := hI.1
  rcases lot_cases hI.1 p with ⟨i, rfl, him, hi20, v1, v2⟩ | ⟨v1, v2⟩
  · rcases lot_cases hI.1 q with ⟨j, rfl, hjm, hj20, w1, w2⟩ | ⟨w1, w2⟩
    · obtain ⟨hLi, ⟨qi1, qi2, qi3⟩, ⟨si1, si2⟩, -⟩ := hI.2.2.1 i him
      obtain ⟨hLj, ⟨qj1, qj2, qj3⟩, ⟨sj1, sj2⟩, -⟩ := hI.2.2.1 j hjm
      obtain ⟨ri1, ri2⟩ := hLi.1
      obtain ⟨rj1, rj2⟩ := hLj.1
      -- what both sides read first
      have hdC : ∀ Q : (Int32 ⊕ Nat) × zW → Prop, (i = j ∨ qS (sA S) i ≠ qS (sA S) j → Q (.inr 2, nwX σ)) → (i ≠ j → qS (sA S) i = qS (sA S) j → wp (zbx (fX7_needWithin n (Int32.ofNat (qQ (sA S) i) + Int32.ofNat (qQ (sA S) j)) 1 20 σ) (fun _ σ21 => zgI σ21 3 (lo 5 i) 7 fun x24 => zgI σ21 3 (lo 5 j) 7 fun x25 => zbx (fX7_needWithin n (x24 + x25) 0 90000 σ21) (fun _ σ27 => zbx (fX7_needState n (lo 5 i) 0 σ27) (fun _ σ31 => zbx (fX7_needState n (lo 5 j) 0 σ31) (fun _ σ35 => zck σ35 8 4 (zbx (fX7_needRoomForLots n 4 1 σ35) (fun _ σ39 => zgR σ39 8 4 2 fun x42 => zgR σ39 8 4 0 fun x43 => zck σ39 1 x42 (zb (fX0_keep n x42 x43 σ39) fun σ44 => zgR σ44 8 4 0 fun x45 => zck σ44 4 x45 (zb2 (fX3_makeGroup n x45 (lo 5 i) (lo 5 j) σ44) fun x46 σ47 => zpI σ47 3 (lo 5 i) 4 6 fun σ48 => zpI σ48 3 (lo 5 j) 4 6 fun σ49 => zck σ49 3 (lo 5 i) (zb (fX2_removeOrders n (lo 5 i) σ49) fun σ50 => zck σ50 3 (lo 5 j) (zb (fX2_removeOrders n (lo 5 j) σ50) fun σ51 => zgR σ51 8 4 0 fun x52 => zgR σ51 4 x52 4 fun x53 => zck σ51 2 x53 (zb (fX1_note n x53 7 (Int32.ofNat i) (-1) x46 σ51) fun σ54 => some (.inl x46, σ54))))))) (fun e40 σ41 => some (.inr e40, σ41)))) (fun e36 σ37 => some (.inr e36, σ37))) (fun e32 σ33 => some (.inr e32, σ33))) (fun e28 σ29 => some (.inr e28, σ29))) (fun e22 σ23 => some (.inr e22, σ23))) Q) → wp (fX7_group n 4 (Int32.ofNat i) (Int32.ofNat j) σ) Q := fun Q h1 h2 => by
        unfold fX7_group
        refine wpE (zck_e hJ.x) ?_
        refine wpE (zbx_l (cn_lot hJ v1)) ?_
        refine wpE (zck_e hJ.x) ?_
        refine wpE (zbx_l (cn_lot hJ w1)) ?_
        refine wpE (zgR_e hJ.x hJ.xs) ?_
        refine wpE (zgR_e hR.1.kS hR.1.r3) ?_
        refine wpE (zaRN_e hR.1.kO hR.1.lO hi20 (by decide) (hR.1.rL hi20)) ?_
        refine wpE (zgR_e hJ.x hJ.xs) ?_
        refine wpE (zgR_e hR.1.kS hR.1.r3) ?_
        refine wpE (zaRN_e hR.1.kO hR.1.lO hj20 (by decide) (hR.1.rL hj20)) ?_
        have bad : Q (.inr 2, nwX σ) → wp (sX7_group_48 n σ) Q := fun z => by
          unfold sX7_group_48
          refine wpE (zth_e rm.1 rm.2) ?_
          exact wp_some z
        by_cases e : i = j
        · refine wpE (if_pos ((io_inj (by omega) (by omega)).mpr e)) ?_
          exact bad (h1 (Or.inl e))
        · refine wpE (if_neg (fun z => e ((io_inj (by omega) (by omega)).mp z))) ?_
          refine wpE (zgI_e (hR.1.kL hi20) ((hR.l0 hi20 him).trans si1)) ?_
          refine wpE (zgI_e (hR.1.kL hj20) ((hR.l0 hj20 hjm).trans sj1)) ?_
          by_cases e2 : qS (sA S) i = qS (sA S) j
          · refine wpE (if_pos ((io_inj (by omega) (by omega)).mpr e2)) ?_
            refine wpE (zgI_e (hR.1.kL hi20) ((hR.l1 hi20 him).trans qi1)) ?_
            refine wpE (zgI_e (hR.1.kL hj20) ((hR.l1 hj20 hjm).trans qj1)) ?_
            exact h2 e e2
          · refine wpE (if_neg (fun z => e2 ((io_inj (by omega) (by omega)).mp z))) ?_
            exact bad (h1 (Or.inr e2))
      have hdR : ∀ (τ : zW), JR τ S → ∀ Q : Int32 × zW → Prop, ((i = j ∨ qS (sA S) i ≠ qS (sA S) j) → wp (sX8_group_83 n 125 (stI τ 125 0 0)) Q) → (i ≠ j → qS (sA S) i = qS (sA S) j → wp (if 20 < (Int32.ofNat (qQ (sA S) i) + Int32.ofNat (qQ (sA S) j)) then sX8_group_83 n 125 (stI τ 125 0 0) else zck (stI τ 125 0 0) 9 125 (zb (fX8_at n 125 (Int32.ofNat i) 2 (stI τ 125 0 0)) fun x28 => zck (stI τ 125 0 0) 9 125 (zb (fX8_at n 125 (Int32.ofNat j) 2 (stI τ 125 0 0)) fun x29 => if 90000 < (x28 + x29) then sX8_group_83 n 125 (stI τ 125 0 0) else zck (stI τ 125 0 0) 9 125 (zb (fX8_at n 125 (Int32.ofNat i) 3 (stI τ 125 0 0)) fun x30 => if x30 = 0 then zck (stI τ 125 0 0) 9 125 (zb (fX8_at n 125 (Int32.ofNat j) 3 (stI τ 125 0 0)) fun x31 => if x31 = 0 then zgR (stI τ 125 0 0) 9 125 1 fun x32 => zaI (stI τ 125 0 0) x32 23 fun x33 => if x33 = 20 then sX8_group_119 n 125 (stI τ 125 0 0) else zck (stI τ 125 0 0) 9 125 (zb (fX8_keep n 125 (stI τ 125 0 0)) fun σ34 => zck σ34 9 125 (zb (fX8_at n 125 (Int32.ofNat i) 0 σ34) fun x35 => zck σ34 9 125 (zb (fX8_at n 125 (Int32.ofNat i) 1 σ34) fun x36 => zck σ34 9 125 (zb (fX8_at n 125 (Int32.ofNat j) 1 σ34) fun x37 => zck σ34 9 125 (zb (fX8_at n 125 (Int32.ofNat i) 2 σ34) fun x38 => zck σ34 9 125 (zb (fX8_at n 125 (Int32.ofNat j) 2 σ34) fun x39 => zck σ34 9 125 (zb2 (fX8_makeLot n 125 x35 (x36 + x37) (x38 + x39) σ34) fun x40 σ41 => sX8_group_169 n n 125 (Int32.ofNat i) (Int32.ofNat j) x40 0 σ41))))))) else sX8_group_119 n 125 (stI τ 125 0 0)) else sX8_group_119 n 125 (stI τ 125 0 0))))) Q) → wp (fX8_group n 125 (Int32.ofNat i) (Int32.ofNat j) τ) Q := fun τ hτ Q h1 h2 => by
        have t2 := (Tr.one (k := 0) hτ).2.2
        unfold fX8_group
        refine wpE (zpI_e hτ.k rfl) ?_
        refine wpE (zck_e t2.k) ?_
        refine wpE (zb_e (jn_lot t2 v2)) ?_
        refine wpE (if_neg one_ne) ?_
        refine wpE (zck_e t2.k) ?_
        refine wpE (zb_e (jn_lot t2 w2)) ?_
        refine wpE (if_neg one_ne) ?_
        by_cases e : i = j
        · refine wpE (if_pos ((io_inj (by omega) (by omega)).mpr e)) ?_
          exact h1 (Or.inl e)
        · refine wpE (if_neg (fun z => e ((io_inj (by omega) (by omega)).mp z))) ?_
          refine wpE (zck_e t2.k) ?_
          refine wpE (zb_e ((j_at0 t2 hi20).trans (congrArg some si1))) ?_
          refine wpE (zck_e t2.k) ?_
          refine wpE (zb_e ((j_at0 t2 hj20).trans (congrArg some sj1))) ?_
          by_cases e2 : qS (sA S) i = qS (sA S) j
          · refine wpE (if_pos ((io_inj (by omega) (by omega)).mpr e2)) ?_
            refine wpE (zck_e t2.k) ?_
            refine wpE (zb_e ((j_at1 t2 hi20).trans (congrArg some qi1))) ?_
            refine wpE (zck_e t2.k) ?_
            refine wpE (zb_e ((j_at1 t2 hj20).trans (congrArg some qj1))) ?_
            exact h2 e e2
          · refine wpE (if_neg (fun z => e2 ((io_inj (by omega) (by omega)).mp z))) ?_
            exact h1 (Or.inr e2)
      have bad2 : ∀ τ, JR τ S → wp (sX8_group_83 n 125 (stI τ 125 0 0)) (fun r => Tr τ S 2 r.2) := fun τ hτ => by
        unfold sX8_group_83
        exact fin_fail hτ
      have bad3 : ∀ τ, JR τ S → wp (sX8_group_119 n 125 (stI τ 125 0 0)) (fun r => Tr τ S 3 r.2) := fun τ hτ => by
        unfold sX8_group_119
        exact fin_fail hτ
      by_cases hij : i ≠ j ∧ qS (sA S) i = qS (sA S) j
      · have lq : ((20 : Int32) < Int32.ofNat (qQ (sA S) i) + Int32.ofNat (qQ (sA S) j)) = (20 < qQ (sA S) i + qQ (sA S) j) := by rw [ixl]; exact io_lt (a := 20) (by decide) (by omega)
        have lq1 : (1 : Int32) ≤ Int32.ofNat (qQ (sA S) i) + Int32.ofNat (qQ (sA S) j) := by
          rw [ixl]
          have : ((1 : Int32) ≤ Int32.ofNat (qQ (sA S) i + qQ (sA S) j)) = (1 ≤ qQ (sA S) i + qQ (sA S) j) := io_le (a := 1) (by decide) (by omega)
          exact this.symm ▸ (show 1 ≤ qQ (sA S) i + qQ (sA S) j by omega)
        have lr : ((90000 : Int32) < Int32.ofNat (qR (sA S) i) + Int32.ofNat (qR (sA S) j)) = (90000 < qR (sA S) i + qR (sA S) j) := by rw [ixl]; exact io_lt (a := 90000) (by decide) (by omega)
        have lr0 : (0 : Int32) ≤ Int32.ofNat (qR (sA S) i) + Int32.ofNat (qR (sA S) j) := by
          rw [ixl]
          exact io_ge0 (by omega)
        by_cases g1 : 20 < qQ (sA S) i + qQ (sA S) j
        · refine o_thr (e := 2) (k := 2) (X := fX7_group n 4 _ _) hJ hS rfl (by decide) (hdC _ (fun _ => rfl) (fun _ _ => ?_)) (fun τ hτ => hdR τ hτ _ (fun _ => bad2 τ hτ) (fun _ _ => ?_))
          · refine wpE (zbx_r (cn_in_x rm (fun z => Int32.not_lt.mpr z.2 (lq.symm ▸ g1)))) ?_
            exact wp_some rfl
          · refine wpE (if_pos (lq.symm ▸ g1)) ?_
            exact bad2 τ hτ
        · have c1 : (1 : Int32) ≤ Int32.ofNat (qQ (sA S) i) + Int32.ofNat (qQ (sA S) j) ∧ Int32.ofNat (qQ (sA S) i) + Int32.ofNat (qQ (sA S) j) ≤ 20 := ⟨lq1, Int32.not_lt.mp (fun z => g1 (lq ▸ z))⟩
          by_cases g2 : 90000 < qR (sA S) i + qR (sA S) j
          · refine o_thr (e := 2) (k := 2) (X := fX7_group n 4 _ _) hJ hS rfl (by decide) (hdC _ (fun _ => rfl) (fun _ _ => ?_)) (fun τ hτ => hdR τ hτ _ (fun _ => bad2 τ hτ) (fun _ _ => ?_))
            · refine wpE (zbx_l (cn_in c1)) ?_
              refine wpE (zgI_e (hR.1.kL hi20) ((hR.l2 hi20 him).trans ri1)) ?_
              refine wpE (zgI_e (hR.1.kL hj20) ((hR.l2 hj20 hjm).trans rj1)) ?_
              refine wpE (zbx_r (cn_in_x rm (fun z => Int32.not_lt.mpr z.2 (lr.symm ▸ g2)))) ?_
              exact wp_some rfl
            · have t2 := (Tr.one (k := 0) hτ).2.2
              refine wpE (if_neg (fun z => g1 (lq ▸ z))) ?_
              refine wpE (zck_e t2.k) ?_
              refine wpE (zb_e ((j_at2 t2 hi20).trans (congrArg some ri1))) ?_
              refine wpE (zck_e t2.k) ?_
              refine wpE (zb_e ((j_at2 t2 hj20).trans (congrArg some rj1))) ?_
              refine wpE (if_pos (lr.symm ▸ g2)) ?_
              exact bad2 τ hτ
          · have c2 : (0 : Int32) ≤ Int32.ofNat (qR (sA S) i) + Int32.ofNat (qR (sA S) j) ∧ Int32.ofNat (qR (sA S) i) + Int32.ofNat (qR (sA S) j) ≤ 90000 := ⟨lr0, Int32.not_lt.mp (fun z => g2 (lr ▸ z))⟩
            by_cases s1 : sA S (24 + 8 * i + 3) = 0
            · by_cases s2 : sA S (24 + 8 * j + 3) = 0
              · have e23 := hC.1
                have hm := hC.2.1
                by_cases h4 : mk (sA S) = 20
                · have hr : 20 < sA S 23 + 1 := by rw [e23, h4]; decide
                  refine o_thr (e := 3) (k := 3) (X := fX7_group n 4 _ _) hJ hS rfl (by decide) (hdC _ (fun z => absurd hij (by rcases z with z | z; exact fun y => y.1 z; exact fun y => z y.2)) (fun _ _ => ?_)) (fun τ hτ => hdR τ hτ _ (fun z => absurd hij (by rcases z with z | z; exact fun y => y.1 z; exact fun y => z y.2)) (fun _ _ => ?_))
                  · refine wpE (zbx_l (cn_in c1)) ?_
                    refine wpE (zgI_e (hR.1.kL hi20) ((hR.l2 hi20 him).trans ri1)) ?_
                    refine wpE (zgI_e (hR.1.kL hj20) ((hR.l2 hj20 hjm).trans rj1)) ?_
                    refine wpE (zbx_l (cn_in c2)) ?_
                    refine wpE (zbx_l (cn_st hJ him hi20 s1)) ?_
                    refine wpE (zbx_l (cn_st hJ hjm hj20 s2)) ?_
                    refine wpE (zck_e hJ.x) ?_
                    refine wpE (zbx_r (cn_room_x hJ rm hr)) ?_
                    exact wp_some rfl
                  · have t2 := (Tr.one (k := 0) hτ).2.2
                    refine wpE (if_neg (fun z => g1 (lq ▸ z))) ?_
                    refine wpE (zck_e t2.k) ?_
                    refine wpE (zb_e ((j_at2 t2 hi20).trans (congrArg some ri1))) ?_
                    refine wpE (zck_e t2.k) ?_
                    refine wpE (zb_e ((j_at2 t2 hj20).trans (congrArg some rj1))) ?_
                    refine wpE (if_neg (fun z => g2 (lr ▸ z))) ?_
                    refine wpE (zck_e t2.k) ?_
                    refine wpE (zb_e (j_at3 t2 hi20)) ?_
                    refine wpE (if_pos s1) ?_
                    refine wpE (zck_e t2.k) ?_
                    refine wpE (zb_e (j_at3 t2 hj20)) ?_
                    refine wpE (if_pos s2) ?_
                    refine wpE (zgR_e t2.k t2.w) ?_
                    refine wpE (zaW_e (j := 23) t2 rfl (by decide)) ?_
                    refine wpE (if_pos (by rw [e23, h4]; rfl)) ?_
                    exact bad3 τ hτ
                · have hr : ¬ 20 < sA S 23 + 1 := by
                    rw [e23, io_succ]
                    refine Int32.not_lt.mpr ?_
                    have : (Int32.ofNat (mk (sA S) + 1) ≤ Int32.ofNat 20) = (mk (sA S) + 1 ≤ 20) := io_le (by omega) (by decide)
                    exact this.symm ▸ (show mk (sA S) + 1 ≤ 20 by omega)
                  have hne : ¬ sA S 23 = 20 := by
                    rw [e23]
                    intro z
                    have := io_nat (i := mk (sA S)) (by omega)
                    rw [z] at this
                    exact h4 this.symm
                  have hm20 : mk (sA S) < 20 := by omega
                  have hG := grow_inv hI (by omega) him hjm hij.1 hm20 (by omega) (by omega)
                  have sM := src_lt hLi
                  have sN := src_lt hLj
                  have kc := rMk_cn (sl := Int32.ofNat (qS (sA S) i)) (q := Int32.ofNat (qQ (sA S) i) + Int32.ofNat (qQ (sA S) j)) (r := Int32.ofNat (qR (sA S) i) + Int32.ofNat (qR (sA S) j)) hC hm20
                  refine o_ok (v := Int32.ofNat (mk (sA S))) (S' := uA (keepS S) (grow (sA S) i j)) (X := fX7_group n 4 _ _) hJ hW (hS.keep.row (hG.mono (by omega)) (by omega)) (hdC _ (fun z => absurd hij (by rcases z with z | z; exact fun y => y.1 z; exact fun y => z y.2)) (fun _ _ => ?_)) (fun τ hτ => hdR τ hτ _ (fun z => absurd hij (by rcases z with z | z; exact fun y => y.1 z; exact fun y => z y.2)) (fun _ _ => ?_))
                  · refine wpE (zbx_l (cn_in c1)) ?_
                    refine wpE (zgI_e (hR.1.kL hi20) ((hR.l2 hi20 him).trans ri1)) ?_
                    refine wpE (zgI_e (hR.1.kL hj20) ((hR.l2 hj20 hjm).trans rj1)) ?_
                    refine wpE (zbx_l (cn_in c2)) ?_
                    refine wpE (zbx_l (cn_st hJ him hi20 s1)) ?_
                    refine wpE (zbx_l (cn_st hJ hjm hj20 s2)) ?_
                    refine wpE (zck_e hJ.x) ?_
                    refine wpE (zbx_l (cn_room hJ hr)) ?_
                    refine wpE (zgR_e hJ.x hJ.xh) ?_
                    refine wpE (zgR_e hJ.x hJ.xs) ?_
                    refine wpE (zck_e hJ.kh) ?_
                    obtain ⟨σ1, e1, J1, F1⟩ := cw_keep (n := n) hJ hI.1 (by omega) (by omega)
                    have R1 := J1.rep
                    refine wpE (zb_e e1) ?_
                    refine wpE (zgR_e J1.x J1.xs) ?_
                    refine wpE (zck_e R1.1.kS) ?_
                    have gg : wp (fX3_makeGroup n 5 (lo 5 i) (lo 5 j) σ1) (fun p => p.1 = Int32.ofNat (mk (sA S)) ∧ Cw σ1 (uA (keepS S) (pg (gF (qM (sA S) i) (qM (sA S) j)) (mk (sA S)) 10 0 (rMk (sA S) (Int32.ofNat (qS (sA S) i)) (Int32.ofNat (qQ (sA S) i) + Int32.ofNat (qQ (sA S) j)) (Int32.ofNat (qR (sA S) i) + Int32.ofNat (qR (sA S) j))))) c p.2) := by
                      unfold fX3_makeGroup
                      refine wpE (zgI_e (R1.1.kL hi20) ((R1.l0 hi20 him).trans si1)) ?_
                      refine wpE (zgI_e (R1.1.kL hi20) ((R1.l1 hi20 him).trans qi1)) ?_
                      refine wpE (zgI_e (R1.1.kL hj20) ((R1.l1 hj20 hjm).trans qj1)) ?_
                      refine wpE (zgI_e (R1.1.kL hi20) ((R1.l2 hi20 him).trans ri1)) ?_
                      refine wpE (zgI_e (R1.1.kL hj20) ((R1.l2 hj20 hjm).trans rj1)) ?_
                      refine wpE (zck_e R1.1.kS) ?_
                      obtain ⟨p2, e2, u2, w2⟩ := cw_mk (n := n) (sl := Int32.ofNat (qS (sA S) i)) (q := Int32.ofNat (qQ (sA S) i) + Int32.ofNat (qQ (sA S) j)) (r := Int32.ofNat (qR (sA S) i) + Int32.ofNat (qR (sA S) j)) J1 hC (by omega) hm20
                      refine wpE (zb2_e (v := p2.1) (s := p2.2) e2) ?_
                      rw [u2]
                      refine wp_mono (c_grp (M := qM (sA S) i) (N := qM (sA S) j) (t := mk (sA S)) hi20 hj20 hm20 (by omega) (by omega) 10 n 0 p2.2 _ w2.1 (sM.mk' him hm20) (sN.mk' hjm hm20) ?_ ?_ (by omega) (by omega)) (fun p q => ⟨q.1, w2.tr q.2⟩)
                      · show i < mk (rMk (sA S) _ _ _)
                        rw [kc.2]; omega
                      · show j < mk (rMk (sA S) _ _ _)
                        rw [kc.2]; omega
                    obtain ⟨p2, e2, u2, w2⟩ := gg
                    refine wpE (zb2_e (v := p2.1) (s := p2.2) e2) ?_
                    rw [u2]
                    have hP : mk (pg (gF (qM (sA S) i) (qM (sA S) j)) (mk (sA S)) 10 0 (rMk (sA S) (Int32.ofNat (qS (sA S) i)) (Int32.ofNat (qQ (sA S) i) + Int32.ofNat (qQ (sA S) j)) (Int32.ofNat (qR (sA S) i) + Int32.ofNat (qR (sA S) j)))) = mk (sA S) + 1 := (mk_pg (by omega)).trans kc.2
                    have hPc := kc.1.cong (a' := pg (gF (qM (sA S) i) (qM (sA S) j)) (mk (sA S)) 10 0 (rMk (sA S) (Int32.ofNat (qS (sA S) i)) (Int32.ofNat (qQ (sA S) i) + Int32.ofNat (qQ (sA S) j)) (Int32.ofNat (qR (sA S) i) + Int32.ofNat (qR (sA S) j)))) (pg_old (by omega) (by omega) 10 0 _ (by omega)) (pg_old (by omega) (by omega) 10 0 _ (by omega))
                    unfold grow
                    generalize pg (gF (qM (sA S) i) (qM (sA S) j)) (mk (sA S)) 10 0 (rMk (sA S) (Int32.ofNat (qS (sA S) i)) (Int32.ofNat (qQ (sA S) i) + Int32.ofNat (qQ (sA S) j)) (Int32.ofNat (qR (sA S) i) + Int32.ofNat (qR (sA S) j))) = P at *
                    refine wpE (zpI_e (w2.1.rep.1.kL hi20) rfl) ?_
                    have w3 := cw_fld (x := 6) w2.1 hi20 (by omega) (slo_l3 hi20) (by omega) (by omega)
                    refine wpE (zpI_e (w3.1.rep.1.kL hj20) rfl) ?_
                    have w4 := cw_fld (x := 6) w3.1 hj20 (by omega) (slo_l3 hj20) (by omega) (by omega)
                    refine wpE (zck_e (w4.1.rep.1.kL hi20)) ?_
                    obtain ⟨σ5, e5, w5⟩ := cw_rmO (n := n) w4.1 (by omega) hi20
                    refine wpE (zb_e e5) ?_
                    refine wpE (zck_e (w5.1.rep.1.kL hj20)) ?_
                    obtain ⟨σ6, e6, w6⟩ := cw_rmO (n := n) w5.1 (by omega) hj20
                    have er : rmK (rmK (up (up P (24 + 8 * i + 3) 6) (24 + 8 * j + 3) 6) 184 i 10) 184 j 10 = up (up (rmK (rmK P 184 i 10) 184 j 10) (24 + 8 * i + 3) 6) (24 + 8 * j + 3) 6 := by
                      rw [up_rm (by omega), up_rm (by omega), up_rm (by omega), up_rm (by omega)]
                    have w6' : Cw σ5 (uA (keepS S) (up (up (rmK (rmK P 184 i 10) 184 j 10) (24 + 8 * i + 3) 6) (24 + 8 * j + 3) 6)) c σ6 := by
                      rw [← er]
                      exact w6
                    have J6 := w6'.1
                    refine wpE (zb_e e6) ?_
                    refine wpE (zgR_e J6.x J6.xs) ?_
                    refine wpE (zgR_e J6.rep.1.kS J6.rep.1.r4) ?_
                    refine wpE (zck_e J6.rep.1.kG) ?_
                    obtain ⟨σ7, e7, w7⟩ := cw_note (n := n) (κ := 7) (l := Int32.ofNat i) (β := -1) (x := Int32.ofNat (mk (sA S))) J6 (hPc.cong (by
                      show up (up (rmK (rmK P 184 i 10) 184 j 10) (24 + 8 * i + 3) 6) (24 + 8 * j + 3) 6 23 = P 23
                      rw [up_ne (by omega), up_ne (by omega), rm_old (by omega), rm_old (by omega)]) (by
                      show up (up (rmK (rmK P 184 i 10) 184 j 10) (24 + 8 * i + 3) 6) (24 + 8 * j + 3) 6 991 = P 991
                      rw [up_ne (by omega), up_ne (by omega), rm_old (by omega), rm_old (by omega)]))
                    refine wpE (zb_e e7) ?_
                    exact fin_ok rfl (((((Cw.tr (Cw.tr ⟨J1, F1⟩ w2) w3).tr w4).tr w5).tr w6').tr w7)
                  · have hT := Tr.one (k := 0) hτ
                    have t2 := hT.2.2
                    refine wpE (if_neg (fun z => g1 (lq ▸ z))) ?_
                    refine wpE (zck_e t2.k) ?_
                    refine wpE (zb_e ((j_at2 t2 hi20).trans (congrArg some ri1))) ?_
                    refine wpE (zck_e t2.k) ?_
                    refine wpE (zb_e ((j_at2 t2 hj20).trans (congrArg some rj1))) ?_
                    refine wpE (if_neg (fun z => g2 (lr ▸ z))) ?_
                    refine wpE (zck_e t2.k) ?_
                    refine wpE (zb_e (j_at3 t2 hi20)) ?_
                    refine wpE (if_pos s1) ?_
                    refine wpE (zck_e t2.k) ?_
                    refine wpE (zb_e (j_at3 t2 hj20)) ?_
                    refine wpE (if_pos s2) ?_
                    refine wpE (zgR_e t2.k t2.w) ?_
                    refine wpE (zaW_e (j := 23) t2 rfl (by decide)) ?_
                    refine wpE (if_neg hne) ?_
                    refine wpE (zck_e t2.k) ?_
                    obtain ⟨τ1, e1, x1⟩ := jw_keep (n := n) t2 hn
                    refine wpE (zb_e e1) ?_
                    refine wpE (zck_e x1.1.k) ?_
                    refine wpE (zb_e ((j_at0 x1.1 hi20).trans (congrArg some si1))) ?_
                    refine wpE (zck_e x1.1.k) ?_
                    refine wpE (zb_e ((j_at1 x1.1 hi20).trans (congrArg some qi1))) ?_
                    refine wpE (zck_e x1.1.k) ?_
                    refine wpE (zb_e ((j_at1 x1.1 hj20).trans (congrArg some qj1))) ?_
                    refine wpE (zck_e x1.1.k) ?_
                    refine wpE (zb_e ((j_at2 x1.1 hi20).trans (congrArg some ri1))) ?_
                    refine wpE (zck_e x1.1.k) ?_
                    refine wpE (zb_e ((j_at2 x1.1 hj20).trans (congrArg some rj1))) ?_
                    refine wpE (zck_e x1.1.k) ?_
                    obtain ⟨p2, e2, u2, x2⟩ := jw_mk (n := n) (sl := Int32.ofNat (qS (sA S) i)) (q := Int32.ofNat (qQ (sA S) i) + Int32.ofNat (qQ (sA S) j)) (r := Int32.ofNat (qR (sA S) i) + Int32.ofNat (qR (sA S) j)) x1.1 hC (by omega) hm20
                    refine wpE (zb2_e (v := p2.1) (s := p2.2) e2) ?_
                    rw [u2]
                    refine j_grp (M := qM (sA S) i) (N := qM (sA S) j) (t := mk (sA S)) hi20 hj20 hm20 (by omega) (by omega) 10 n 0 p2.2 _ x2.1 (sM.mk' him hm20) (sN.mk' hjm hm20) (by omega) (by omega) (fun τ3 x3 => ?_)
                    have hPc := kc.1.cong (a' := pg (gF (qM (sA S) i) (qM (sA S) j)) (mk (sA S)) 10 0 (rMk (sA S) (Int32.ofNat (qS (sA S) i)) (Int32.ofNat (qQ (sA S) i) + Int32.ofNat (qQ (sA S) j)) (Int32.ofNat (qR (sA S) i) + Int32.ofNat (qR (sA S) j)))) (pg_old (by omega) (by omega) 10 0 _ (by omega)) (pg_old (by omega) (by omega) 10 0 _ (by omega))
                    have x3' : Sm p2.2 (uA (keepS S) (pg (gF (qM (sA S) i) (qM (sA S) j)) (mk (sA S)) 10 0 (rMk (sA S) (Int32.ofNat (qS (sA S) i)) (Int32.ofNat (qQ (sA S) i) + Int32.ofNat (qQ (sA S) j)) (Int32.ofNat (qR (sA S) i) + Int32.ofNat (qR (sA S) j))))) τ3 := x3
                    unfold grow
                    generalize pg (gF (qM (sA S) i) (qM (sA S) j)) (mk (sA S)) 10 0 (rMk (sA S) (Int32.ofNat (qS (sA S) i)) (Int32.ofNat (qQ (sA S) i) + Int32.ofNat (qQ (sA S) j)) (Int32.ofNat (qR (sA S) i) + Int32.ofNat (qR (sA S) j))) = P at *
                    refine wpE (zck_e x3'.1.k) ?_
                    obtain ⟨p4, e4, u4, x4⟩ := jw_rmO (n := n) x3'.1 (by omega) hi20
                    refine wpE (zb2_e (v := p4.1) (s := p4.2) e4) ?_
                    refine wpE (zck_e x4.1.k) ?_
                    obtain ⟨p5, e5, u5, x5⟩ := jw_rmO (n := n) x4.1 (by omega) hj20
                    refine wpE (zb2_e (v := p5.1) (s := p5.2) e5) ?_
                    refine wpE (zck_e x5.1.k) ?_
                    obtain ⟨τ6, e6, x6⟩ := jw_set (n := n) (p := 3) (x := 6) x5.1 hi20 (by decide)
                    refine wpE (zb_e e6) ?_
                    refine wpE (zck_e x6.1.k) ?_
                    obtain ⟨τ7, e7, x7⟩ := jw_set (n := n) (p := 3) (x := 6) x6.1 hj20 (by decide)
                    refine wpE (zb_e e7) ?_
                    refine wpE (zck_e x7.1.k) ?_
                    obtain ⟨τ8, e8, x8⟩ := jw_note (n := n) (κ := 7) (l := Int32.ofNat i) (β := -1) (x := Int32.ofNat (mk (sA S))) x7.1 (hPc.cong (by
                      show up (up (rmK (rmK P 184 i 10) 184 j 10) (24 + 8 * i + 3) 6) (24 + 8 * j + 3) 6 23 = P 23
                      rw [up_ne (by omega), up_ne (by omega), rm_old (by omega), rm_old (by omega)]) (by
                      show up (up (rmK (rmK P 184 i 10) 184 j 10) (24 + 8 * i + 3) 6) (24 + 8 * j + 3) 6 991 = P 991
                      rw [up_ne (by omega), up_ne (by omega), rm_old (by omega), rm_old (by omega)]))
                    refine wpE (zb_e e8) ?_
                    exact wp_some ⟨rfl, Sm.thr hT (((((((x1.tr x2).tr x3').tr x4).tr x5).tr x6).tr x7).tr x8)⟩
              · refine o_thr (e := 3) (k := 3) (X := fX7_group n 4 _ _) hJ hS rfl (by decide) (hdC _ (fun z => absurd hij (by rcases z with z | z; exact fun y => y.1 z; exact fun y => z y.2)) (fun _ _ => ?_)) (fun τ hτ => hdR τ hτ _ (fun z => absurd hij (by rcases z with z | z; exact fun y => y.1 z; exact fun y => z y.2)) (fun _ _ => ?_))
                · refine wpE (zbx_l (cn_in c1)) ?_
                  refine wpE (zgI_e (hR.1.kL hi20) ((hR.l2 hi20 him).trans ri1)) ?_
                  refine wpE (zgI_e (hR.1.kL hj20) ((hR.l2 hj20 hjm).trans rj1)) ?_
                  refine wpE (zbx_l (cn_in c2)) ?_
                  refine wpE (zbx_l (cn_st hJ him hi20 s1)) ?_
                  refine wpE (zbx_r (cn_st_x hJ rm hjm hj20 s2)) ?_
                  exact wp_some rfl
                · have t2 := (Tr.one (k := 0) hτ).2.2
                  refine wpE (if_neg (fun z => g1 (lq ▸ z))) ?_
                  refine wpE (zck_e t2.k) ?_
                  refine wpE (zb_e ((j_at2 t2 hi20).trans (congrArg some ri1))) ?_
                  refine wpE (zck_e t2.k) ?_
                  refine wpE (zb_e ((j_at2 t2 hj20).trans (congrArg some rj1))) ?_
                  refine wpE (if_neg (fun z => g2 (lr ▸ z))) ?_
                  refine wpE (zck_e t2.k) ?_
                  refine wpE (zb_e (j_at3 t2 hi20)) ?_
                  refine wpE (if_pos s1) ?_
                  refine wpE (zck_e t2.k) ?_
                  refine wpE (zb_e (j_at3 t2 hj20)) ?_
                  refine wpE (if_neg s2) ?_
                  exact bad3 τ hτ
            · refine o_thr (e := 3) (k := 3) (X := fX7_group n 4 _ _) hJ hS rfl (by decide) (hdC _ (fun z => absurd hij (by rcases z with z | z; exact fun y => y.1 z; exact fun y => z y.2)) (fun _ _ => ?_)) (fun τ hτ => hdR τ hτ _ (fun z => absurd hij (by rcases z with z | z; exact fun y => y.1 z; exact fun y => z y.2)) (fun _ _ => ?_))
              · refine wpE (zbx_l (cn_in c1)) ?_
                refine wpE (zgI_e (hR.1.kL hi20) ((hR.l2 hi20 him).trans ri1)) ?_
                refine wpE (zgI_e (hR.1.kL hj20) ((hR.l2 hj20 hjm).trans rj1)) ?_
                refine wpE (zbx_l (cn_in c2)) ?_
                refine wpE (zbx_r (cn_st_x hJ rm him hi20 s1)) ?_
                exact wp_some rfl
              · have t2 := (Tr.one (k := 0) hτ).2.2
                refine wpE (if_neg (fun z => g1 (lq ▸ z))) ?_
                refine wpE (zck_e t2.k) ?_
                refine wpE (zb_e ((j_at2 t2 hi20).trans (congrArg some ri1))) ?_
                refine wpE (zck_e t2.k) ?_
                refine wpE (zb_e ((j_at2 t2 hj20).trans (congrArg some rj1))) ?_
                refine wpE (if_neg (fun z => g2 (lr ▸ z))) ?_
                refine wpE (zck_e t2.k) ?_
                refine wpE (zb_e (j_at3 t2 hi20)) ?_
                refine wpE (if_neg s1) ?_
                exact bad3 τ hτ
      · refine o_thr (e := 2) (k := 2) (X := fX7_group n 4 _ _) hJ hS rfl (by decide) (hdC _ (fun _ => rfl) (fun y z => absurd ⟨y, z⟩ hij)) (fun τ hτ => hdR τ hτ _ (fun _ => bad2 τ hτ) (fun y z => absurd ⟨y, z⟩ hij))
    · refine o_thr (e := 1) (k := 1) (X := fX7_group n 4 _ _) hJ hS rfl (by decide) ?_ (fun τ hτ => ?_)
      · unfold fX7_group
        refine wpE (zck_e hJ.x) ?_
        refine wpE (zbx_l (cn_lot hJ v1)) ?_
        refine wpE (zck_e hJ.x) ?_
        refine wpE (zbx_r (cn_lot_x hJ rm w1)) ?_
        exact wp_some rfl
      · have t2 := (Tr.one (k := 0) hτ).2.2
        unfold fX8_group
        refine wpE (zpI_e hτ.k rfl) ?_
        refine wpE (zck_e t2.k) ?_
        refine wpE (zb_e (jn_lot t2 v2)) ?_
        refine wpE (if_neg one_ne) ?_
        refine wpE (zck_e t2.k) ?_
        refine wpE (zb_e (jn_lot_x t2 w2)) ?_
        refine wpE (if_pos rfl) ?_
        unfold sX8_group_21
        exact fin_fail hτ
  · refine o_thr (e := 1) (k := 1) (X := fX7_group n 4 _ _) hJ hS rfl (by decide) ?_ (fun τ hτ => ?_)
    · unfold fX7_group
      refine wpE (zck_e hJ.x) ?_
      refine wpE (zbx_r (cn_lot_x hJ rm v1)) ?_
      exact wp_some rfl
    · have t2 := (Tr.one (k := 0) hτ).2.2
      unfold fX8_group
      refine wpE (zpI_e hτ.k rfl) ?_
      refine wpE (zck_e t2.k) ?_
      refine wpE (zb_e (jn_lot_x t2 v2)) ?_
      refine wpE (if_pos rfl) ?_
      unfold sX8_group_21
      exact fin_fail hτ
end
