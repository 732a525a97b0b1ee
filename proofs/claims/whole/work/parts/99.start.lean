/-! THE START -/
theorem row0_z {j : Nat} (h : 23 ≤ j) : row0 j = 0 := by
  unfold row0
  rw [if_neg (by omega), if_neg (by omega), if_neg (by omega), if_neg (by omega), if_neg (by omega), if_neg (by omega), if_neg (by omega), if_neg (by omega), if_neg (by omega)]
theorem inv0 : Inv row0 0 := by
  have hm : mk row0 = 0 := by unfold mk; rw [row0_z (by omega)]; rfl
  have hk : kp row0 = 0 := by unfold kp; rw [row0_z (by omega)]; rfl
  have hn : nm row0 = 0 := by unfold nm; rw [row0_z (by omega)]; rfl
  refine ⟨⟨?_, by omega, ?_, by omega⟩, ⟨⟨by decide, by decide, by decide, by decide⟩, fun k hk => ?_, fun k hk => ?_⟩, fun i hi => by omega, ⟨?_, by omega⟩, ?_, fun k hk2 => by omega, fun j hj => row0_z (by omega)⟩
  · rw [row0_z (by omega), hm]; rfl
  · rw [row0_z (by omega), hk]; rfl
  · have h4 : tR row0 = 4 := by decide
    rw [h4] at hk
    rcases (show k = 0 ∨ k = 1 ∨ k = 2 ∨ k = 3 by omega) with rfl | rfl | rfl | rfl <;> exact ⟨by decide, by decide, by decide, by decide, by decide⟩
  · have h4 : tR row0 = 4 := by decide
    rw [h4] at hk
    rcases (show k = 0 ∨ k = 1 ∨ k = 2 by omega) with rfl | rfl | rfl <;> decide
  · rw [row0_z (by omega), hn]; rfl
  · unfold tot
    rw [hm]
    exact Nat.zero_le _
theorem nlz_le {f : Nat → Nat} : ∀ k, nlz f k ≤ k
  | 0 => Nat.le_refl _
  | k + 1 => by
    have := nlz_le (f := f) k
    unfold nlz
    split <;> omega
def S0 : St := (row0, (0, fun _ => row0), (false, row0), (0, -1), (((0, 0), fun _ => 0), fun _ _ => True))
theorem si0 : SI S0 0 := ⟨inv0, fun k hk => absurd hk (Nat.not_lt_zero k), fun q => absurd (show (false = true) from q) (by decide), Nat.zero_le _, fun j hj => absurd hj (Nat.not_lt_zero j)⟩
section
variable {n L : Nat} {xs : Nat → Int32}
theorem z0_stt : Stt (z0 L xs) := ⟨rfl, rfl, rfl, rfl, rfl, rfl⟩
theorem nwp {σ : zW} {κ m o : Nat} (h : zN σ + 4 = o) : zK (nw σ κ m) o = κ ∧ zL (nw σ κ m) o = m ∧ (zI (nw σ κ m) o = fun _ => 0) ∧ (zR (nw σ κ m) o = fun _ => 0) := by
  subst h
  exact ⟨by rw [nw_K, if_pos rfl], by rw [nw_L, if_pos rfl], by rw [nw_I, if_pos rfl], by rw [nw_R, if_pos rfl]⟩
theorem c_start {a1 : zW} (hst : Stt a1) (N1 : zN a1 = 1) (Z1 : zS a1 = 7) (K1 : zK a1 4 = 8) (I1 : zI a1 4 = fun _ => 0) (R1 : zR a1 4 = fun _ => 0) (hn : 1000 < n) : wp (fX7_init n 4 a1) (fun σ' => Gr a1 σ' 120 2211 (fun o => o = 4) ∧ LX σ' ∧ Rep σ' 5 row0 ∧ (∀ i, i < 11 → kpo σ' i = 0) ∧ (zI σ' 120 = fun _ => 0) ∧ zI σ' 4 5 = 0 ∧ zI σ' 4 6 = -1 ∧ (zI σ' 122 = fun _ => 0)) := by
  unfold fX7_init
  refine wpE (if_neg (by decide)) ?_
  refine wpE (znO_e (by omega) (by omega)) ?_
  rw [show zN a1 + 4 = 5 by omega]
  refine wpE (if_neg (by decide)) ?_
  have g2 : Gr a1 (nw a1 4 7) 1 7 (fun o => o = 4) := Gr.nw
  have n2 := nwp (σ := a1) (κ := 4) (m := 7) (o := 5) (by omega)
  have R2 : zR (nw a1 4 7) 4 = fun _ => 0 := by rw [nw_R, if_neg (by omega)]; exact R1
  have I2 : zI (nw a1 4 7) 4 = fun _ => 0 := by rw [nw_I, if_neg (by omega)]; exact I1
  generalize nw a1 4 7 = a2 at g2 n2 R2 I2 ⊢
  have N2 := g2.1
  have Z2 := g2.2.1
  have hst2 : Stt a2 := hst.gr g2 (by decide) (by decide)
  obtain ⟨a3, e3, g3, r3⟩ := c_initSale (n := n) (σ := a2) (s := 5) hst2 n2.1 n2.2.2.1 (by omega) (by decide) (by omega) (by omega) hn
  refine wpE (zb_e e3) ?_
  have N3 := g3.1
  have Z3 := g3.2.1
  have hst3 : Stt a3 := hst2.gr g3 (by decide) (by decide)
  have K3 : zK a3 4 = 8 := (g3.K (by omega)).trans ((g2.K (by omega)).trans K1)
  have I3 : zI a3 4 = fun _ => 0 := (g3.I (by omega) (by decide)).trans I2
  have R3 : zR a3 4 = fun _ => 0 := (g3.R (by omega) (by decide)).trans R2
  refine wpE (zpR_e K3 rfl) ?_
  have g4 : Gr a3 (stR a3 4 0 5) 0 0 (fun o => o = 4) := Gr.sR
  have R4 : ∀ j, zR (stR a3 4 0 5) 4 j = if j = 0 then 5 else 0 := fun j => by simp only [sR_R, R3, true_and]
  have I4 : zI (stR a3 4 0 5) 4 = fun _ => 0 := I3
  generalize stR a3 4 0 5 = a4 at g4 R4 I4 ⊢
  have N4 := g4.1
  have Z4 := g4.2.1
  have K4 : zK a4 4 = 8 := (g4.K (by omega)).trans K3
  refine wpE (znO_e (by omega) (by omega)) ?_
  rw [show zN a4 + 4 = 117 by omega]
  refine wpE (if_neg (by decide)) ?_
  have g5 : Gr a4 (nw a4 5 6) 1 6 (fun o => o = 4) := Gr.nw
  have n5 := nwp (σ := a4) (κ := 5) (m := 6) (o := 117) (by omega)
  have R5 : zR (nw a4 5 6) 4 = zR a4 4 := by rw [nw_R, if_neg (by omega)]
  have I5 : zI (nw a4 5 6) 4 = zI a4 4 := by rw [nw_I, if_neg (by omega)]
  generalize nw a4 5 6 = a5 at g5 n5 R5 I5 ⊢
  have N5 := g5.1
  have Z5 := g5.2.1
  obtain ⟨a6, e6, g6, v6⟩ := i_view (n := n) (σ := a5) n5.1 (by omega) (by omega)
  refine wpE (zb_e e6) ?_
  have N6 := g6.1
  have Z6 := g6.2.1
  have K6 : zK a6 4 = 8 := (g6.K (by omega)).trans ((g5.K (by omega)).trans K4)
  have R6 : zR a6 4 = zR a4 4 := (g6.R (by omega) (by decide)).trans R5
  have I6 : zI a6 4 = zI a4 4 := (g6.I (by omega) (by decide)).trans I5
  refine wpE (zpR_e K6 rfl) ?_
  have g7 : Gr a6 (stR a6 4 1 117) 0 0 (fun o => o = 4) := Gr.sR
  have R7 : ∀ j, zR (stR a6 4 1 117) 4 j = if j = 1 then 117 else if j = 0 then 5 else 0 := fun j => by simp only [sR_R, R6, R4, true_and]
  have I7 : zI (stR a6 4 1 117) 4 = zI a4 4 := I6
  generalize stR a6 4 1 117 = a7 at g7 R7 I7 ⊢
  have N7 := g7.1
  have Z7 := g7.2.1
  have K7 : zK a7 4 = 8 := (g7.K (by omega)).trans K6
  refine wpE (znO_e (by omega) (by omega)) ?_
  rw [show zN a7 + 4 = 120 by omega]
  refine wpE (if_neg (by decide)) ?_
  have g8 : Gr a7 (nw a7 1 3) 1 3 (fun o => o = 4) := Gr.nw
  have n8 := nwp (σ := a7) (κ := 1) (m := 3) (o := 120) (by omega)
  have R8 : zR (nw a7 1 3) 4 = zR a7 4 := by rw [nw_R, if_neg (by omega)]
  have I8 : zI (nw a7 1 3) 4 = zI a7 4 := by rw [nw_I, if_neg (by omega)]
  generalize nw a7 1 3 = a8 at g8 n8 R8 I8 ⊢
  have N8 := g8.1
  have Z8 := g8.2.1
  obtain ⟨a9, e9, g9, h9, k9, l9, y9, i9⟩ := i_hist (n := n) (σ := a8) n8.1 (by omega) (by omega)
  refine wpE (zb_e e9) ?_
  have N9 := g9.1
  have Z9 := g9.2.1
  have K9 : zK a9 4 = 8 := (g9.K (by omega)).trans ((g8.K (by omega)).trans K7)
  have R9 : zR a9 4 = zR a7 4 := (g9.R (by omega) (by decide)).trans R8
  have I9 : zI a9 4 = zI a4 4 := (g9.I (by omega) (by decide)).trans (I8.trans I7)
  refine wpE (zpR_e K9 rfl) ?_
  have g10 : Gr a9 (stR a9 4 2 120) 0 0 (fun o => o = 4) := Gr.sR
  have R10 : ∀ j, zR (stR a9 4 2 120) 4 j = if j = 2 then 120 else if j = 1 then 117 else if j = 0 then 5 else 0 := fun j => by simp only [sR_R, R9, R7, true_and]
  have I10 : zI (stR a9 4 2 120) 4 = zI a4 4 := I9
  generalize stR a9 4 2 120 = a10 at g10 R10 I10 ⊢
  have N10 := g10.1
  have Z10 := g10.2.1
  have K10 : zK a10 4 = 8 := (g10.K (by omega)).trans K9
  refine wpE (znO_e (by omega) (by omega)) ?_
  rw [show zN a10 + 4 = 122 by omega]
  refine wpE (if_neg (by decide)) ?_
  have g11 : Gr a10 (nw a10 7 6) 1 6 (fun o => o = 4) := Gr.nw
  have n11 := nwp (σ := a10) (κ := 7) (m := 6) (o := 122) (by omega)
  have R11 : zR (nw a10 7 6) 4 = zR a10 4 := by rw [nw_R, if_neg (by omega)]
  have I11 : zI (nw a10 7 6) 4 = zI a10 4 := by rw [nw_I, if_neg (by omega)]
  generalize nw a10 7 6 = a11 at g11 n11 R11 I11 ⊢
  have N11 := g11.1
  have Z11 := g11.2.1
  obtain ⟨a12, e12, g12, t12, i12⟩ := i_text (n := n) (σ := a11) n11.1 (by omega) (by omega)
  refine wpE (zb_e e12) ?_
  have N12 := g12.1
  have Z12 := g12.2.1
  have K12 : zK a12 4 = 8 := (g12.K (by omega)).trans ((g11.K (by omega)).trans K10)
  have R12 : zR a12 4 = zR a10 4 := (g12.R (by omega) (by decide)).trans R11
  have I12 : zI a12 4 = zI a4 4 := (g12.I (by omega) (by decide)).trans (I11.trans I10)
  refine wpE (zpR_e K12 rfl) ?_
  refine wpE (zpI_e (show zK (stR a12 4 3 122) 4 = 8 from K12) rfl) ?_
  refine wpE (zpI_e (show zK (stI (stR a12 4 3 122) 4 5 0) 4 = 8 from K12) rfl) ?_
  have g15 : Gr a12 (stI (stI (stR a12 4 3 122) 4 5 0) 4 6 (-1)) 0 0 (fun o => o = 4) := Gr.add (Gr.add Gr.sR Gr.st (fun o ho q => q)) Gr.st (fun o ho q => q)
  have R15 : ∀ j, zR (stI (stI (stR a12 4 3 122) 4 5 0) 4 6 (-1)) 4 j = if j = 3 then 122 else if j = 2 then 120 else if j = 1 then 117 else if j = 0 then 5 else 0 := fun j => by
    show zR (stR a12 4 3 122) 4 j = _
    simp only [sR_R, R12, R10, true_and]
  have I15 : zI (stI (stI (stR a12 4 3 122) 4 5 0) 4 6 (-1)) 4 5 = 0 ∧ zI (stI (stI (stR a12 4 3 122) 4 5 0) 4 6 (-1)) 4 6 = -1 := by
    constructor
    · rw [zI_st, if_neg (by omega), zI_st, if_pos ⟨rfl, rfl⟩]
    · rw [zI_st, if_pos ⟨rfl, rfl⟩]
  generalize stI (stI (stR a12 4 3 122) 4 5 0) 4 6 (-1) = f at g15 R15 I15 ⊢
  -- from what is made to the end
  have G10 : Gr a10 f (1 + 2 + 0) (6 + 63 + 0) (fun o => o = 4) := Gr.add (Gr.add g11 g12 (fun o ho q => by omega)) g15 (fun o ho q => q)
  have G9 : Gr a9 f (0 + (1 + 2 + 0)) (0 + (6 + 63 + 0)) (fun o => o = 4) := Gr.add g10 G10 (fun o ho q => q)
  have G7 := Gr.add (Gr.add g8 g9 (fun o ho q => by omega)) G9 (fun o ho q => q)
  have G6 := Gr.add g7 G7 (fun o ho q => q)
  have G4 := Gr.add (Gr.add g5 g6 (fun o ho q => by omega)) G6 (fun o ho q => q)
  have G3 := Gr.add g4 G4 (fun o ho q => q)
  have G2 : Gr a2 f _ _ (fun o => o = 4 ∨ o = 5) := Gr.add (Gr.add (Gr.refl (E := fun o => o = 4 ∨ o = 5)) g3 (fun o ho q => by omega)) G3 (fun o ho q => by omega)
  have G1 : Gr a1 f _ _ (fun o => o = 4) := Gr.add g2 G2 (fun o ho q => by omega)
  have G8 : zK f 120 = 1 := (G9.K (by omega)).trans ((g9.K (by omega)).trans n8.1)
  refine wp_some ⟨G1, ⟨⟨(g15.K (by omega)).trans K12, by rw [R15]; rfl, by rw [R15]; rfl, by rw [R15]; rfl, by rw [R15]; rfl⟩, ?_, ⟨G8, ?_, ?_, ?_⟩, ⟨?_, ?_, ?_, ?_, ?_, ?_, ?_⟩, hst3.gr G3 (by decide) (by decide)⟩, r3.gr G3 (by omega) (fun q hq => by omega), fun i hi => ?_, ?_, I15.1, I15.2, ?_⟩
  · obtain ⟨q1, q2, q3, q4, q5, q6, q7⟩ := v6
    exact ⟨(G6.K (by omega)).trans q1, by rw [G6.R (by omega) (by decide)]; exact q2, by rw [G6.R (by omega) (by decide)]; exact q3, (G6.K (by omega)).trans q4, (G6.L (by omega)).trans q5, (G6.K (by omega)).trans q6, (G6.L (by omega)).trans q7⟩
  · rw [G9.R (by omega) (by decide)]; exact h9
  · exact (G9.K (by omega)).trans k9
  · exact (G9.L (by omega)).trans l9
  · exact (g15.K (by omega)).trans ((g12.K (by omega)).trans n11.1)
  · rw [g15.R (by omega) (by decide)]; exact t12.1
  · rw [g15.R (by omega) (by decide)]; exact t12.2.1
  · exact (g15.K (by omega)).trans t12.2.2.1
  · exact (g15.L (by omega)).trans t12.2.2.2.1
  · exact (g15.K (by omega)).trans t12.2.2.2.2.1
  · exact (g15.L (by omega)).trans t12.2.2.2.2.2
  · unfold kpo
    by_cases h10 : i < 10
    · rw [if_pos h10, G9.R (by omega) (by decide), y9]
    · rw [if_neg h10, R15]; rfl
  · rw [G9.I (by omega) (by decide), i9]; exact n8.2.2.1
  · rw [g15.I (by omega) (by decide), i12]; exact n11.2.2.1
theorem law_some (hL : L ≤ 2560) (hn : 30000 < n) : ∃ σf, fL_law n 3 (z0 L xs) = some (1, σf) := by
  have g : wp (fL_law n 3 (z0 L xs)) (fun r => r.1 = 1) := by
    unfold fL_law
    have N0 : zN (z0 L xs) = 0 := rfl
    have Z0 : zS (z0 L xs) = 0 := rfl
    refine wpE (znO_e (by omega) (by omega)) ?_
    rw [show zN (z0 L xs) + 4 = 4 from rfl]
    refine wpE (if_neg (by decide)) ?_
    have g1 : Gr (z0 L xs) (nw (z0 L xs) 8 7) 1 7 (fun o => o = 4) := Gr.nw
    have n1 := nwp (σ := z0 L xs) (κ := 8) (m := 7) (o := 4) rfl
    generalize nw (z0 L xs) 8 7 = a1 at g1 n1 ⊢
    have N1 := g1.1
    have Z1 := g1.2.1
    obtain ⟨a, ea, ga, hLX, hRep, hkp, h120, h45, h46, h122⟩ := c_start (n := n) (a1 := a1) ((z0_stt (L := L) (xs := xs)).gr g1 (by decide) (by decide)) (by omega) (by omega) n1.1 n1.2.2.1 n1.2.2.2 (by omega)
    refine wpE (zb_e ea) ?_
    have Na := ga.1
    have Za := ga.2.1
    refine wpE (znO_e (by omega) (by omega)) ?_
    rw [show zN a + 4 = 125 by omega]
    refine wpE (if_neg (by decide)) ?_
    have gb : Gr a (nw a 9 18) 1 18 (fun _ => False) := Gr.nw
    have nb1 := nwp (σ := a) (κ := 9) (m := 18) (o := 125) (by omega)
    generalize nw a 9 18 = b1 at gb nb1 ⊢
    have Nb := gb.1
    have Zb := gb.2.1
    obtain ⟨b2, e2, g2, hLM, h126, h125⟩ := i_ref (n := n) (σ := b1) (by omega) nb1.1 (by omega) (by omega) nb1.2.2.1
    refine wpE (zb_e e2) ?_
    have N2 := g2.1
    have Z2 := g2.2.1
    refine wpE (znA_e (L := 1) rfl (by decide) (by omega) (by omega)) ?_
    rw [show zN b2 + 4 = 131 by omega]
    have g3 : Gr b2 (nw b2 23 1) 1 1 (fun _ => False) := Gr.nw
    have n3 := nwp (σ := b2) (κ := 23) (m := 1) (o := 131) (by omega)
    generalize nw b2 23 1 = b3 at g3 n3 ⊢
    have N3 := g3.1
    have Z3 := g3.2.1
    refine wpE (znA_e (L := 1) rfl (by decide) (by omega) (by omega)) ?_
    rw [show zN b3 + 4 = 132 by omega]
    have g4 : Gr b3 (nw b3 24 1) 1 1 (fun _ => False) := Gr.nw
    have n4 := nwp (σ := b3) (κ := 24) (m := 1) (o := 132) (by omega)
    generalize nw b3 24 1 = b4 at g4 n4 ⊢
    have N4 := g4.1
    have Z4 := g4.2.1
    have G2 : Gr b2 b4 _ _ (fun _ => False) := Gr.add g3 g4 (fun o ho q => q)
    have GA : Gr a b4 _ _ (fun _ => False) := Gr.add (Gr.add gb g2 (fun o ho q => by omega)) G2 (fun o ho q => q)
    have G0 : Gr (z0 L xs) b4 _ _ (fun o => o = 4) := Gr.add (Gr.add g1 ga (fun o ho q => q)) GA (fun o ho q z => z)
    have nf : ∀ o : Nat, ¬ (fun _ : Nat => False) o := fun o q => q
    have KA : ∀ o, o < 125 → zK b4 o = zK a o ∧ zL b4 o = zL a o ∧ zR b4 o = zR a o ∧ zI b4 o = zI a o := fun o ho => ⟨GA.K (by omega), GA.L (by omega), GA.R (by omega) (nf o), GA.I (by omega) (nf o)⟩
    have KB : ∀ o, o < 131 → zK b4 o = zK b2 o ∧ zL b4 o = zL b2 o ∧ zR b4 o = zR b2 o ∧ zI b4 o = zI b2 o := fun o ho => ⟨G2.K (by omega), G2.L (by omega), G2.R (by omega) (nf o), G2.I (by omega) (nf o)⟩
    have ekp : ∀ i, i < 11 → kpo b4 i = 0 := fun i hi => by
      rw [← hkp i hi]
      unfold kpo
      rw [(KA 121 (by decide)).2.2.1, (KA 4 (by decide)).2.2.1]
    have hlw : LW b4 L xs := ⟨G0.K (by omega), G0.L (by omega), G0.I (by omega) (by decide), (g4.K (by omega)).trans n3.1, (g4.L (by omega)).trans n3.2.1, n4.1, n4.2.1⟩
    have hLX4 : LX b4 := by
      obtain ⟨x1, x2, x3, x4, x5⟩ := hLX
      refine ⟨?_, ?_, ?_, ?_, x5.gr GA (nf 1) (nf 2)⟩
      · rw [(KA 4 (by decide)).1, (KA 4 (by decide)).2.2.1]; exact x1
      · unfold Vw
        rw [(KA 117 (by decide)).1, (KA 117 (by decide)).2.2.1, (KA (117 + 1) (by decide)).1, (KA (117 + 1) (by decide)).2.1, (KA (117 + 2) (by decide)).1, (KA (117 + 2) (by decide)).2.1]; exact x2
      · rw [(KA 120 (by decide)).1, (KA 120 (by decide)).2.2.1, (KA 121 (by decide)).1, (KA 121 (by decide)).2.1]; exact x3
      · rw [(KA 122 (by decide)).1, (KA 122 (by decide)).2.2.1, (KA 123 (by decide)).1, (KA 123 (by decide)).2.1, (KA 124 (by decide)).1, (KA 124 (by decide)).2.1]; exact x4
    have nl := nlz_le (f := kpo b4) 11
    have hJC : JC b4 S0 0 := by
      refine ⟨⟨hLX4, hRep.gr GA (by omega) (fun q _ => nf (5 + q)), ⟨fun i hi h => absurd (ekp i hi) h, fun i j hi hj _ h => absurd (ekp i hi) h⟩, ⟨?_, Nat.zero_le _, 0, by decide, ?_, fun k hk => absurd hk (Nat.not_lt_zero k)⟩, fun q => absurd (show (false = true) from q) (by decide), ⟨?_, ?_⟩, ⟨?_, fun j hj => absurd hj (Nat.not_lt_zero j)⟩, ⟨by omega, by omega, by omega⟩⟩, fun _ => ?_⟩
      · rw [(KA 120 (by decide)).2.2.2, h120]; rfl
      · rw [(KA 120 (by decide)).2.2.2, h120]; rfl
      · rw [(KA 4 (by decide)).2.2.2]; exact h45
      · rw [(KA 4 (by decide)).2.2.2]; exact h46
      · rw [(KA 122 (by decide)).2.2.2, h122]; rfl
      · have := ekp 10 (by decide)
        exact this
    have hJR : JR b4 S0 := by
      refine ⟨?_, ?_, ⟨?_, Nat.zero_le _, fun k hk => absurd hk (Nat.not_lt_zero k)⟩, ⟨?_, fun q => absurd (show (false = true) from q) (by decide)⟩, ⟨?_, ?_⟩, ⟨?_, fun j hj => absurd hj (Nat.not_lt_zero j), trivial⟩⟩
      · unfold LM Rf at hLM ⊢
        rw [(KB 125 (by decide)).1, (KB 125 (by decide)).2.2.1, (KB 126 (by decide)).1, (KB 126 (by decide)).2.1, (KB 127 (by decide)).1, (KB 127 (by decide)).2.1, (KB 128 (by decide)).1, (KB 128 (by decide)).2.1, (KB 129 (by decide)).1, (KB 129 (by decide)).2.1, (KB 130 (by decide)).1, (KB 130 (by decide)).2.1]
        exact hLM
      · rw [(KB 126 (by decide)).2.2.2]; exact h126
      · rw [(KB 125 (by decide)).2.2.2, h125]; rfl
      · rw [(KB 125 (by decide)).2.2.2, h125]; rfl
      · rw [(KB 125 (by decide)).2.2.2, h125]; rfl
      · rw [(KB 125 (by decide)).2.2.2, h125]; rfl
      · rw [(KB 125 (by decide)).2.2.2, h125]; rfl
    obtain ⟨σf, ef⟩ := law_loop (n := n) hL hn 600 n 0 b4 S0 ⟨hlw, hJC, hJR, si0, rfl⟩ (by omega) (by omega) (by omega)
    exact ⟨(1, σf), ef, rfl⟩
  obtain ⟨r, e, u⟩ := g
  exact ⟨r.2, by rw [e, ← u]⟩
end
