/-! THE START: the objects are made -/
theorem Rep.gr {σ σ' : zW} {p k m : Nat} {a : Nat → Int32} {E : Nat → Prop} (hr : Rep σ p a) (hG : Gr σ σ' k m E) (h1 : p + 112 ≤ zN σ + 4) (hE : ∀ q, q < 112 → ¬ E (p + q)) : Rep σ' p a := by
  have gK : ∀ q, q < 112 → zK σ' (p + q) = zK σ (p + q) ∧ zL σ' (p + q) = zL σ (p + q) ∧ zR σ' (p + q) = zR σ (p + q) ∧ zI σ' (p + q) = zI σ (p + q) := by
    intro q hq
    exact ⟨hG.K (by omega), hG.L (by omega), hG.R (by omega) (hE q hq), hG.I (by omega) (hE q hq)⟩
  refine ⟨?_, fun j hj => ?_⟩
  · have q0 := gK 0 (by decide)
    have q1 := gK 1 (by decide)
    have q2 := gK 2 (by decide)
    have q3 := gK 3 (by decide)
    have q4 := gK 4 (by decide)
    have q5 := gK 5 (by decide)
    have q6 := gK 6 (by decide)
    have q7 := gK 7 (by decide)
    rw [Nat.add_zero] at q0
    obtain ⟨s1, s2, s3, ⟨s4, s5⟩, s6⟩ := hr.1
    refine ⟨?_, ?_, ?_, ⟨?_, fun q hq => ?_⟩, fun i hi => ?_⟩
    · rw [q0.1, q0.2.2.1]; exact s1
    · rw [q1.1, q1.2.2.1, q2.1, q2.2.1, q3.1, q3.2.1]; exact s2
    · rw [q4.1, q4.2.1, q5.1, q5.2.1, q6.1, q6.2.1]; exact s3
    · rw [q7.1]; exact s4
    · rw [q7.2.2.1, (gK (8 + q) (by omega)).1, (gK (8 + q) (by omega)).2.1]; exact s5 q hq
    · obtain ⟨t1, t2, t3⟩ := s6 i hi
      have g0 := gK (12 + 5 * i) (by omega)
      rw [show p + (12 + 5 * i) = lo p i from rfl] at g0
      refine ⟨by rw [q6.2.2.1]; exact t1, by rw [g0.1]; exact t2, fun q hq => ?_⟩
      have g1 := gK (12 + 5 * i + (1 + q)) (by omega)
      rw [show p + (12 + 5 * i + (1 + q)) = lo p i + (1 + q) by unfold lo; omega] at g1
      rw [g0.2.2.1, g1.1, g1.2.1]
      exact t3 q hq
  · rw [← hr.2 j hj]
    unfold sl
    rw [(gK _ (slo_lt j hj.1)).2.2.2]
section
variable {σ : zW} {n r : Nat}
theorem Gr.add {σ σ1 σ2 : zW} {k1 n1 k2 n2 : Nat} {E E2 : Nat → Prop} (h : Gr σ σ1 k1 n1 E) (h' : Gr σ1 σ2 k2 n2 E2) (hE : ∀ o, o < zN σ + 4 → ¬ E o → ¬ E2 o) : Gr σ σ2 (k1 + k2) (n1 + n2) E := h.trans h' (fun o ho q => ⟨q, hE o ho q⟩)
/-- a new row that the object r has at its place k -/
theorem mkA {α : Type} {κ κ2 L k : Nat} {x : Int32} {c : zW → Option α} {Q : α → Prop} (hk : zK σ r = κ2) (hr : r < zN σ + 4) (hx : x = Int32.ofNat L) (hL : L < 100000) (h1 : zN σ + 1 ≤ 603072) (h2 : zS σ + L ≤ 7219305)
    (hc : ∀ σ', Gr σ σ' 1 L (fun o => o = r) → zI σ' r = zI σ r → (∀ j, zR σ' r j = if j = k then zN σ + 4 else zR σ r j) → zK σ' (zN σ + 4) = κ → zL σ' (zN σ + 4) = L → (zI σ' (zN σ + 4) = fun _ => 0) → (zR σ' (zN σ + 4) = fun _ => 0) → wp (c σ') Q) : wp (znA σ κ x fun q1 σ2 => zpR σ2 κ2 r k q1 c) Q := by
  refine wpE (znA_e hx (by omega) h1 h2) ?_
  refine wpE (zpR_e (by rw [nw_K, if_neg (by omega)]; exact hk) rfl) ?_
  refine hc _ (Gr.add Gr.nw Gr.sR (fun o ho q => q)) ?_ (fun j => ?_) ?_ ?_ ?_ ?_
  · show zI (nw σ κ L) r = _
    rw [nw_I, if_neg (by omega)]
  · have e : zR (nw σ κ L) r = zR σ r := by rw [nw_R, if_neg (by omega)]
    rw [sR_R, e]
    by_cases g : j = k
    · rw [if_pos ⟨rfl, g⟩, if_pos g]
    · rw [if_neg (fun q => g q.2), if_neg g]
  · show zK (nw σ κ L) _ = _
    rw [nw_K, if_pos rfl]
  · show zL (nw σ κ L) _ = _
    rw [nw_L, if_pos rfl]
  · show zI (nw σ κ L) _ = _
    rw [nw_I, if_pos rfl]
  · rw [sR_Rne (by omega), nw_R, if_pos rfl]
theorem i_view (hk : zK σ 117 = 5) (hN : zN σ = 114) (h2 : zS σ ≤ 5000) : wp (fX4_init n 117 σ) (fun σ' => Gr σ σ' 2 20 (fun o => o = 117) ∧ Vw σ' 117) := by
  unfold fX4_init
  refine wpE (if_neg (by decide)) ?_
  refine mkA hk (by omega) (L := 10) rfl (by decide) (by omega) (by omega) (fun σ1 g1 i1 r1 k1 l1 z1 y1 => ?_)
  have N1 := g1.1
  have S1 := g1.2.1
  rw [hN] at r1 k1 l1 z1 y1
  refine mkA ((g1.K (by omega)).trans hk) (by omega) (L := 10) rfl (by decide) (by omega) (by omega) (fun σ2 g2 i2 r2 k2 l2 z2 y2 => ?_)
  rw [show zN σ1 = 115 by omega] at r2 k2 l2 z2 y2
  refine wp_some ⟨Gr.add g1 g2 (fun o ho q => q), ?_, ?_, ?_, ?_, ?_, k2, l2⟩
  · exact (g2.K (by omega)).trans ((g1.K (by omega)).trans hk)
  · rw [r2, if_neg (by decide), r1, if_pos rfl]
  · rw [r2, if_pos rfl]
  · exact (g2.K (by omega)).trans k1
  · exact (g2.L (by omega)).trans l1
theorem i_hist (hk : zK σ 120 = 1) (hN : zN σ = 117) (h2 : zS σ ≤ 5000) : wp (fX0_init n 120 σ) (fun σ' => Gr σ σ' 1 10 (fun o => o = 120) ∧ zR σ' 120 0 = 121 ∧ zK σ' 121 = 26 ∧ zL σ' 121 = 10 ∧ (zR σ' 121 = fun _ => 0) ∧ zI σ' 120 = zI σ 120) := by
  unfold fX0_init
  refine wpE (if_neg (by decide)) ?_
  refine mkA hk (by omega) (L := 10) rfl (by decide) (by omega) (by omega) (fun σ1 g1 i1 r1 k1 l1 z1 y1 => ?_)
  rw [hN] at r1 k1 l1 z1 y1
  exact wp_some ⟨g1, by rw [r1, if_pos rfl], k1, l1, y1, i1⟩
theorem i_text (hk : zK σ 122 = 7) (hN : zN σ = 119) (h2 : zS σ ≤ 5000) : wp (fX6_init n 122 σ) (fun σ' => Gr σ σ' 2 63 (fun o => o = 122) ∧ (zR σ' 122 0 = 123 ∧ zR σ' 122 1 = 124 ∧ zK σ' 123 = 22 ∧ zL σ' 123 = 60 ∧ zK σ' 124 = 20 ∧ zL σ' 124 = 3) ∧ zI σ' 122 = zI σ 122) := by
  unfold fX6_init
  refine wpE (if_neg (by decide)) ?_
  refine mkA hk (by omega) (L := 60) rfl (by decide) (by omega) (by omega) (fun σ1 g1 i1 r1 k1 l1 z1 y1 => ?_)
  have N1 := g1.1
  have S1 := g1.2.1
  rw [hN] at r1 k1 l1 z1 y1
  refine mkA ((g1.K (by omega)).trans hk) (by omega) (L := 3) rfl (by decide) (by omega) (by omega) (fun σ2 g2 i2 r2 k2 l2 z2 y2 => ?_)
  rw [show zN σ1 = 120 by omega] at r2 k2 l2 z2 y2
  refine wp_some ⟨Gr.add g1 g2 (fun o ho q => q), ⟨?_, ?_, ?_, ?_, k2, l2⟩, i2.trans i1⟩
  · rw [r2, if_neg (by decide), r1, if_pos rfl]
  · rw [r2, if_pos rfl]
  · exact (g2.K (by omega)).trans k1
  · exact (g2.L (by omega)).trans l1
/-- the reference's row is filled -/
theorem i_123 (hn : 1000 < n) (hk : zK σ 125 = 9) (hr : zR σ 125 1 = 126) (hk6 : zK σ 126 = 20) (hl6 : zL σ 126 = 1992) : ∀ (m k i : Nat) (σ1 : zW), i + m = 10 → m < k → Fr (fun o => o = 126) σ σ1 → (∀ j, zI σ1 126 j = if 13 ≤ j ∧ j < 13 + i then 20000 else zI σ 126 j) → wp (sX8_init_123 n k 125 (Int32.ofNat i) σ1) (fun σ' => Fr (fun o => o = 126) σ σ' ∧ ∀ j, zI σ' 126 j = if 13 ≤ j ∧ j < 23 then 20000 else zI σ 126 j)
  | m, 0, _, _, _, hk2, _, _ => absurd hk2 (by omega)
  | 0, k + 1, i, σ1, hi, hk2, hF, hI => by
    have e : i = 10 := by omega
    subst e
    rw [sX8_init_123]
    exact wpE (if_neg (by decide)) (wp_some ⟨hF, hI⟩)
  | m + 1, k + 1, i, σ1, hi, hk2, hF, hI => by
    rw [sX8_init_123]
    refine wpE (if_pos (Eq.mpr (ctb hi) (by omega))) ?_
    refine wpE (zgR_e ((congrFun hF.K 125).trans hk) ((congrFun (congrFun hF.R 125) 1).trans hr)) ?_
    rw [iy13, io_succ]
    refine wpE (zsN_e ((congrFun hF.K 126).trans hk6) ((congrFun hF.L 126).trans hl6) (show 13 + i < 1992 by omega) (by decide) rfl) ?_
    refine i_123 hn hk hr hk6 hl6 m k (i + 1) _ (by omega) (by omega) (hF.trans (Fr.st rfl)) (fun j => ?_)
    rw [zI_st]
    by_cases g : j = 13 + i
    · rw [if_pos ⟨rfl, g⟩, if_pos (by omega)]
    · rw [if_neg (fun q => g q.2), hI]
      by_cases g2 : 13 ≤ j ∧ j < 13 + i
      · rw [if_pos g2, if_pos (by omega)]
      · rw [if_neg g2, if_neg (by omega)]
theorem i_ref (hn : 1000 < n) (hk : zK σ 125 = 9) (hN : zN σ = 122) (h2 : zS σ ≤ 5000) (hI : zI σ 125 = fun _ => 0) : wp (fX8_init n 125 σ) (fun σ' => Gr σ σ' 5 24084 (fun o => o = 125) ∧ LM σ' ∧ zI σ' 126 = row0 ∧ (∀ j, zI σ' 125 j = if j = 15 then -1 else 0)) := by
  unfold fX8_init
  refine wpE (if_neg (by decide)) ?_
  refine mkA hk (by omega) (L := 1992) rfl (by decide) (by omega) (by omega) (fun σ1 g1 i1 r1 k1 l1 z1 y1 => ?_)
  have N1 := g1.1
  have S1 := g1.2.1
  rw [hN] at r1 k1 l1 z1 y1
  have K1 := (g1.K (o := 125) (by omega)).trans hk
  refine mkA K1 (by omega) (L := 19920) rfl (by decide) (by omega) (by omega) (fun σ2 g2 i2 r2 k2 l2 z2 y2 => ?_)
  have N2 := g2.1
  have S2 := g2.2.1
  rw [show zN σ1 = 123 by omega] at r2 k2 l2 z2 y2
  have K2 := (g2.K (o := 125) (by omega)).trans K1
  refine mkA K2 (by omega) (L := 1992) rfl (by decide) (by omega) (by omega) (fun σ3 g3 i3 r3 k3 l3 z3 y3 => ?_)
  have N3 := g3.1
  have S3 := g3.2.1
  rw [show zN σ2 = 124 by omega] at r3 k3 l3 z3 y3
  have K3 := (g3.K (o := 125) (by omega)).trans K2
  refine mkA K3 (by omega) (L := 60) rfl (by decide) (by omega) (by omega) (fun σ4 g4 i4 r4 k4 l4 z4 y4 => ?_)
  have N4 := g4.1
  have S4 := g4.2.1
  rw [show zN σ3 = 125 by omega] at r4 k4 l4 z4 y4
  have K4 := (g4.K (o := 125) (by omega)).trans K3
  refine wpE (zpI_e K4 rfl) ?_
  have g5 : Gr σ4 (stI σ4 125 15 (-1)) 0 0 (fun o => o = 125) := Gr.st
  refine mkA (σ := stI σ4 125 15 (-1)) K4 (show 125 < zN σ4 + 4 by omega) (L := 120) rfl (by decide) (show zN σ4 + 1 ≤ 603072 by omega) (show zS σ4 + 120 ≤ 7219305 by omega) (fun σ6 g6 i6 r6 k6 l6 z6 y6 => ?_)
  have N6 := g6.1
  rw [show zN (stI σ4 125 15 (-1)) = 126 from (show zN σ4 = 126 by omega)] at r6 k6 l6 z6 y6
  have K6 := (g6.K (o := 125) (show 125 < zN σ4 + 4 by omega)).trans K4
  -- from what is made to the end
  have G46 : Gr σ4 σ6 1 120 (fun o => o = 125) := Gr.add g5 g6 (fun o ho q => q)
  have G36 : Gr σ3 σ6 2 180 (fun o => o = 125) := Gr.add g4 G46 (fun o ho q => q)
  have G26 : Gr σ2 σ6 3 2172 (fun o => o = 125) := Gr.add g3 G36 (fun o ho q => q)
  have G16 : Gr σ1 σ6 4 22092 (fun o => o = 125) := Gr.add g2 G26 (fun o ho q => q)
  have G06 : Gr σ σ6 5 24084 (fun o => o = 125) := Gr.add g1 G16 (fun o ho q => q)
  have R6 : ∀ j, zR σ6 125 j = if j = 16 then 130 else if j = 11 then 129 else if j = 4 then 128 else if j = 2 then 127 else if j = 1 then 126 else zR σ 125 j := fun j => by
    rw [r6, show zR (stI σ4 125 15 (-1)) 125 j = zR σ4 125 j from rfl, r4, r3, r2, r1]
  have hL6 : LM σ6 := by
    refine ⟨⟨K6, ?_, ?_, ?_⟩, ⟨?_, ?_, ?_⟩, ⟨?_, ?_, ?_⟩, ⟨?_, ?_, ?_⟩, ⟨?_, k6, l6⟩⟩
    · rw [R6]; rfl
    · exact (G16.K (by omega)).trans k1
    · exact (G16.L (by omega)).trans l1
    · rw [R6]; rfl
    · exact (G26.K (by omega)).trans k2
    · exact (G26.L (by omega)).trans l2
    · rw [R6]; rfl
    · exact (G36.K (by omega)).trans k3
    · exact (G36.L (by omega)).trans l3
    · rw [R6]; rfl
    · exact (G46.K (by omega)).trans k4
    · exact (G46.L (by omega)).trans l4
    · rw [R6]; rfl
  have I6 : zI σ6 126 = fun _ => 0 := (G16.I (by omega) (by decide)).trans z1
  have I5 : ∀ j, zI σ6 125 j = if j = 15 then -1 else 0 := fun j => by
    rw [i6, zI_st]
    by_cases g : j = 15
    · rw [if_pos ⟨rfl, g⟩, if_pos g]
    · rw [if_neg (fun q => g q.2), if_neg g, i4, i3, i2, i1, hI]
  have kM := hL6.1.kM
  have rW := hL6.1.rW
  have kW := hL6.1.kW
  have lW := hL6.1.lW
  refine wpE (zgR_e kM rW) ?_
  refine wpE (zsN_e (j := 0) kW lW (by decide) (by decide) rfl) ?_
  refine wpE (zgR_e kM rW) ?_
  refine wpE (zsN_e (j := 2) kW lW (by decide) (by decide) rfl) ?_
  refine wpE (zgR_e kM rW) ?_
  refine wpE (zsN_e (j := 3) kW lW (by decide) (by decide) rfl) ?_
  refine wpE (zgR_e kM rW) ?_
  refine wpE (zsN_e (j := 4) kW lW (by decide) (by decide) rfl) ?_
  refine wpE (zgR_e kM rW) ?_
  refine wpE (zsN_e (j := 7) kW lW (by decide) (by decide) rfl) ?_
  refine wpE (zgR_e kM rW) ?_
  refine wpE (zsN_e (j := 8) kW lW (by decide) (by decide) rfl) ?_
  refine wpE (zgR_e kM rW) ?_
  refine wpE (zsN_e (j := 9) kW lW (by decide) (by decide) rfl) ?_
  refine wpE (zgR_e kM rW) ?_
  refine wpE (zsN_e (j := 10) kW lW (by decide) (by decide) rfl) ?_
  have F7 : Fr (fun o => o = 126) σ6 (stI (stI (stI (stI (stI (stI (stI (stI σ6 126 0 4) 126 2 100) 126 3 500) 126 4 2000) 126 7 10) 126 8 20) 126 9 50) 126 10 100) := by
    refine (((((((Fr.st (P := fun o => o = 126) ?_).trans (Fr.st ?_)).trans (Fr.st ?_)).trans (Fr.st ?_)).trans (Fr.st ?_)).trans (Fr.st ?_)).trans (Fr.st ?_)).trans (Fr.st ?_) <;> rfl
  have e7 : ∀ j, zI (stI (stI (stI (stI (stI (stI (stI (stI σ6 126 0 4) 126 2 100) 126 3 500) 126 4 2000) 126 7 10) 126 8 20) 126 9 50) 126 10 100) 126 j = if j = 10 then 100 else if j = 9 then 50 else if j = 8 then 20 else if j = 7 then 10 else if j = 4 then 2000 else if j = 3 then 500 else if j = 2 then 100 else if j = 0 then 4 else 0 := fun j => by
    simp only [zI_st, true_and, I6]
  generalize stI (stI (stI (stI (stI (stI (stI (stI σ6 126 0 4) 126 2 100) 126 3 500) 126 4 2000) 126 7 10) 126 8 20) 126 9 50) 126 10 100 = σ7 at F7 e7 ⊢
  have L7 := hL6.fr F7
  refine wp_mono (i_123 hn L7.1.kM L7.1.rW L7.1.kW L7.1.lW 10 n 0 σ7 (by omega) (by omega) Fr.refl (fun j => by rw [if_neg (by omega)])) (fun σ' q => ⟨?_, L7.fr q.1, ?_, fun j => ?_⟩)
  · exact Gr.add (Gr.add G06 F7.gr (fun o ho q => by omega)) q.1.gr (fun o ho q => by omega)
  · funext j
    rw [q.2 j, e7 j]
    unfold row0
    by_cases g : 13 ≤ j ∧ j < 23
    · rw [if_pos g, if_neg (by omega), if_neg (by omega), if_neg (by omega), if_neg (by omega), if_neg (by omega), if_neg (by omega), if_neg (by omega), if_neg (by omega), if_pos g]
    · rw [if_neg g, if_neg g]
      by_cases g0 : j = 0
      · subst g0; rfl
      by_cases g2 : j = 2
      · subst g2; rfl
      by_cases g3 : j = 3
      · subst g3; rfl
      by_cases g4 : j = 4
      · subst g4; rfl
      by_cases g7 : j = 7
      · subst g7; rfl
      by_cases g8 : j = 8
      · subst g8; rfl
      by_cases g9 : j = 9
      · subst g9; rfl
      by_cases g10 : j = 10
      · subst g10; rfl
      rw [if_neg g10, if_neg g9, if_neg g8, if_neg g7, if_neg g4, if_neg g3, if_neg g2, if_neg g0, if_neg g0, if_neg g2, if_neg g3, if_neg g4, if_neg g7, if_neg g8, if_neg g9, if_neg g10]
  · rw [q.1.2 125 (by decide), F7.2 125 (by decide)]
    exact I5 j
end
