/-! A SALE IS MADE, ALL OF IT -/
def row0 : Nat → Int32 := fun j => if j = 0 then 4 else if j = 2 then 100 else if j = 3 then 500 else if j = 4 then 2000 else if j = 7 then 10 else if j = 8 then 20 else if j = 9 then 50 else if j = 10 then 100 else if 13 ≤ j ∧ j < 23 then 20000 else 0
/-- a lot's objects -/
def Ltl (σ : zW) (s i : Nat) : Prop := zR σ (s + 6) i = lo s i ∧ zK σ (lo s i) = 3 ∧ Four σ (lo s i) 10
section
variable {σ : zW} {n s : Nat}
theorem c_initLots (ht : zN σ + 4 = lo s 0) (k4 : zK σ s = 4) (r3 : zR σ s 3 = s + 6) (k6 : zK σ (s + 6) = 25) (l6 : zL σ (s + 6) = 20) (h1 : zN σ + 100 ≤ 603072) (h2 : zS σ + 1040 ≤ 7219305) (hn : 1000 < n) :
    wp (sX3_init_76 n n s 0 σ) (fun σ' => Gr σ σ' 100 1040 (fun o => o = s + 6) ∧ (∀ i, i < 20 → Ltl σ' s i) ∧ zI σ' (s + 6) = zI σ (s + 6)) := by
  have hlo : ∀ i, lo s i = s + (12 + 5 * i) := fun i => rfl
  have key : ∀ (d i k : Nat) (σ1 : zW), i + d = 20 → d < k → Gr σ σ1 (5 * i) (52 * i) (fun o => o = s + 6) → (∀ j, j < i → Ltl σ1 s j) → zI σ1 (s + 6) = zI σ (s + 6) →
      wp (sX3_init_76 n k s (Int32.ofNat i) σ1) (fun σ' => Gr σ σ' 100 1040 (fun o => o = s + 6) ∧ (∀ i, i < 20 → Ltl σ' s i) ∧ zI σ' (s + 6) = zI σ (s + 6)) := by
    intro d
    induction d with
    | zero =>
      intro i k σ1 hi hk hG hL hI
      obtain ⟨k, rfl⟩ : ∃ k', k = k' + 1 := ⟨k - 1, by omega⟩
      have hi : i = 20 := by omega
      subst hi
      rw [sX3_init_76]
      exact wp_some ⟨hG, hL, hI⟩
    | succ d ih =>
      intro i k σ1 hi hk hG hL hI
      obtain ⟨k, rfl⟩ : ∃ k', k = k' + 1 := ⟨k - 1, by omega⟩
      have h0 := hlo 0
      have hli := hlo i
      have N1 := hG.1
      have S1 := hG.2.1
      have m4 : zK σ1 s = 4 := (hG.K (by omega)).trans k4
      have m3 : zR σ1 s 3 = s + 6 := by rw [hG.R (by omega) (by omega)]; exact r3
      have m6 : zK σ1 (s + 6) = 25 := (hG.K (by omega)).trans k6
      have p6 : zL σ1 (s + 6) = 20 := (hG.L (by omega)).trans l6
      have gn : Gr σ1 (nw σ1 3 12) 1 12 (fun _ => False) := Gr.nw
      have K3 : zK (nw σ1 3 12) (lo s i) = 3 := by rw [nw_K, if_pos (by omega)]
      rw [sX3_init_76]
      refine wpE (if_pos (by rw [show (20 : Int32) = Int32.ofNat 20 from rfl, io_lt (by omega) (by omega)]; omega)) ?_
      refine wpE (zgR_e m4 m3) ?_
      refine wpE (znO_e (by omega) (by omega)) ?_
      rw [show zN σ1 + 4 = lo s i by omega]
      refine wpE (if_neg (by omega)) ?_
      obtain ⟨σ2, e2, g2, f2, i2⟩ := c_initLot (n := n) (σ := nw σ1 3 12) (t := lo s i) K3 (by rw [nw_N]; omega) (by rw [nw_N]; omega) (by rw [nw_S]; omega)
      refine wpE (zb_e e2) ?_
      have g12 : Gr σ1 σ2 5 52 (fun _ => False) := gn.trans g2 (fun o ho _ => ⟨fun q => q, by omega⟩)
      have k6b : zK σ2 (s + 6) = 25 := (g12.K (by omega)).trans m6
      have l6b : zL σ2 (s + 6) = 20 := (g12.L (by omega)).trans p6
      have K3b : zK σ2 (lo s i) = 3 := by rw [g2.K (by rw [nw_N]; omega)]; exact K3
      refine wpE (zsR_e k6b (by rw [K3b]) l6b (show i < 20 by omega) (by decide)) ?_
      rw [io_succ]
      have g13 : Gr σ1 (stR σ2 (s + 6) i (lo s i)) 5 52 (fun o => o = s + 6) := g12.trans Gr.sR (fun o _ h => ⟨fun q => q, h⟩)
      have gA := hG.trans (E := fun o => o = s + 6) g13 (fun o _ h => ⟨h, h⟩)
      refine ih (i + 1) k _ (by omega) (by omega) ?_ ?_ ?_
      · rw [show 5 * (i + 1) = 5 * i + 5 by omega, show 52 * (i + 1) = 52 * i + 52 by omega]
        exact gA
      · intro j hj
        by_cases e : j = i
        · subst e
          refine ⟨by rw [sR_R, if_pos ⟨rfl, rfl⟩], K3b, fun q hq => ?_⟩
          obtain ⟨a1, a2, a3⟩ := f2 q hq
          exact ⟨by rw [sR_Rne (by omega)]; exact a1, a2, a3⟩
        · obtain ⟨a1, a2, a3⟩ := hL j (by omega)
          have hlj := hlo j
          refine ⟨?_, ?_, fun q hq => ?_⟩
          · rw [sR_R, if_neg (fun q => e q.2), g12.R (by omega) (fun q => q)]; exact a1
          · exact (g13.K (by omega)).trans a2
          · obtain ⟨b1, b2, b3⟩ := a3 q hq
            exact ⟨by rw [g13.R (by omega) (by omega)]; exact b1, (g13.K (by omega)).trans b2, (g13.L (by omega)).trans b3⟩
      · rw [show zI (stR σ2 (s + 6) i (lo s i)) (s + 6) = zI σ2 (s + 6) from rfl, g12.I (by omega) (fun q => q), hI]
  exact key 20 0 n σ (by omega) (by omega) Gr.refl (fun j hj => by omega) rfl
theorem c_initCredits (k4 : zK σ s = 4) (r1 : zR σ s 1 = s + 4) (kc : zK σ (s + 4) = 20) (lc : zL σ (s + 4) = 10) (hn : 1000 < n) {Q : zW → Prop}
    (hQ : ∀ σ', Fr (fun o => o = s + 4) σ σ' → (∀ j, j < 10 → zI σ' (s + 4) j = 20000) → wp (sX3_init_76 n n s 0 σ') Q) : wp (sX3_init_53 n n s 0 σ) Q := by
  have key : ∀ (d i k : Nat) (σ1 : zW), i + d = 10 → d < k → Fr (fun o => o = s + 4) σ σ1 → (∀ j, j < i → zI σ1 (s + 4) j = 20000) → wp (sX3_init_53 n k s (Int32.ofNat i) σ1) Q := by
    intro d
    induction d with
    | zero =>
      intro i k σ1 hi hk hF hI
      obtain ⟨k, rfl⟩ : ∃ k', k = k' + 1 := ⟨k - 1, by omega⟩
      have hi : i = 10 := by omega
      subst hi
      rw [sX3_init_53]
      exact hQ σ1 hF hI
    | succ d ih =>
      intro i k σ1 hi hk hF hI
      obtain ⟨k, rfl⟩ : ∃ k', k = k' + 1 := ⟨k - 1, by omega⟩
      rw [sX3_init_53]
      refine wpE (if_pos (io_10 (by omega))) ?_
      refine wpE (zgR_e ((congrFun hF.K s).trans k4) ((congrFun (congrFun hF.R s) 1).trans r1)) ?_
      refine wpE (zsN_e (L := 10) (by rw [hF.K]; exact kc) (by rw [hF.L]; exact lc) (show i < 10 by omega) (by decide) rfl) ?_
      rw [io_succ]
      refine ih (i + 1) k _ (by omega) (by omega) (hF.trans (Fr.st rfl)) (fun j hj => ?_)
      rw [zI_st]
      by_cases e : j = i
      · rw [if_pos ⟨rfl, e⟩]
      · rw [if_neg (fun q => e q.2)]
        exact hI j (by omega)
  exact key 10 0 n σ (by omega) (by omega) Fr.refl (fun j hj => by omega)
theorem Fr.gr {P : Nat → Prop} {σ σ' : zW} (h : Fr P σ σ') : Gr σ σ' 0 0 P := ⟨h.N, h.S, fun o _ => by rw [h.K, h.L]; exact ⟨rfl, rfl⟩, fun o _ ho => by rw [h.R, h.2 o ho]; exact ⟨rfl, rfl⟩⟩
theorem c_initSale (hs : Stt σ) (k4 : zK σ s = 4) (i4 : zI σ s = fun _ => 0) (ht : zN σ + 3 = s) (ht2 : 2 < s) (h1 : zN σ + 112 ≤ 603072) (h2 : zS σ + 2200 ≤ 7219305) (hn : 1000 < n) :
    wp (fX3_init n s σ) (fun σ' => Gr σ σ' 111 2096 (fun o => o = s) ∧ Rep σ' s row0) := by
  have hl0 : lo s 0 = s + (12 + 5 * 0) := rfl
  unfold fX3_init
  refine wpE (if_neg (by omega)) ?_
  refine wpE (znO_e (by omega) (by omega)) ?_
  have g1 : Gr σ (nw σ 6 3) 1 3 (fun o => o = s) := Gr.nw
  rw [show zN σ + 4 = s + 1 by omega]
  refine wpE (if_neg (by omega)) ?_
  have kt : zK (nw σ 6 3) (s + 1) = 6 := by rw [nw_K, if_pos (by omega)]
  have N1 := g1.1
  have S1 := g1.2.1
  obtain ⟨σ2, e2, g2, t2⟩ := c_initTable (n := n) (σ := nw σ 6 3) (t := s + 1) (hs.gr g1 (by omega) (by omega)) kt (by omega) (by omega) (by omega) (by omega)
  refine wpE (zb_e e2) ?_
  have N2 := g2.1
  have S2 := g2.2.1
  have A2 : Gr σ σ2 3 15 (fun o => o = s) := g1.trans g2 (fun o ho h => ⟨h, by omega⟩)
  have kt2 : zK σ2 (s + 1) = 6 := (g2.K (by omega)).trans kt
  have ks2 : zK σ2 s = 4 := (A2.K (by omega)).trans k4
  have is2 : zI σ2 s = fun _ => 0 := by rw [g2.I (by omega) (by omega), nw_I, if_neg (by omega)]; exact i4
  refine wpE (zpR_e ks2 rfl) ?_
  have g3 : Gr σ2 (stR σ2 s 0 (s + 1)) 0 0 (fun o => o = s) := Gr.sR
  have T3 : Tnew (stR σ2 s 0 (s + 1)) (s + 1) := by
    unfold Tnew at t2 ⊢
    rw [g3.R (by omega) (by omega)]
    exact t2
  have a0 : zR (stR σ2 s 0 (s + 1)) s 0 = s + 1 := by rw [sR_R, if_pos ⟨rfl, rfl⟩]
  have A3 : Gr σ (stR σ2 s 0 (s + 1)) 3 15 (fun o => o = s) := A2.trans g3 (fun o ho h => ⟨h, h⟩)
  have kt3 : zK (stR σ2 s 0 (s + 1)) (s + 1) = 6 := kt2
  have is3 : zI (stR σ2 s 0 (s + 1)) s = fun _ => 0 := is2
  have ks3 : zK (stR σ2 s 0 (s + 1)) s = 4 := ks2
  generalize stR σ2 s 0 (s + 1) = σ3 at *
  have N3 := A3.1
  have S3 := A3.2.1
  have gA := fA_gr (σ := σ3) (t := s) (k := 1) (κ := 20) (L := 10)
  have wA := fA_new (σ := σ3) (t := s) (k := 1) (κ := 20) (L := 10)
  have NA := gA.1
  have SA := gA.2.1
  have ksA : zK (fA σ3 s 1 20 10) s = 4 := (gA.K (by omega)).trans ks3
  refine wpE (fA_e (q := s + 4) (L := 10) rfl (by decide) (by omega) (by omega) ks3 (by omega) (by omega)) ?_
  have gB := fA_gr (σ := fA σ3 s 1 20 10) (t := s) (k := 2) (κ := 20) (L := 6)
  have wB := fA_new (σ := fA σ3 s 1 20 10) (t := s) (k := 2) (κ := 20) (L := 6)
  have NB := gB.1
  have SB := gB.2.1
  have ksB : zK (fA (fA σ3 s 1 20 10) s 2 20 6) s = 4 := (gB.K (by omega)).trans ksA
  refine wpE (fA_e (q := s + 5) (L := 6) rfl (by decide) (by omega) (by omega) ksA (by omega) (by omega)) ?_
  have gC := fA_gr (σ := fA (fA σ3 s 1 20 10) s 2 20 6) (t := s) (k := 3) (κ := 25) (L := 20)
  have wC := fA_new (σ := fA (fA σ3 s 1 20 10) s 2 20 6) (t := s) (k := 3) (κ := 25) (L := 20)
  have NC := gC.1
  have SC := gC.2.1
  have ksC : zK (fA (fA (fA σ3 s 1 20 10) s 2 20 6) s 3 25 20) s = 4 := (gC.K (by omega)).trans ksB
  refine wpE (fA_e (q := s + 6) (L := 20) rfl (by decide) (by omega) (by omega) ksB (by omega) (by omega)) ?_
  have c0 : zR (fA (fA (fA σ3 s 1 20 10) s 2 20 6) s 3 25 20) s 0 = s + 1 := by rw [fA_R_ne (by omega) (by decide), fA_R_ne (by omega) (by decide), fA_R_ne (by omega) (by decide)]; exact a0
  have c1 : zR (fA (fA (fA σ3 s 1 20 10) s 2 20 6) s 3 25 20) s 1 = s + 4 := by rw [fA_R_ne (by omega) (by decide), fA_R_ne (by omega) (by decide), fA_R]; omega
  have c2 : zR (fA (fA (fA σ3 s 1 20 10) s 2 20 6) s 3 25 20) s 2 = s + 5 := by rw [fA_R_ne (by omega) (by decide), fA_R]; omega
  have c3 : zR (fA (fA (fA σ3 s 1 20 10) s 2 20 6) s 3 25 20) s 3 = s + 6 := by rw [fA_R]; omega
  have Kr : zK (fA (fA (fA σ3 s 1 20 10) s 2 20 6) s 3 25 20) (s + 4) = 20 ∧ zL (fA (fA (fA σ3 s 1 20 10) s 2 20 6) s 3 25 20) (s + 4) = 10 := by
    rw [gC.K (by omega), gB.K (by omega), gC.L (by omega), gB.L (by omega), show s + 4 = zN σ3 + 4 by omega]
    exact ⟨wA.1, wA.2.1⟩
  have Kf : zK (fA (fA (fA σ3 s 1 20 10) s 2 20 6) s 3 25 20) (s + 5) = 20 ∧ zL (fA (fA (fA σ3 s 1 20 10) s 2 20 6) s 3 25 20) (s + 5) = 6 ∧ zI (fA (fA (fA σ3 s 1 20 10) s 2 20 6) s 3 25 20) (s + 5) = fun _ => 0 := by
    rw [gC.K (by omega), gC.L (by omega), gC.I (by omega) (by omega), show s + 5 = zN (fA σ3 s 1 20 10) + 4 by omega]
    exact wB
  have Ko : zK (fA (fA (fA σ3 s 1 20 10) s 2 20 6) s 3 25 20) (s + 6) = 25 ∧ zL (fA (fA (fA σ3 s 1 20 10) s 2 20 6) s 3 25 20) (s + 6) = 20 := by
    rw [show s + 6 = zN (fA (fA σ3 s 1 20 10) s 2 20 6) + 4 by omega]
    exact ⟨wC.1, wC.2.1⟩
  have isC : zI (fA (fA (fA σ3 s 1 20 10) s 2 20 6) s 3 25 20) s = fun _ => 0 := by rw [fA_I (by omega), fA_I (by omega), fA_I (by omega)]; exact is3
  have G3C : Gr σ3 (fA (fA (fA σ3 s 1 20 10) s 2 20 6) s 3 25 20) 3 36 (fun o => o = s) := (gA.trans (E := fun o => o = s) gB (fun o _ h => ⟨h, h⟩)).trans gC (fun o _ h => ⟨h, h⟩)
  have TC : Tnew (fA (fA (fA σ3 s 1 20 10) s 2 20 6) s 3 25 20) (s + 1) := by
    unfold Tnew at T3 ⊢
    rw [G3C.R (by omega) (by omega), G3C.K (by omega), G3C.L (by omega), G3C.K (by omega), G3C.L (by omega), G3C.I (by omega) (by omega), G3C.I (by omega) (by omega), G3C.I (by omega) (by omega)]
    exact T3
  have ktC : zK (fA (fA (fA σ3 s 1 20 10) s 2 20 6) s 3 25 20) (s + 1) = 6 := (G3C.K (by omega)).trans kt3
  have AC := A3.trans (E := fun o => o = s) G3C (fun o _ h => ⟨h, h⟩)
  clear gA gB gC wA wB wC NA NB NC SA SB SC ksA ksB G3C T3 A3 a0 is3 kt3 ks3
  generalize fA (fA (fA σ3 s 1 20 10) s 2 20 6) s 3 25 20 = σ4 at *
  have N4 := AC.1
  have S4 := AC.2.1
  refine wpE (znO_e (by omega) (by omega)) ?_
  rw [show zN σ4 + 4 = s + 7 by omega]
  refine wpE (if_neg (by omega)) ?_
  have g5 : Gr σ4 (nw σ4 2 5) 1 5 (fun _ => False) := Gr.nw
  have N5 := g5.1
  have S5 := g5.2.1
  have kg : zK (nw σ4 2 5) (s + 7) = 2 := by rw [nw_K, if_pos (by omega)]
  have ig : zI (nw σ4 2 5) (s + 7) = fun _ => 0 := by rw [nw_I, if_pos (by omega)]
  obtain ⟨σ6, e6, g6, f6, j6⟩ := c_initLedger (n := n) (σ := nw σ4 2 5) (t := s + 7) kg (by omega) (by omega) (by omega)
  refine wpE (zb_e e6) ?_
  have g46 : Gr σ4 σ6 5 1005 (fun _ => False) := g5.trans g6 (fun o ho _ => ⟨fun q => q, by omega⟩)
  have kg6 : zK σ6 (s + 7) = 2 := (g6.K (by omega)).trans kg
  rw [ig] at j6
  refine wpE (zpR_e (v' := s + 7) ((g46.K (by omega)).trans ksC) rfl) ?_
  have g47 : Gr σ4 (stR σ6 s 4 (s + 7)) 5 1005 (fun o => o = s) := g46.trans Gr.sR (fun o _ h => ⟨fun q => q, h⟩)
  have r7 : ∀ k, k ≠ 4 → zR (stR σ6 s 4 (s + 7)) s k = zR σ4 s k := fun k hk => by rw [sR_R, if_neg (fun q => hk q.2), g46.R (by omega) (fun q => q)]
  have r74 : zR (stR σ6 s 4 (s + 7)) s 4 = s + 7 := by rw [sR_R, if_pos ⟨rfl, rfl⟩]
  have f7 : Four (stR σ6 s 4 (s + 7)) (s + 7) 250 := fun q hq => by
    obtain ⟨x1, x2, x3⟩ := f6 q hq
    exact ⟨by rw [sR_Rne (by omega)]; exact x1, x2, x3⟩
  have kg7 : zK (stR σ6 s 4 (s + 7)) (s + 7) = 2 := kg6
  have jL : zI (stR σ6 s 4 (s + 7)) (s + 7) = fun _ => 0 := j6
  have i7 : zI (stR σ6 s 4 (s + 7)) s = fun _ => 0 := by
    show zI σ6 s = _
    rw [g46.I (by omega) (fun q => q)]
    exact isC
  clear g5 g6 g46 f6 kg6 j6 e6 N5 S5 kg ig
  generalize stR σ6 s 4 (s + 7) = σ7 at *
  have A7 := AC.trans (E := fun o => o = s) g47 (fun o _ h => ⟨h, h⟩)
  have N7 := A7.1
  have S7 := A7.2.1
  have k7 : zK σ7 s = 4 := (A7.K (by omega)).trans k4
  have kc7 : zK σ7 (s + 4) = 20 := (g47.K (by omega)).trans Kr.1
  have lc7 : zL σ7 (s + 4) = 10 := (g47.L (by omega)).trans Kr.2
  refine c_initCredits k7 ((r7 1 (by decide)).trans c1) kc7 lc7 hn ?_
  intro σ8 F8 C8
  have g8 : Gr σ7 σ8 0 0 (fun o => o = s + 4) := F8.gr
  obtain ⟨σ9, e9, g9, L9, i9⟩ := c_initLots (n := n) (σ := σ8) (s := s) (by rw [F8.N]; omega) (by rw [F8.K]; exact k7) (by rw [F8.R]; exact (r7 3 (by decide)).trans c3) (by rw [F8.K]; exact (g47.K (by omega)).trans Ko.1) (by rw [F8.L]; exact (g47.L (by omega)).trans Ko.2) (by rw [F8.N]; omega) (by rw [F8.S]; omega) hn
  refine ⟨σ9, e9, ?_, ?_⟩
  · have := (A7.trans (E := fun o => o = s) g8 (fun o ho h => ⟨h, by omega⟩)).trans (E := fun o => o = s) g9 (fun o ho h => ⟨h, by omega⟩)
    exact this
  · have N8 : zN σ8 = zN σ7 := F8.N
    have GK : ∀ o, o < s + 12 → zK σ9 o = zK σ7 o ∧ zL σ9 o = zL σ7 o := fun o ho => ⟨by rw [g9.K (by omega), F8.K], by rw [g9.L (by omega), F8.L]⟩
    have GR : ∀ o, o < s + 12 → o ≠ s + 6 → zR σ9 o = zR σ7 o := fun o ho h => by rw [g9.R (by omega) h, F8.R]
    have GI : ∀ o, o < s + 12 → o ≠ s + 6 → o ≠ s + 4 → zI σ9 o = zI σ7 o := fun o ho h h4 => by rw [g9.I (by omega) h, F8.2 o h4]
    have HK : ∀ o, o < s + 7 → zK σ7 o = zK σ4 o ∧ zL σ7 o = zL σ4 o := fun o ho => ⟨g47.K (by omega), g47.L (by omega)⟩
    have HR : ∀ o, o < s + 7 → o ≠ s → zR σ7 o = zR σ4 o := fun o ho h => g47.R (by omega) h
    have HI : ∀ o, o < s + 7 → o ≠ s → zI σ7 o = zI σ4 o := fun o ho h => g47.I (by omega) h
    obtain ⟨t0, t1, t3, t4, t5, t6, t7, t8, t9⟩ := TC
    refine ⟨⟨⟨?_, ?_, ?_, ?_, ?_, ?_⟩, ⟨?_, ?_, ?_, ?_, ?_, ?_, ?_⟩, ⟨?_, ?_, ?_, ?_, ?_, ?_⟩, ⟨?_, fun q hq => ⟨?_, ?_, ?_⟩⟩, fun i hi => L9 i hi⟩, fun j hj => ?_⟩
    · rw [(GK s (by omega)).1]; exact k7
    · rw [GR s (by omega) (by omega), r7 0 (by decide)]; exact c0
    · rw [GR s (by omega) (by omega), r7 1 (by decide)]; exact c1
    · rw [GR s (by omega) (by omega), r7 2 (by decide)]; exact c2
    · rw [GR s (by omega) (by omega), r7 3 (by decide)]; exact c3
    · rw [GR s (by omega) (by omega)]; exact r74
    · rw [(GK (s + 1) (by omega)).1, (HK (s + 1) (by omega)).1]; exact ktC
    · rw [GR (s + 1) (by omega) (by omega), HR (s + 1) (by omega) (by omega)]; exact t0
    · rw [GR (s + 1) (by omega) (by omega), HR (s + 1) (by omega) (by omega)]; exact t1
    · rw [(GK (s + 2) (by omega)).1, (HK (s + 2) (by omega)).1]; exact t3
    · rw [(GK (s + 2) (by omega)).2, (HK (s + 2) (by omega)).2]; exact t4
    · rw [(GK (s + 3) (by omega)).1, (HK (s + 3) (by omega)).1]; exact t5
    · rw [(GK (s + 3) (by omega)).2, (HK (s + 3) (by omega)).2]; exact t6
    · rw [(GK (s + 4) (by omega)).1]; exact kc7
    · rw [(GK (s + 4) (by omega)).2]; exact lc7
    · rw [(GK (s + 5) (by omega)).1, (HK (s + 5) (by omega)).1]; exact Kf.1
    · rw [(GK (s + 5) (by omega)).2, (HK (s + 5) (by omega)).2]; exact Kf.2.1
    · rw [(GK (s + 6) (by omega)).1, (HK (s + 6) (by omega)).1]; exact Ko.1
    · rw [(GK (s + 6) (by omega)).2, (HK (s + 6) (by omega)).2]; exact Ko.2
    · rw [(GK (s + 7) (by omega)).1]; exact kg7
    · rw [GR (s + 7) (by omega) (by omega), (f7 q hq).1]; omega
    · rw [(GK (s + (8 + q)) (by omega)).1, show s + (8 + q) = s + 7 + (1 + q) by omega]; exact (f7 q hq).2.1
    · rw [(GK (s + (8 + q)) (by omega)).2, show s + (8 + q) = s + 7 + (1 + q) by omega]; exact (f7 q hq).2.2
    · have z23 : (row0 23).toNatClampNeg = 0 := by decide
      have z991 : (row0 991).toNatClampNeg = 0 := by decide
      obtain ⟨v1, v2, v3, v4⟩ := hj
      rw [z23] at v2 v3
      rw [z991] at v4
      have jr : j < 24 ∨ (984 ≤ j ∧ j < 992) := by
        by_cases x1 : j < 24
        · exact Or.inl x1
        · by_cases x2 : j < 184
          · exact absurd (v2 (by omega) x2) (Nat.not_lt_zero _)
          · by_cases x3 : j < 984
            · exact absurd (v3 (by omega) x3) (Nat.not_lt_zero _)
            · by_cases x4 : j < 992
              · exact Or.inr ⟨by omega, x4⟩
              · exact absurd (v4 (by omega)) (Nat.not_lt_zero _)
      unfold sl
      by_cases j0 : j = 0
      · subst j0
        show zI σ9 (s + 1) 2 = 4
        rw [GI (s + 1) (by omega) (by omega) (by omega), HI (s + 1) (by omega) (by omega)]; exact t7
      · by_cases j7 : j < 7
        · obtain ⟨k, rfl⟩ : ∃ k, j = 1 + k := ⟨j - 1, by omega⟩
          rw [slo_bnd (show k < 6 by omega)]
          show zI σ9 (s + 2) k = _
          rw [GI (s + 2) (by omega) (by omega) (by omega), HI (s + 2) (by omega) (by omega), t8 k (by omega)]
          have : k = 0 ∨ k = 1 ∨ k = 2 ∨ k = 3 ∨ k = 4 ∨ k = 5 := by omega
          rcases this with rfl | rfl | rfl | rfl | rfl | rfl <;> rfl
        · by_cases j13 : j < 13
          · obtain ⟨k, rfl⟩ : ∃ k, j = 7 + k := ⟨j - 7, by omega⟩
            rw [slo_inc (show k < 6 by omega)]
            show zI σ9 (s + 3) k = _
            rw [GI (s + 3) (by omega) (by omega) (by omega), HI (s + 3) (by omega) (by omega), t9 k (by omega)]
            have : k = 0 ∨ k = 1 ∨ k = 2 ∨ k = 3 ∨ k = 4 ∨ k = 5 := by omega
            rcases this with rfl | rfl | rfl | rfl | rfl | rfl <;> rfl
          · by_cases j23 : j < 23
            · obtain ⟨k, rfl⟩ : ∃ k, j = 13 + k := ⟨j - 13, by omega⟩
              rw [slo_crd (show k < 10 by omega)]
              show zI σ9 (s + 4) k = _
              rw [g9.I (by omega) (by omega), C8 k (by omega)]
              unfold row0
              rw [if_neg (by omega), if_neg (by omega), if_neg (by omega), if_neg (by omega), if_neg (by omega), if_neg (by omega), if_neg (by omega), if_neg (by omega), if_pos (by omega)]
            · have hz : row0 j = 0 := by
                unfold row0
                rw [if_neg (by omega), if_neg (by omega), if_neg (by omega), if_neg (by omega), if_neg (by omega), if_neg (by omega), if_neg (by omega), if_neg (by omega), if_neg (by omega)]
              rw [hz]
              by_cases j24 : j = 23
              · subst j24
                show zI σ9 (s + 0) 5 = 0
                rw [Nat.add_zero, GI s (by omega) (by omega) (by omega), i7]
              · by_cases j84 : j = 984
                · subst j84
                  show zI σ9 (s + 0) 6 = 0
                  rw [Nat.add_zero, GI s (by omega) (by omega) (by omega), i7]
                · by_cases j91 : j = 991
                  · subst j91
                    show zI σ9 (s + 7) 4 = 0
                    rw [GI (s + 7) (by omega) (by omega) (by omega), jL]
                  · obtain ⟨k, rfl⟩ : ∃ k, j = 985 + k := ⟨j - 985, by omega⟩
                    rw [slo_fee (show k < 6 by omega)]
                    show zI σ9 (s + 5) k = 0
                    rw [GI (s + 5) (by omega) (by omega) (by omega), HI (s + 5) (by omega) (by omega), Kf.2.2]
end
