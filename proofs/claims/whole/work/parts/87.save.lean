section
variable {σ τ : zW} {S S' : St} {c n B : Nat}
/-- the eleventh Sale takes the row -/
theorem JC.take10 {σ' : zW} (h : JM σ S c) (h0 : kpo σ 10 ≠ 0) (hW : Wr σ (kpo σ 10) (sA S) σ') : JC σ' (uV S (sA S)) c ∧ FC σ σ' := by
  obtain ⟨a1, a2, a3, ⟨a4, a5, nx, a6, a7, a8⟩, a9, ⟨b1, b2⟩, ⟨b3, b4⟩, b5⟩ := h
  obtain ⟨p1, p2, p3⟩ := a3.1 10 (by decide) h0
  have hF := hW.1
  have hr := hW.2
  have hn : ∀ o, o < 133 → zI σ' o = zI σ o := fun o ho => hF.2 o (fun q => by have := q.1; omega)
  have e := kpo_fr hF
  have hoth : ∀ i, i < 10 → kpo σ i ≠ 0 → ∀ a, Rep σ (kpo σ i) a → Rep σ' (kpo σ i) a := fun i hi hq a hr => hr.fr hF (fun o o1 o2 q => by
    have d := a3.2 i 10 (by omega) (by decide) (by omega) hq h0
    have := q.1
    have := q.2
    omega)
  refine ⟨⟨⟨a1.fr hF (fun q => by have := q.1; omega) (fun q => by have := q.1; omega), a2.fr hF (fun o h1 h2 q => by have := q.1; omega), a3.fr hF, ⟨?_, a5, nx, a6, ?_, fun k hk => ?_⟩, fun _ => ?_, ⟨?_, ?_⟩, ⟨?_, fun j hj => ?_⟩, ?_⟩, fun q => ?_⟩, hF.fc (fun o q => Or.inr (by have := q.1; omega))⟩
  · rw [hn 120 (by decide)]; exact a4
  · rw [hn 120 (by decide)]; exact a7
  · rw [e]
    obtain ⟨g1, g2⟩ := a8 k hk
    exact ⟨g1, hoth _ (by omega) g1 _ g2⟩
  · rw [e]
    exact ⟨h0, hr⟩
  · rw [hn 4 (by decide)]; exact b1
  · rw [hn 4 (by decide)]; exact b2
  · rw [hn 122 (by decide)]; exact b3
  · rw [hn 123 (by decide)]; exact b4 j hj
  · unfold BG
    rw [e, hF.N, hF.S]
    exact b5
  · exact absurd (show (true = false) from q) (by decide)
theorem c_save18 (h : JM σ S c) (hc : Cn (sA S)) (h0 : zR σ 4 4 ≠ 0) (hn : 1000 < n) : wp (sX7_save_18 n 4 σ) (fun σ' => JC σ' (uV S (sA S)) c ∧ FC σ σ') := by
  have k10 : kpo σ 10 = zR σ 4 4 := if_neg (by decide)
  have hp : kpo σ 10 ≠ 0 := by rw [k10]; exact h0
  obtain ⟨p1, p2, p3⟩ := h.2.2.1.1 10 (by decide) hp
  unfold sX7_save_18
  refine wpE (zgR_e h.1.1.1 k10.symm) ?_
  refine wpE (zgR_e h.1.1.1 h.1.1.2.1) ?_
  refine wpE (zck_e p3.kS) ?_
  obtain ⟨σ1, e1, w1⟩ := c_take (n := n) h.2.1 p3 hc hn (Or.inr (by omega))
  refine wpE (zb_e e1) ?_
  exact wp_some (JC.take10 h hp w1)
theorem c_save (hJ : JC σ S c) (hc : Cn (sA S)) (hn : 1000 < n) (hcc : c ≤ 100000) : wp (fX7_save n 4 σ) (fun σ' => JC σ' (uV S (sA S)) c ∧ FC σ σ') := by
  obtain ⟨hM0, hV⟩ := hJ
  have hM := hM0
  obtain ⟨a1, a2, a3, a4, a9, b1, b2, ⟨b3, b4, b5⟩⟩ := hM
  have k10 : kpo σ 10 = zR σ 4 4 := if_neg (by decide)
  unfold fX7_save
  by_cases hz : zR σ 4 4 = 0
  · refine wpE (zgR_e a1.1.1 hz) ?_
    refine wpE (if_pos rfl) ?_
    have hnl : 1 ≤ nlz (kpo σ) 11 := by
      have e := nlz_fill (f := kpo σ) (g := fun i => if i = 10 then 1 else kpo σ i) (i0 := 10) (by rw [k10]; exact hz) (by rw [if_pos rfl]; decide) (fun i hi => if_neg hi) 11 (by omega)
      omega
    refine wpE (znO_e (by omega) (by omega)) ?_
    refine wpE (if_neg (by omega)) ?_
    have g1 : Gr σ (nw σ 4 7) 1 7 (fun _ => False) := Gr.nw
    have N1 := g1.1
    have S1 := g1.2.1
    have k4 : zK (nw σ 4 7) (zN σ + 4) = 4 := by rw [nw_K, if_pos rfl]
    have i4 : zI (nw σ 4 7) (zN σ + 4) = fun _ => 0 := by rw [nw_I, if_pos rfl]
    obtain ⟨σ2, e2, g2, r2⟩ := c_initSale (n := n) (σ := nw σ 4 7) (s := zN σ + 4) (a1.2.2.2.2.gr g1 (fun q => q) (fun q => q)) k4 i4 (by omega) (by omega) (by omega) (by omega) hn
    refine wpE (zb_e e2) ?_
    have g12 : Gr σ σ2 112 2103 (fun _ => False) := g1.trans g2 (fun o ho _ => ⟨fun q => q, by omega⟩)
    have K4 : zK σ2 4 = 8 := (g12.K (by omega)).trans a1.1.1
    refine wpE (zpR_e K4 rfl) ?_
    have g13 : Gr σ (stR σ2 4 4 (zN σ + 4)) 112 2103 (fun o => o = 121 ∨ o = 4) := g12.trans Gr.sR (fun o ho h => ⟨fun q => q, fun q => h (Or.inr q)⟩)
    have R121 : zR σ2 121 = zR σ 121 := g12.R (by omega) (fun q => q)
    have R4 : zR σ2 4 = zR σ 4 := g12.R (by omega) (fun q => q)
    have hk : ∀ i, i < 11 → kpo (stR σ2 4 4 (zN σ + 4)) i = if i = 10 then zN σ + 4 else kpo σ i := by
      intro i hi
      unfold kpo
      by_cases h10 : i < 10
      · rw [if_pos h10, if_pos h10, sR_R, if_neg (by omega), R121, if_neg (by omega)]
      · rw [if_neg h10, sR_R, if_pos ⟨rfl, rfl⟩, if_pos (by omega)]
    have r3 : Rep (stR σ2 4 4 (zN σ + 4)) (zN σ + 4) row0 := by
      refine ⟨?_, r2.2⟩
      have gR : ∀ o, o ≠ 4 → zR (stR σ2 4 4 (zN σ + 4)) o = zR σ2 o := fun o ho => sR_Rne ho
      obtain ⟨s1, s2, s3, ⟨s4, s5⟩, s6⟩ := r2.1
      have lo4 : ∀ i, lo (zN σ + 4) i = zN σ + 4 + (12 + 5 * i) := fun i => rfl
      refine ⟨?_, ?_, s3, ⟨s4, fun q hq => ?_⟩, fun i hi => ?_⟩
      · rw [gR _ (by omega)]; exact s1
      · rw [gR _ (by omega)]; exact s2
      · rw [gR _ (by omega)]; exact s5 q hq
      · rw [gR _ (by omega), gR _ (by rw [lo4]; omega)]; exact s6 i hi
    have J3 := hM0.new (by omega) (k10.trans hz) g13 ⟨g12.I (by omega) (fun q => q), g12.I (by omega) (fun q => q)⟩ hk (fun k hk4 => by rw [sR_R, if_neg (by omega), R4]) r3
    have FC3 : FC σ (stR σ2 4 4 (zN σ + 4)) := g13.fc (by omega) (fun o q => Or.inl (by omega))
    obtain ⟨σ4, e4, j4, f4⟩ := c_save18 (n := n) J3 hc (by rw [sR_R, if_pos ⟨rfl, rfl⟩]; omega) hn
    exact ⟨σ4, e4, j4, FC3.trans f4⟩
  · refine wpE (zgR_e a1.1.1 rfl) ?_
    refine wpE (if_neg hz) ?_
    exact c_save18 (n := n) hM0 hc hz hn
theorem r_save (hτ : JR τ S) (hn : 30000 < n) : wp (fX8_save n 125 τ) (fun τ' => JR τ' (uV S (sA S)) ∧ Fr PR τ τ') := by
  have t2 := (Tr.one (k := 0) hτ).2.2
  unfold fX8_save
  refine wpE (zpI_e hτ.k rfl) ?_
  refine wpE (zpI_e t2.k rfl) ?_
  have LM3 : LM (stI (stI τ 125 0 0) 125 5 1) := t2.1
  obtain ⟨τ3, e, F, hI⟩ := r_save12 (n := n) LM3 hn
  have e125 : zI τ3 125 = zI (stI (stI τ 125 0 0) 125 5 1) 125 := F.2 125 (by decide)
  have eo : ∀ j, j ≠ 5 → zI τ3 125 j = zI (stI τ 125 0 0) 125 j := fun j hj => by rw [e125, zI_st, if_neg (fun q => hj q.2)]
  have ex : ∀ o, o ≠ 125 → o ≠ 128 → zI τ3 o = zI (stI τ 125 0 0) o := fun o h1 h2 => by rw [F.2 o h2, zI_st_ne h1]
  have z6 : zI (stI (stI τ 125 0 0) 125 5 1) 126 = zI (stI τ 125 0 0) 126 := zI_st_ne (by decide)
  obtain ⟨x1, x2, ⟨x3, x4, x5⟩, ⟨x6, x7⟩, ⟨x8, x9⟩, ⟨y1, y2⟩⟩ := t2
  refine ⟨τ3, e, ⟨LM3.fr F, ?_, ⟨?_, x4, fun k hk j hj => ?_⟩, ⟨?_, fun _ j hj => ?_⟩, ⟨?_, ?_⟩, ⟨?_, ?_⟩⟩, (PR.i.trans PR.i).trans (F.mono (fun o q => by rw [q]; exact ⟨by decide, by decide⟩))⟩
  · rw [ex 126 (by decide) (by decide)]; exact x2
  · rw [eo 3 (by decide)]; exact x3
  · rw [ex 127 (by decide) (by decide)]; exact x5 k hk j hj
  · rw [e125, zI_st, if_pos ⟨rfl, rfl⟩]; rfl
  · rw [hI j hj, z6, x2]; rfl
  · rw [eo 6 (by decide)]; exact x8
  · rw [eo 15 (by decide)]; exact x9
  · rw [eo 12 (by decide)]; exact y1
  · rw [ex 129 (by decide) (by decide), eo 17 (by decide), ex 130 (by decide) (by decide)]; exact y2
/-- what the law asks of a call that gives no number -/
def OPU (F : zW → Option (Int32 × zW)) (G : zW → Option zW) (σ : zW) (S : St) (c : Nat) : Prop :=
  ∃ k σ1 S', F σ = some (k, σ1) ∧ JC σ1 S' (c + 1) ∧ (∀ L xs, LW σ L xs → LW σ1 L xs) ∧ (JR σ S → JR σ1 S) ∧ (SI S' (100 * (c + 1)) ∧ (sTr S = sTl S → sTr S' = sTl S')) ∧ ∀ τ, JR τ S → ∃ τ', G τ = some τ' ∧ zI τ' 125 0 = k ∧ JR τ' S' ∧ Fr PR τ τ'
theorem o_restore (hJ : JC σ S c) (hS : SI S (100 * c)) (hcc : c ≤ 512) (hn : 30000 < n) : OPU (fL_restore n 4) (fX8_restore n 125) σ S c := by
  have rm := hJ.room (by omega)
  have k10 : kpo σ 10 = zR σ 4 4 := if_neg (by decide)
  cases hb : sB S with
  | false =>
    have hz := hJ.2 hb
    refine ⟨1, nwX σ, S, ?_, hJ.thr, fun L xs h => h.fc FC.thr, fun h => h.fc FC.thr, ⟨hS.mono (by omega), fun q => q⟩, fun τ hτ => ?_⟩
    · unfold fL_restore
      have er : fX7_restore n 4 σ = some (.inr 3, nwX σ) := by
        unfold fX7_restore
        exact (zgR_e hJ.x hz).trans ((if_pos rfl).trans (zth_e rm.1 rm.2))
      exact (zck_e hJ.x).trans ((zbx_r er).trans rfl)
    · have hT := Tr.one (k := 1) hτ
      have h5 : zI τ 125 5 = 0 := hτ.2.2.2.1.1.trans (by rw [hb]; rfl)
      have g : wp (fX8_restore n 125 τ) (fun τ' => τ' = stI τ 125 0 1) := by
        unfold fX8_restore
        refine wpE (zgI_e hτ.k h5) ?_
        refine wpE (if_pos rfl) ?_
        unfold sX8_restore_13
        refine wpE (thr_set hτ) ?_
        refine wpE (if_neg (by decide)) ?_
        exact wp_some rfl
      exact ⟨stI τ 125 0 1, wp_eq g, hT.1, hT.2.2, hT.2.1⟩
  | true =>
    obtain ⟨hp, hrp⟩ := hJ.1.2.2.2.2.1 hb
    have hz : zR σ 4 4 ≠ 0 := by rw [← k10]; exact hp
    have hIV := hS.2.2.1 hb
    obtain ⟨p1, p2, p3⟩ := hJ.1.2.2.1.1 10 (by decide) hp
    have cl : wp (fX7_restore n 4 σ) (fun r => ∃ σ1, r = (.inl (), σ1) ∧ JC σ1 (uH (uA S (sV S)) 0 (sP S)) c ∧ FC σ σ1) := by
      unfold fX7_restore
      refine wpE (zgR_e hJ.x k10.symm) ?_
      refine wpE (if_neg hp) ?_
      refine wpE (zgR_e hJ.x hJ.xs) ?_
      refine wpE (zgR_e hJ.x k10.symm) ?_
      refine wpE (zck_e hJ.rep.1.kS) ?_
      obtain ⟨σ1, e1, w1⟩ := c_take (n := n) hrp hJ.rep.1 hIV.1 (by omega) (Or.inl (by omega))
      have J1 := hJ.wr w1
      refine wpE (zb_e e1) ?_
      refine wpE (zgR_e J1.x J1.xh) ?_
      refine wpE (zck_e J1.kh) ?_
      have e2 : fX0_forget n 120 σ1 = some (stI σ1 120 2 0) := by
        unfold fX0_forget
        exact zpI_e J1.kh rfl
      refine wpE (zb_e e2) ?_
      have F2 : Fr (fun o => o = 120) σ1 (stI σ1 120 2 0) := Fr.st (P := fun o => o = 120) rfl
      obtain ⟨-, -, -, ⟨-, -, nx, h6, h7, h8⟩, -⟩ := J1.1
      refine wp_some ⟨_, rfl, J1.hs F2 ⟨?_, Nat.zero_le _, nx, h6, ?_, fun k hk => absurd hk (Nat.not_lt_zero k)⟩, (FC.wr w1).trans (F2.fc (fun o q => Or.inl (by have : o = 120 := q; omega)))⟩
      · rw [zI_st, if_pos ⟨rfl, rfl⟩]
        rfl
      · rw [zI_st, if_neg (by omega)]; exact h7
    obtain ⟨r, er, σ1, rfl, J1, F1⟩ := cl
    have hS' : SI (uH (uA S (sV S)) 0 (sP S)) (100 * (c + 1)) := ⟨hIV.mono (by omega), fun k hk => absurd hk (Nat.not_lt_zero k), fun q => (hS.2.2.1 q).mono (by omega), hS.2.2.2⟩
    refine ⟨0, σ1, uH (uA S (sV S)) 0 (sP S), ?_, J1.mono (by omega), fun L xs h => h.fc F1, fun h => h.fc F1, ⟨hS', fun q => q⟩, fun τ hτ => ?_⟩
    · unfold fL_restore
      exact (zck_e hJ.x).trans (zbx_l er)
    · have hT := Tr.one (k := 0) hτ
      have t2 := hT.2.2
      have h5 : zI τ 125 5 = 1 := hτ.2.2.2.1.1.trans (by rw [hb]; rfl)
      have g : wp (fX8_restore n 125 τ) (fun τ' => zI τ' 125 0 = 0 ∧ JR τ' (uH (uA S (sV S)) 0 (sP S)) ∧ Fr PR τ τ') := by
        unfold fX8_restore
        refine wpE (zgI_e hτ.k h5) ?_
        refine wpE (if_neg one_ne) ?_
        unfold sX8_restore_13
        refine wpE (thr_set hτ) ?_
        refine wpE (if_pos rfl) ?_
        refine wpE (zpI_e t2.k rfl) ?_
        have LM3 : LM (stI (stI τ 125 0 0) 125 3 0) := t2.1
        obtain ⟨τ3, e, F, hI⟩ := r_restore31 (n := n) LM3 hn
        have e125 : zI τ3 125 = zI (stI (stI τ 125 0 0) 125 3 0) 125 := F.2 125 (by decide)
        have eo : ∀ j, j ≠ 3 → zI τ3 125 j = zI (stI τ 125 0 0) 125 j := fun j hj => by rw [e125, zI_st, if_neg (fun q => hj q.2)]
        have ex : ∀ o, o ≠ 125 → o ≠ 126 → zI τ3 o = zI (stI τ 125 0 0) o := fun o h1 h2 => by rw [F.2 o h2, zI_st_ne h1]
        have z6 : zI (stI (stI τ 125 0 0) 125 3 0) 126 = zI (stI τ 125 0 0) 126 := zI_st_ne (by decide)
        have z8 : zI (stI (stI τ 125 0 0) 125 3 0) 128 = zI (stI τ 125 0 0) 128 := zI_st_ne (by decide)
        obtain ⟨x1, x2, ⟨x3, x4, x5⟩, ⟨x6, x7⟩, ⟨x8, x9⟩, ⟨y1, y2⟩⟩ := t2
        refine ⟨τ3, e, ?_, ⟨LM3.fr F, ?_, ⟨?_, Nat.zero_le _, fun k hk => absurd hk (Nat.not_lt_zero k)⟩, ⟨?_, ?_⟩, ⟨?_, ?_⟩, ⟨?_, ?_⟩⟩, (PR.i.trans PR.i).trans (F.mono (fun o q => by rw [q]; exact ⟨by decide, by decide⟩))⟩
        · rw [eo 0 (by decide)]; exact hT.1
        · funext j
          rw [hI j, z6, z8]
          show _ = sV S j
          by_cases hj : j < 1992
          · rw [if_pos hj]
            exact x7 hb j hj
          · rw [if_neg hj, x2, hS.1.2.2.2.2.2.2 j (by omega), hIV.2.2.2.2.2.2 j (by omega)]
        · rw [e125, zI_st, if_pos ⟨rfl, rfl⟩]
          rfl
        · rw [eo 5 (by decide)]; exact x6
        · rw [ex 128 (by decide) (by decide)]; exact x7
        · rw [eo 6 (by decide)]; exact x8
        · rw [eo 15 (by decide)]; exact x9
        · rw [eo 12 (by decide)]; exact y1
        · rw [ex 129 (by decide) (by decide), eo 17 (by decide), ex 130 (by decide) (by decide)]; exact y2
      obtain ⟨τ', g1, g2, g3, g4⟩ := g
      exact ⟨τ', g1, g2, g3, g4⟩
end
