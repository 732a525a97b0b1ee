/-! A SALE IS KEPT -/
theorem nlz_congr {f g : Nat → Nat} : ∀ k, (∀ i, i < k → f i = g i) → nlz f k = nlz g k
  | 0, _ => rfl
  | k + 1, h => by
    unfold nlz
    rw [nlz_congr k (fun i hi => h i (by omega)), h k (by omega)]
theorem nlz_fill {f g : Nat → Nat} {i0 : Nat} (hf : f i0 = 0) (hg : g i0 ≠ 0) (h : ∀ i, i ≠ i0 → g i = f i) : ∀ k, i0 < k → nlz f k = nlz g k + 1
  | 0, h0 => by omega
  | k + 1, h0 => by
    unfold nlz
    by_cases e : i0 = k
    · subst e
      rw [if_pos hf, if_neg hg, nlz_congr i0 (fun i hi => (h i (by omega)).symm)]
      omega
    · rw [nlz_fill hf hg h k (by omega), h k (by omega)]
      omega
/-- a kept place gets its Sale -/
theorem JM.new {σ σ' : zW} {S : St} {c i0 : Nat} {a : Nat → Int32} (h : JM σ S c) (hi0 : i0 < 11) (h0 : kpo σ i0 = 0) (hG : Gr σ σ' 112 2103 (fun o => o = 121 ∨ o = 4)) (hI : zI σ' 121 = zI σ 121 ∧ zI σ' 4 = zI σ 4)
    (hk : ∀ i, i < 11 → kpo σ' i = if i = i0 then zN σ + 4 else kpo σ i) (h4 : ∀ k, k < 4 → zR σ' 4 k = zR σ 4 k) (hN : Rep σ' (zN σ + 4) a) : JM σ' S c := by
  obtain ⟨⟨x1, x2, x3, x4, x5⟩, a2, a3, ⟨a4, a5, nx, a6, a7, a8⟩, a9, b1, b2, ⟨b3, b4, b5⟩⟩ := h
  have hR : ∀ p, p + 112 ≤ zN σ + 4 → 121 < p ∨ p = 5 → ∀ a, Rep σ p a → Rep σ' p a := by
    intro p h1 h2 a hr
    have gK : ∀ q, q < 112 → zK σ' (p + q) = zK σ (p + q) ∧ zL σ' (p + q) = zL σ (p + q) ∧ zR σ' (p + q) = zR σ (p + q) ∧ zI σ' (p + q) = zI σ (p + q) := by
      intro q hq
      have hne : ¬ (p + q = 121 ∨ p + q = 4) := by omega
      exact ⟨hG.K (by omega), hG.L (by omega), hG.R (by omega) hne, hG.I (by omega) hne⟩
    refine ⟨?_, fun j hj => ?_⟩
    · have q0 := gK 0 (by decide)
      have q1 := gK 1 (by decide)
      have q2 := gK 2 (by decide)
      have q3 := gK 3 (by decide)
      have q4 := gK 4 (by decide)
      have q5 := gK 5 (by decide)
      have q6 := gK 6 (by decide)
      have q7 := gK 7 (by decide)
      rw [Nat.add_zero] at q0
      obtain ⟨s1, s2, s3, ⟨s4, s5⟩, s6⟩ := hr.1
      refine ⟨?_, ?_, ?_, ⟨?_, fun q hq => ?_⟩, fun i hi => ?_⟩
      · rw [q0.1, q0.2.2.1]; exact s1
      · rw [q1.1, q1.2.2.1, q2.1, q2.2.1, q3.1, q3.2.1]; exact s2
      · rw [q4.1, q4.2.1, q5.1, q5.2.1, q6.1, q6.2.1]; exact s3
      · rw [q7.1]; exact s4
      · rw [q7.2.2.1, (gK (8 + q) (by omega)).1, (gK (8 + q) (by omega)).2.1]; exact s5 q hq
      · obtain ⟨t1, t2, t3⟩ := s6 i hi
        have g0 := gK (12 + 5 * i) (by omega)
        rw [show p + (12 + 5 * i) = lo p i from rfl] at g0
        refine ⟨by rw [q6.2.2.1]; exact t1, by rw [g0.1]; exact t2, fun q hq => ?_⟩
        have g1 := gK (12 + 5 * i + (1 + q)) (by omega)
        rw [show p + (12 + 5 * i + (1 + q)) = lo p i + (1 + q) by unfold lo; omega] at g1
        rw [g0.2.2.1, g1.1, g1.2.1]
        exact t3 q hq
    · rw [← hr.2 j hj]
      unfold sl
      rw [(gK _ (slo_lt j hj.1)).2.2.2]
  have hb := b3
  have old : ∀ i, i < 11 → kpo σ i ≠ 0 → kpo σ' i = kpo σ i := fun i hi hn => by
    have hne : ¬ i = i0 := fun e => hn (e ▸ h0)
    rw [hk i hi, if_neg hne]
  have oldR : ∀ i, i < 11 → kpo σ i ≠ 0 → ∀ a, Rep σ (kpo σ i) a → kpo σ' i ≠ 0 ∧ Rep σ' (kpo σ' i) a := fun i hi hn a hr => by
    rw [old i hi hn]
    obtain ⟨g1, g2, g3⟩ := a3.1 i hi hn
    exact ⟨hn, hR _ g2 (Or.inl (by omega)) a hr⟩
  have e120 : zI σ' 120 = zI σ 120 := hG.I (by omega) (by omega)
  refine ⟨⟨?_, ?_, ?_, ?_, ?_⟩, hR 5 (by omega) (Or.inr rfl) _ a2, ⟨fun i hi hn => ?_, fun i j hi hj hij h1 h2 => ?_⟩, ⟨?_, a5, nx, a6, ?_, fun k hk' => ?_⟩, fun hb' => ?_, ?_, ?_, ?_⟩
  · rw [hG.K (by omega), h4 0 (by decide), h4 1 (by decide), h4 2 (by decide), h4 3 (by decide)]; exact x1
  · unfold Vw
    rw [hG.K (by omega), hG.R (by omega) (by omega), hG.K (by omega), hG.L (by omega), hG.K (by omega), hG.L (by omega)]; exact x2
  · rw [hG.K (by omega), hG.R (by omega) (by omega), hG.K (by omega), hG.L (by omega)]; exact x3
  · rw [hG.K (by omega), hG.R (by omega) (by omega), hG.K (by omega), hG.L (by omega), hG.K (by omega), hG.L (by omega)]; exact x4
  · exact x5.gr hG (by omega) (by omega)
  · by_cases e : i = i0
    · rw [hk i hi, if_pos e]
      exact ⟨by omega, by rw [hG.1]; omega, hN.1⟩
    · have e2 : kpo σ' i = kpo σ i := by rw [hk i hi, if_neg e]
      rw [e2] at hn ⊢
      obtain ⟨g1, g2, g3⟩ := a3.1 i hi hn
      have : Rep σ' (kpo σ i) (sl σ (kpo σ i)) := hR _ g2 (Or.inl (by omega)) _ ⟨g3, fun _ _ => rfl⟩
      exact ⟨g1, by rw [hG.1]; omega, this.1⟩
  · rw [hk i hi] at h1 ⊢
    rw [hk j hj] at h2 ⊢
    by_cases e : i = i0
    · rw [if_pos e]
      have e3 : j ≠ i0 := fun q => hij (e.trans q.symm)
      rw [if_neg e3] at h2 ⊢
      exact Or.inr (a3.1 j hj h2).2.1
    · rw [if_neg e] at h1 ⊢
      by_cases e3 : j = i0
      · rw [if_pos e3]
        exact Or.inl (a3.1 i hi h1).2.1
      · rw [if_neg e3] at h2 ⊢
        exact a3.2 i j hi hj hij h1 h2
  · rw [e120]; exact a4
  · rw [e120]; exact a7
  · obtain ⟨g1, g2⟩ := a8 k hk'
    exact oldR _ (by omega) g1 _ g2
  · obtain ⟨g1, g2⟩ := a9 hb'
    exact oldR _ (by omega) g1 _ g2
  · rw [hI.2]; exact b1
  · rw [hG.I (by omega) (by omega), hG.I (by omega) (by omega)]; exact b2
  · have e : nlz (kpo σ) 11 = nlz (kpo σ') 11 + 1 := by
      have : nlz (kpo σ') 11 = nlz (fun i => if i = i0 then zN σ + 4 else kpo σ i) 11 := nlz_congr 11 hk
      rw [this]
      exact nlz_fill h0 (by rw [if_pos rfl]; omega) (fun i hi => if_neg hi) 11 hi0
    refine ⟨by rw [hG.1]; omega, ?_, ?_⟩
    · rw [hG.1]; omega
    · rw [hG.2.1]; omega
theorem zdv_e {α : Type} {y : Int32} {X : Option α} (h : y ≠ 0) : zdv y X = X := if_neg h
theorem io_mod10 {x : Nat} (hx : x < 1000000) : Int32.ofNat x - Int32.ofNat x / 10 * 10 = Int32.ofNat (x % 10) := io_mod (y := 10) hx (by decide) (by decide)
section
variable {σ : zW} {S : St} {c n : Nat}
theorem c_keep28 (h : JM σ S c) (hc : Cn (sA S)) (hn : 1000 < n) (h0 : ∀ nx, nx < 10 → zI σ 120 1 = Int32.ofNat nx → kpo σ nx ≠ 0) : wp (sX0_keep_28 n 120 5 σ) (fun σ' => JM σ' (keepS S) c ∧ FC σ σ' ∧ zR σ' = zR σ) := by
  obtain ⟨a1, a2, a3, ⟨a4, a5, nx, a6, a7, a8⟩, a9, b1, b2, b3⟩ := h
  have hq := h0 nx a6 a7
  obtain ⟨p1, p2, p3⟩ := a3.1 nx (by omega) hq
  have kx : kpo σ nx = zR σ 121 nx := if_pos a6
  generalize hp : kpo σ nx = p at *
  unfold sX0_keep_28
  refine wpE (zgR_e a1.2.2.1.1 a1.2.2.1.2.1) ?_
  refine wpE (zgI_e a1.2.2.1.1 a7) ?_
  refine wpE (zaRN_e a1.2.2.1.2.2.1 a1.2.2.1.2.2.2 a6 (by decide) kx.symm) ?_
  refine wpE (zck_e p3.kS) ?_
  obtain ⟨σ1, e1, w1⟩ := c_take (n := n) a2 p3 hc hn (Or.inr (by omega))
  refine wpE (zb_e e1) ?_
  have F1 := w1.1
  have k1 : zK σ1 120 = 1 := (congrFun F1.K 120).trans a1.2.2.1.1
  have i1 : zI σ1 120 = zI σ 120 := F1.2 120 (fun q => by have := q.1; omega)
  refine wpE (zgI_e k1 ((congrFun i1 1).trans a7)) ?_
  refine wpE (zdv_e (by decide)) ?_
  rw [io_succ, io_mod10 (by omega)]
  refine wpE (zpI_e k1 rfl) ?_
  have e2 : zI (stI σ1 120 1 (Int32.ofNat ((nx + 1) % 10))) 120 2 = Int32.ofNat (sPc S) := by rw [zI_st, if_neg (by omega), i1, a4]
  refine wpE (zgI_e k1 e2) ?_
  have hmn : (if (10 : Int32) < Int32.ofNat (sPc S) + 1 then 10 else Int32.ofNat (sPc S) + 1) = Int32.ofNat (min (sPc S + 1) 10) := by
    rw [io_succ, Nat.min_comm]
    exact mni (x := 10) (by decide) (by omega)
  refine wpE (zpI_e k1 hmn) ?_
  refine wp_some ?_
  have F3 : Fr (fun o => Ps p o ∨ o = 120) σ (stI (stI σ1 120 1 (Int32.ofNat ((nx + 1) % 10))) 120 2 (Int32.ofNat (min (sPc S + 1) 10))) := by
    refine ((F1.mono (P' := fun o => Ps p o ∨ o = 120) (fun o q => Or.inl q)).trans (Fr.st ?_)).trans (Fr.st ?_) <;> exact Or.inr rfl
  have F2 : Fr (fun o => o = 120) σ1 (stI (stI σ1 120 1 (Int32.ofNat ((nx + 1) % 10))) 120 2 (Int32.ofNat (min (sPc S + 1) 10))) := by
    refine (Fr.st (P := fun o => o = 120) ?_).trans (Fr.st ?_) <;> rfl
  have v1 : zI (stI (stI σ1 120 1 (Int32.ofNat ((nx + 1) % 10))) 120 2 (Int32.ofNat (min (sPc S + 1) 10))) 120 1 = Int32.ofNat ((nx + 1) % 10) := by rw [zI_st, if_neg (by omega), zI_st, if_pos ⟨rfl, rfl⟩]
  have v2 : zI (stI (stI σ1 120 1 (Int32.ofNat ((nx + 1) % 10))) 120 2 (Int32.ofNat (min (sPc S + 1) 10))) 120 2 = Int32.ofNat (min (sPc S + 1) 10) := by rw [zI_st, if_pos ⟨rfl, rfl⟩]
  generalize stI (stI σ1 120 1 (Int32.ofNat ((nx + 1) % 10))) 120 2 (Int32.ofNat (min (sPc S + 1) 10)) = σ3 at *
  have hI : ∀ o, o ≠ 120 → o < 133 → zI σ3 o = zI σ o := fun o ho h2 => F3.2 o (fun q => by
    rcases q with q | q
    · have := q.1; omega
    · exact ho q)
  have e := kpo_fr F3
  have hother : ∀ i, i < 11 → i ≠ nx → kpo σ i ≠ 0 → ∀ a, Rep σ (kpo σ i) a → Rep σ3 (kpo σ i) a := fun i hi hne hn a hr => hr.fr F3 (fun o o1 o2 q => by
    have d := a3.2 i nx hi (by omega) hne hn (by rw [hp]; exact hq)
    rw [hp] at d
    have g := (a3.1 i hi hn).1
    rcases q with q | q
    · have := q.1; have := q.2; omega
    · omega)
  have hmine : Rep σ3 p (sA S) := w1.2.fr F2 (fun o o1 o2 q => by have : o = 120 := q; omega)
  refine ⟨⟨?_, ?_, a3.fr F3, ⟨v2, ?_, (nx + 1) % 10, by omega, v1, fun k hk => ?_⟩, fun hb => ?_, ?_, ?_, ?_⟩, F3.fc (fun o q => ?_), F3.R⟩
  · exact a1.fr F3 (fun q => by rcases q with q | q; · have := q.1; omega
                                · omega) (fun q => by rcases q with q | q; · have := q.1; omega
                                                      · omega)
  · exact a2.fr F3 (fun o o1 o2 q => by rcases q with q | q; · have := q.1; omega
                                        · omega)
  · show min (sPc S + 1) 10 ≤ 10
    omega
  · have hk : k < min (sPc S + 1) 10 := hk
    show kpo σ3 (((nx + 1) % 10 + 10 - min (sPc S + 1) 10 + k) % 10) ≠ 0 ∧ Rep σ3 (kpo σ3 (((nx + 1) % 10 + 10 - min (sPc S + 1) 10 + k) % 10)) (if k = min (sPc S) 9 then sA S else if sPc S = 10 then sP S (k + 1) else sP S k)
    rw [e]
    by_cases g : k = min (sPc S) 9
    · have es : ((nx + 1) % 10 + 10 - min (sPc S + 1) 10 + k) % 10 = nx := by omega
      rw [if_pos g, es, hp]
      exact ⟨hq, hmine⟩
    · rw [if_neg g]
      by_cases g2 : sPc S = 10
      · rw [if_pos g2]
        obtain ⟨g3, g4⟩ := a8 (k + 1) (by omega)
        have es : ((nx + 1) % 10 + 10 - min (sPc S + 1) 10 + k) % 10 = (nx + 10 - sPc S + (k + 1)) % 10 := by omega
        rw [es]
        exact ⟨g3, hother _ (by omega) (by omega) g3 _ g4⟩
      · rw [if_neg g2]
        obtain ⟨g3, g4⟩ := a8 k (by omega)
        have es : ((nx + 1) % 10 + 10 - min (sPc S + 1) 10 + k) % 10 = (nx + 10 - sPc S + k) % 10 := by omega
        rw [es]
        exact ⟨g3, hother _ (by omega) (by omega) g3 _ g4⟩
  · rw [e]
    obtain ⟨g1, g2⟩ := a9 hb
    exact ⟨g1, hother 10 (by decide) (by omega) g1 _ g2⟩
  · rw [hI 4 (by decide) (by decide)]; exact b1
  · rw [hI 122 (by decide) (by decide), hI 123 (by decide) (by decide)]; exact b2
  · unfold BG
    rw [e, F3.N, F3.S]
    exact b3
  · rcases q with q | q
    · exact Or.inr (by have := q.1; omega)
    · exact Or.inl (by have : o = 120 := q; omega)
theorem c_keep (h : JC σ S c) (hc : Cn (sA S)) (hn : 1000 < n) (hcc : c ≤ 100000) : wp (fX0_keep n 120 5 σ) (fun σ' => JC σ' (keepS S) c ∧ FC σ σ') := by
  obtain ⟨hM, hV⟩ := h
  have hM0 := hM
  obtain ⟨a1, a2, a3, ⟨a4, a5, nx, a6, a7, a8⟩, a9, b1, b2, ⟨b3, b4, b5⟩⟩ := hM
  have kx : kpo σ nx = zR σ 121 nx := if_pos a6
  unfold fX0_keep
  refine wpE (zgR_e a1.2.2.1.1 a1.2.2.1.2.1) ?_
  refine wpE (zgI_e a1.2.2.1.1 a7) ?_
  refine wpE (zaRN_e a1.2.2.1.2.2.1 a1.2.2.1.2.2.2 a6 (by decide) kx.symm) ?_
  have inx : ∀ m, m < 10 → Int32.ofNat nx = Int32.ofNat m → m = nx := fun m hm hh => by
    have := congrArg Int32.toNatClampNeg hh
    rw [io_nat (by omega), io_nat (by omega)] at this
    exact this.symm
  by_cases hz : kpo σ nx = 0
  · refine wpE (if_pos hz) ?_
    refine wpE (zgR_e a1.2.2.1.1 a1.2.2.1.2.1) ?_
    refine wpE (zgI_e a1.2.2.1.1 a7) ?_
    have hnl : 1 ≤ nlz (kpo σ) 11 := by
      have e := nlz_fill (f := kpo σ) (g := fun i => if i = nx then 1 else kpo σ i) hz (by rw [if_pos rfl]; decide) (fun i hi => if_neg hi) 11 (by omega)
      omega
    refine wpE (znO_e (by omega) (by omega)) ?_
    refine wpE (if_neg (by omega)) ?_
    have g1 : Gr σ (nw σ 4 7) 1 7 (fun _ => False) := Gr.nw
    have N1 := g1.1
    have S1 := g1.2.1
    have k4 : zK (nw σ 4 7) (zN σ + 4) = 4 := by rw [nw_K, if_pos rfl]
    have i4 : zI (nw σ 4 7) (zN σ + 4) = fun _ => 0 := by rw [nw_I, if_pos rfl]
    obtain ⟨σ2, e2, g2, r2⟩ := c_initSale (n := n) (σ := nw σ 4 7) (s := zN σ + 4) (a1.2.2.2.2.gr g1 (fun q => q) (fun q => q)) k4 i4 (by omega) (by omega) (by omega) (by omega) hn
    refine wpE (zb_e e2) ?_
    have g12 : Gr σ σ2 112 2103 (fun _ => False) := g1.trans g2 (fun o ho _ => ⟨fun q => q, by omega⟩)
    have K121 : zK σ2 121 = 26 := (g12.K (by omega)).trans a1.2.2.1.2.2.1
    have L121 : zL σ2 121 = 10 := (g12.L (by omega)).trans a1.2.2.1.2.2.2
    refine wpE (zsR_e K121 (by rw [r2.1.kS]) L121 a6 (by decide)) ?_
    have g13 : Gr σ (stR σ2 121 nx (zN σ + 4)) 112 2103 (fun o => o = 121 ∨ o = 4) := g12.trans Gr.sR (fun o ho h => ⟨fun q => q, fun q => h (Or.inl q)⟩)
    have R2 : zR σ2 121 = zR σ 121 := g12.R (by omega) (fun q => q)
    have R4 : zR σ2 4 = zR σ 4 := g12.R (by omega) (fun q => q)
    have hk : ∀ i, i < 11 → kpo (stR σ2 121 nx (zN σ + 4)) i = if i = nx then zN σ + 4 else kpo σ i := by
      intro i hi
      unfold kpo
      by_cases h10 : i < 10
      · rw [if_pos h10, if_pos h10, sR_R, R2]
        by_cases e : i = nx
        · rw [if_pos ⟨rfl, e⟩, if_pos e]
        · rw [if_neg (fun q => e q.2), if_neg e]
      · rw [if_neg h10, if_neg h10, sR_R, if_neg (by omega), R4, if_neg (by omega)]
    have r3 : Rep (stR σ2 121 nx (zN σ + 4)) (zN σ + 4) row0 := by
      refine ⟨?_, r2.2⟩
      have gR : ∀ o, o ≠ 121 → zR (stR σ2 121 nx (zN σ + 4)) o = zR σ2 o := fun o ho => sR_Rne ho
      obtain ⟨s1, s2, s3, ⟨s4, s5⟩, s6⟩ := r2.1
      have lo4 : ∀ i, lo (zN σ + 4) i = zN σ + 4 + (12 + 5 * i) := fun i => rfl
      refine ⟨?_, ?_, s3, ⟨s4, fun q hq => ?_⟩, fun i hi => ?_⟩
      · rw [gR _ (by omega)]; exact s1
      · rw [gR _ (by omega)]; exact s2
      · rw [gR _ (by omega)]; exact s5 q hq
      · rw [gR _ (by omega), gR _ (by rw [lo4]; omega)]; exact s6 i hi
    have J3 := hM0.new (by omega) hz g13 ⟨g12.I (by omega) (fun q => q), g12.I (by omega) (fun q => q)⟩ hk (fun k hk4 => by rw [sR_R, if_neg (by omega), R4]) r3
    have FC3 : FC σ (stR σ2 121 nx (zN σ + 4)) := g13.fc (by omega) (fun o q => Or.inl (by omega))
    have V3 : zR (stR σ2 121 nx (zN σ + 4)) 4 = zR σ 4 := by rw [sR_Rne (by decide), R4]
    have I3 : zI (stR σ2 121 nx (zN σ + 4)) 120 = zI σ 120 := g12.I (by omega) (fun q => q)
    obtain ⟨σ4, e4, j4, f4, x4⟩ := c_keep28 (n := n) J3 hc hn (fun m hm hm2 => by
      rw [I3, a7] at hm2
      rw [inx m hm hm2, hk nx (by omega), if_pos rfl]
      omega)
    refine ⟨σ4, e4, ⟨j4, fun q => ?_⟩, FC3.trans f4⟩
    rw [x4, V3]
    exact hV q
  · refine wpE (if_neg hz) ?_
    obtain ⟨σ4, e4, j4, f4, x4⟩ := c_keep28 (n := n) hM0 hc hn (fun m hm hm2 => by
      rw [a7] at hm2
      rw [inx m hm hm2]
      exact hz)
    refine ⟨σ4, e4, ⟨j4, fun q => ?_⟩, f4⟩
    rw [x4]
    exact hV q
/-! the reference's -/
theorem io_17928 {k : Nat} (hk : k < 100000) : (Int32.ofNat k < 17928) = (k < 17928) := by rw [show (17928 : Int32) = Int32.ofNat 17928 from rfl, io_lt (by omega) (by omega)]
theorem io_1992 {k : Nat} (hk : k < 100000) : (Int32.ofNat k < 1992) = (k < 1992) := by rw [show (1992 : Int32) = Int32.ofNat 1992 from rfl, io_lt (by omega) (by omega)]
theorem ix92 {i : Nat} : 1992 + Int32.ofNat i = Int32.ofNat (1992 + i) := ixl (c := 1992)
theorem ix92m {i j : Nat} : 1992 * Int32.ofNat i + Int32.ofNat j = Int32.ofNat (1992 * i + j) := by rw [show (1992 : Int32) = Int32.ofNat 1992 from rfl, ixm, ixl]
theorem LM.fr {P : Nat → Prop} {σ σ' : zW} (h : LM σ) (hf : Fr P σ σ') : LM σ' := by
  unfold LM Rf
  rw [hf.K, hf.R, hf.L]
  exact h
theorem r_keep50 (h : LM σ) {pm : Nat} (hp : pm < 10) (h3 : zI σ 125 3 = Int32.ofNat pm) (hn : 30000 < n) : wp (sX8_keep_50 n 125 σ) (fun σ' => Fr (fun o => o = 127 ∨ o = 125) σ σ' ∧ (∀ j, j ≠ 3 → zI σ' 125 j = zI σ 125 j) ∧ zI σ' 125 3 = Int32.ofNat (pm + 1) ∧ ∀ j, zI σ' 127 j = if 1992 * pm ≤ j ∧ j < 1992 * pm + 1992 then zI σ 126 (j - 1992 * pm) else zI σ 127 j) := by
  have key : ∀ (d i k : Nat) (σ1 : zW), i + d = 1992 → d < k → Fr (fun o => o = 127) σ σ1 → (∀ j, zI σ1 127 j = if 1992 * pm ≤ j ∧ j < 1992 * pm + i then zI σ 126 (j - 1992 * pm) else zI σ 127 j) →
      wp (sX8_keep_52 n k 125 (Int32.ofNat i) σ1) (fun σ' => Fr (fun o => o = 127 ∨ o = 125) σ σ' ∧ (∀ j, j ≠ 3 → zI σ' 125 j = zI σ 125 j) ∧ zI σ' 125 3 = Int32.ofNat (pm + 1) ∧ ∀ j, zI σ' 127 j = if 1992 * pm ≤ j ∧ j < 1992 * pm + 1992 then zI σ 126 (j - 1992 * pm) else zI σ 127 j) := by
    intro d
    induction d with
    | zero =>
      intro i k σ1 hi hk hF hI
      obtain ⟨k, rfl⟩ : ∃ k', k = k' + 1 := ⟨k - 1, by omega⟩
      have hi : i = 1992 := by omega
      have L1 := h.fr hF
      have e5 : zI σ1 125 = zI σ 125 := hF.2 125 (by decide)
      rw [sX8_keep_52]
      refine wpE (if_neg (by rw [io_1992 (by omega)]; omega)) ?_
      refine wpE (zgI_e L1.1.kM ((congrFun e5 3).trans h3)) ?_
      refine wpE (zpI_e L1.1.kM io_succ) ?_
      refine wp_some ⟨(hF.mono (fun o q => Or.inl q)).trans (Fr.st (o := 125) (Or.inr rfl)), fun j hj => ?_, ?_, fun j => ?_⟩
      · rw [zI_st, if_neg (fun q => hj q.2), e5]
      · rw [zI_st, if_pos ⟨rfl, rfl⟩]
      · rw [zI_st_ne (by decide), hI j, hi]
    | succ d ih =>
      intro i k σ1 hi hk hF hI
      obtain ⟨k, rfl⟩ : ∃ k', k = k' + 1 := ⟨k - 1, by omega⟩
      have L1 := h.fr hF
      have e5 : zI σ1 125 = zI σ 125 := hF.2 125 (by decide)
      have e6 : zI σ1 126 = zI σ 126 := hF.2 126 (by decide)
      rw [sX8_keep_52]
      refine wpE (if_pos (by rw [io_1992 (by omega)]; omega)) ?_
      refine wpE (zgR_e L1.1.kM L1.2.1.1) ?_
      refine wpE (zgI_e L1.1.kM ((congrFun e5 3).trans h3)) ?_
      refine wpE (zgR_e L1.1.kM L1.1.rW) ?_
      refine wpE (zaN_e L1.1.kW L1.1.lW (show i < 1992 by omega) (by decide) (congrFun e6 i)) ?_
      rw [ix92m, io_succ]
      refine wpE (zsN_e L1.2.1.2.1 L1.2.1.2.2 (show 1992 * pm + i < 19920 by omega) (by decide) rfl) ?_
      refine ih (i + 1) k _ (by omega) (by omega) (hF.trans (Fr.st rfl)) (fun j => ?_)
      rw [zI_st]
      by_cases e : j = 1992 * pm + i
      · rw [if_pos ⟨rfl, e⟩, if_pos (by omega), e]
        congr 1
        omega
      · rw [if_neg (fun q => e q.2), hI j]
        by_cases g : 1992 * pm ≤ j ∧ j < 1992 * pm + i
        · rw [if_pos g, if_pos (by omega)]
        · rw [if_neg g, if_neg (by omega)]
  unfold sX8_keep_50
  exact key 1992 0 n σ (by omega) (by omega) Fr.refl (fun j => by rw [if_neg (by omega)])
theorem r_keep (h : JR σ S) (hn : 30000 < n) : wp (fX8_keep n 125 σ) (fun σ' => JR σ' (keepS S) ∧ Fr PR σ σ' ∧ ∀ j, j ≠ 3 → zI σ' 125 j = zI σ 125 j) := by
  obtain ⟨a1, a2, ⟨a3, a4, a5⟩, ⟨a6, a7⟩, a8, ⟨a9, b1⟩⟩ := h
  have fin : ∀ (σ1 : zW) (pm : Nat), pm = min (sPc S) 9 → Fr (fun o => o = 127 ∨ o = 125) σ σ1 → (∀ j, j ≠ 3 → zI σ1 125 j = zI σ 125 j) → zI σ1 125 3 = Int32.ofNat pm → (∀ k, k < pm → ∀ j, j < 1992 → zI σ1 127 (1992 * k + j) = if sPc S = 10 then sP S (k + 1) j else sP S k j) → wp (sX8_keep_50 n 125 σ1) (fun σ' => JR σ' (keepS S) ∧ Fr PR σ σ' ∧ ∀ j, j ≠ 3 → zI σ' 125 j = zI σ 125 j) := by
    intro σ1 pm hpm F1 i1 i3 i7
    obtain ⟨σ2, e2, F2, j1, j3, j7⟩ := r_keep50 (n := n) (a1.fr F1) (pm := pm) (by omega) i3 hn
    have FF : Fr (fun o => o = 127 ∨ o = 125) σ σ2 := F1.trans F2
    have e5 : ∀ j, j ≠ 3 → zI σ2 125 j = zI σ 125 j := fun j hj => (j1 j hj).trans (i1 j hj)
    have e6 : zI σ1 126 = zI σ 126 := F1.2 126 (by decide)
    refine ⟨σ2, e2, ⟨a1.fr FF, ?_, ⟨?_, ?_, fun k hk j hj => ?_⟩, ⟨?_, ?_⟩, ⟨?_, ?_⟩, ⟨?_, ?_⟩⟩, FF.mono (fun o q => ?_), e5⟩
    · rw [FF.2 126 (by decide)]; exact a2
    · rw [j3]
      show _ = Int32.ofNat (min (sPc S + 1) 10)
      rw [show pm + 1 = min (sPc S + 1) 10 by omega]
    · show min (sPc S + 1) 10 ≤ 10
      omega
    · have hk : k < min (sPc S + 1) 10 := hk
      show _ = (if k = min (sPc S) 9 then sA S else if sPc S = 10 then sP S (k + 1) else sP S k) j
      rw [j7, ← hpm]
      by_cases g : k = pm
      · rw [if_pos (by subst g; omega), if_pos g, e6, a2, show 1992 * k + j - 1992 * pm = j by subst g; omega]
      · rw [if_neg (by omega), if_neg g, i7 k (by omega) j hj]
        by_cases g2 : sPc S = 10
        · rw [if_pos g2, if_pos g2]
        · rw [if_neg g2, if_neg g2]
    · rw [e5 5 (by decide)]; exact a6
    · rw [FF.2 128 (by decide)]; exact a7
    · rw [e5 6 (by decide)]; exact a8.1
    · rw [e5 15 (by decide)]; exact a8.2
    · rw [e5 12 (by decide)]; exact a9
    · rw [FF.2 129 (by decide), e5 17 (by decide), FF.2 130 (by decide)]; exact b1
    · rcases q with q | q <;> (rw [q]; exact ⟨by decide, by decide⟩)
  have key : sPc S = 10 → ∀ (d i k : Nat) (σ1 : zW), i + d = 17928 → d < k → Fr (fun o => o = 127) σ σ1 → (∀ j, zI σ1 127 j = if j < i then zI σ 127 (1992 + j) else zI σ 127 j) →
      wp (sX8_keep_11 n k 125 (Int32.ofNat i) σ1) (fun σ' => JR σ' (keepS S) ∧ Fr PR σ σ' ∧ ∀ j, j ≠ 3 → zI σ' 125 j = zI σ 125 j) := by
    intro hpc d
    induction d with
    | zero =>
      intro i k σ1 hi hk hF hI
      obtain ⟨k, rfl⟩ : ∃ k', k = k' + 1 := ⟨k - 1, by omega⟩
      have hi : i = 17928 := by omega
      have L1 := a1.fr hF
      have e5 : zI σ1 125 = zI σ 125 := hF.2 125 (by decide)
      rw [sX8_keep_11]
      refine wpE (if_neg (by rw [io_17928 (by omega)]; omega)) ?_
      refine wpE (zgI_e L1.1.kM ((congrFun e5 3).trans a3)) ?_
      refine wpE (zpI_e L1.1.kM (io_one (by omega))) ?_
      refine fin _ (sPc S - 1) (by omega) ((hF.mono (fun o q => Or.inl q)).trans (Fr.st (o := 125) (Or.inr rfl))) (fun j hj => ?_) ?_ (fun k hk j hj => ?_)
      · rw [zI_st, if_neg (fun q => hj q.2), e5]
      · rw [zI_st, if_pos ⟨rfl, rfl⟩]
      · rw [zI_st_ne (by decide), hI, if_pos (by omega), if_pos hpc, show 1992 + (1992 * k + j) = 1992 * (k + 1) + j by omega]
        exact a5 (k + 1) (by omega) j hj
    | succ d ih =>
      intro i k σ1 hi hk hF hI
      obtain ⟨k, rfl⟩ : ∃ k', k = k' + 1 := ⟨k - 1, by omega⟩
      have L1 := a1.fr hF
      rw [sX8_keep_11]
      refine wpE (if_pos (by rw [io_17928 (by omega)]; omega)) ?_
      refine wpE (zgR_e L1.1.kM L1.2.1.1) ?_
      refine wpE (zgR_e L1.1.kM L1.2.1.1) ?_
      rw [ix92, io_succ]
      refine wpE (zaN_e L1.2.1.2.1 L1.2.1.2.2 (show 1992 + i < 19920 by omega) (by decide) (by rw [hI, if_neg (by omega)])) ?_
      refine wpE (zsN_e L1.2.1.2.1 L1.2.1.2.2 (show i < 19920 by omega) (by decide) rfl) ?_
      refine ih (i + 1) k _ (by omega) (by omega) (hF.trans (Fr.st rfl)) (fun j => ?_)
      rw [zI_st]
      by_cases e : j = i
      · rw [if_pos ⟨rfl, e⟩, if_pos (by omega), e]
      · rw [if_neg (fun q => e q.2), hI j]
        by_cases g : j < i
        · rw [if_pos g, if_pos (by omega)]
        · rw [if_neg g, if_neg (by omega)]
  unfold fX8_keep
  refine wpE (zgI_e a1.1.kM a3) ?_
  have e10 : (Int32.ofNat (sPc S) = 10) = (sPc S = 10) := io_eq (b := 10) (by omega) (by decide)
  by_cases hpc : sPc S = 10
  · refine wpE (if_pos (e10.symm ▸ hpc)) ?_
    exact key hpc 17928 0 n σ (by omega) (by omega) Fr.refl (fun j => by rw [if_neg (by omega)])
  · refine wpE (if_neg (fun q => hpc (e10 ▸ q))) ?_
    refine fin σ (sPc S) (by omega) Fr.refl (fun _ _ => rfl) a3 (fun k hk j hj => ?_)
    rw [if_neg hpc]
    exact a5 k hk j hj
end
