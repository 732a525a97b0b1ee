/-! ONE SALE TAKES OVER ANOTHER -/
theorem zI_sA {σ : zW} {o o' : Nat} {f : Nat → Int32} : zI (stA σ o f) o' = if o' = o then f else zI σ o' := by
  show va_up σ.1 o f o' = _
  unfold va_up
  rfl
theorem Fr.sA {P : Nat → Prop} {σ : zW} {o : Nat} {f : Nat → Int32} (h : P o) : Fr P σ (stA σ o f) := ⟨rfl, fun o' ho => by
  have hne : ¬ o' = o := fun e => ho (e ▸ h)
  rw [zI_sA, if_neg hne]⟩
theorem zcp_e {α : Type} {σ : zW} {r0 r1 L L0 L1 : Nat} {x : Int32} {c : zW → Option α} (h0 : zK σ r0 = 20) (h1 : zK σ r1 = 20) (hL0 : zL σ r0 = L0) (hL1 : zL σ r1 = L1) (hx : x = Int32.ofNat L) (h2 : L ≤ L0) (h3 : L ≤ L1) (h4 : L < 2147483648) : zcp σ r0 0 r1 0 x c = c (stA σ r1 (va_cpy (zI σ r0) (zI σ r1) 0 0 L)) := by
  subst hx
  have e0 : (0 : Int32).toNatClampNeg = 0 := rfl
  unfold zcp
  rw [e0, io_nat h4, if_pos ⟨⟨Or.inl h0, h1⟩, ⟨Int32.le_refl 0, Int32.le_refl 0, io_ge0 h4⟩, by rw [hL0]; omega, by rw [hL1]; omega⟩]
def Cpd (σ0 : zW) (p s : Nat) (D : Nat × Nat → Prop) (σ : zW) : Prop := Fr (Ps p) σ0 σ ∧ ∀ j, j < 1992 → D (slo j) → sl σ p j = sl σ0 s j
theorem Cpd.cI {σ0 σ : zW} {p s o k : Nat} {D : Nat × Nat → Prop} (hd : p + 112 ≤ s ∨ s + 112 ≤ p) (h : Cpd σ0 p s D σ) (ho : o < 112) {v : Int32} (hv : zI σ (s + o) k = v) : Cpd σ0 p s (fun q => D q ∨ q = (o, k)) (stI σ (p + o) k v) := by
  refine ⟨h.1.trans (Fr.st ⟨by omega, by omega⟩), fun j hj hD => ?_⟩
  have h1 := slo_lt j hj
  unfold sl
  rw [zI_st]
  by_cases e : slo j = (o, k)
  · have e1 : (slo j).1 = o := by rw [e]
    have e2 : (slo j).2 = k := by rw [e]
    rw [e1, e2, if_pos ⟨rfl, rfl⟩, ← hv, h.1.2 (s + o) (fun q => by have := q.1; have := q.2; omega)]
  · rw [if_neg]
    · rcases hD with hD | hD
      · exact h.2 j hj hD
      · exact absurd hD e
    · intro q
      exact e (Prod.ext (by have := q.1; show (slo j).1 = o; omega) q.2)
theorem Cpd.cA {σ0 σ : zW} {p s o L : Nat} {D : Nat × Nat → Prop} (hd : p + 112 ≤ s ∨ s + 112 ≤ p) (h : Cpd σ0 p s D σ) (ho : o < 112) : Cpd σ0 p s (fun q => D q ∨ (q.1 = o ∧ q.2 < L)) (stA σ (p + o) (va_cpy (zI σ (s + o)) (zI σ (p + o)) 0 0 L)) := by
  refine ⟨h.1.trans (Fr.sA ⟨by omega, by omega⟩), fun j hj hD => ?_⟩
  have h1 := slo_lt j hj
  unfold sl
  rw [zI_sA]
  by_cases e : (slo j).1 = o
  · rw [e, if_pos rfl]
    unfold va_cpy
    by_cases e2 : (slo j).2 < L
    · rw [if_pos ⟨Nat.zero_le _, by omega⟩, Nat.zero_add, Nat.sub_zero, h.1.2 (s + o) (fun q => by have := q.1; have := q.2; omega)]
    · rw [if_neg (by omega)]
      rcases hD with hD | hD
      · have := h.2 j hj hD
        unfold sl at this
        rw [e] at this
        exact this
      · exact absurd hD.2 e2
  · rw [if_neg (by omega)]
    rcases hD with hD | hD
    · exact h.2 j hj hD
    · exact absurd hD.1 e
theorem Cpd.mono {σ0 σ : zW} {p s : Nat} {D D' : Nat × Nat → Prop} (h : Cpd σ0 p s D σ) (hD : ∀ q, D' q → D q) : Cpd σ0 p s D' σ := ⟨h.1, fun j hj q => h.2 j hj (hD _ q)⟩
theorem Cpd.src {σ0 σ : zW} {p s : Nat} {a : Nat → Int32} {D : Nat × Nat → Prop} (hd : p + 112 ≤ s ∨ s + 112 ≤ p) (h : Cpd σ0 p s D σ) (hR : Rep σ0 s a) : Rep σ s a := hR.fr h.1 (fun o h1 h2 q => by have := q.1; have := q.2; omega)
/-- what is copied of a lot -/
def Dl (i : Nat) (q : Nat × Nat) : Prop := (q.1 = 12 + 5 * i ∧ 4 ≤ q.2 ∧ q.2 ≤ 11) ∨ (12 + 5 * i < q.1 ∧ q.1 ≤ 12 + 5 * i + 4 ∧ q.2 < 10)
section
variable {σ0 σ : zW} {p s n i : Nat} {a : Nat → Int32} {D : Nat × Nat → Prop}
theorem c_takeTable (hd : p + 112 ≤ s ∨ s + 112 ≤ p) (h : Cpd σ0 p s D σ) (hS : Sh σ0 s) (hp : Sh σ0 p) : wp (fX5_take n (p + 1) (s + 1) σ) (Cpd σ0 p s (fun q => ((D q ∨ q = (1, 2)) ∨ (q.1 = 2 ∧ q.2 < 6)) ∨ (q.1 = 3 ∧ q.2 < 6))) := by
  have hS1 := h.1.sh hS
  have hp1 := h.1.sh hp
  have c1 := h.cI (k := 2) hd (o := 1) (by decide) rfl
  have hS2 := c1.1.sh hS
  have hp2 := c1.1.sh hp
  have c2 := c1.cA (L := 6) hd (o := 2) (by decide)
  have hS3 := c2.1.sh hS
  have hp3 := c2.1.sh hp
  have c3 := c2.cA (L := 6) hd (o := 3) (by decide)
  unfold fX5_take
  refine wpE (zgI_e hS1.kT rfl) ?_
  refine wpE (zpI_e hp1.kT rfl) ?_
  refine wpE (zgR_e hS2.kT hS2.rT0) ?_
  refine wpE (zgR_e hp2.kT hp2.rT0) ?_
  refine wpE (zcp_e (L := 6) hS2.kB hp2.kB hS2.lB hp2.lB rfl (by decide) (by decide) (by decide)) ?_
  refine wpE (zgR_e hS3.kT hS3.rT1) ?_
  refine wpE (zgR_e hp3.kT hp3.rT1) ?_
  refine wpE (zcp_e (L := 6) hS3.kC hp3.kC hS3.lC hp3.lC rfl (by decide) (by decide) (by decide)) ?_
  exact wp_some c3
theorem c_takeLedger (hd : p + 112 ≤ s ∨ s + 112 ≤ p) (h : Cpd σ0 p s D σ) (hR : Rep σ0 s a) (hc : Cn a) (hp : Sh σ0 p) : wp (fX1_take n (p + 7) (s + 7) σ) (Cpd σ0 p s (fun q => ((((D q ∨ q = (7, 4)) ∨ (q.1 = 8 ∧ q.2 < kp a)) ∨ (q.1 = 9 ∧ q.2 < kp a)) ∨ (q.1 = 10 ∧ q.2 < kp a)) ∨ (q.1 = 11 ∧ q.2 < kp a))) := by
  obtain ⟨-, -, h991, hkp⟩ := hc
  have hS := hR.1
  have r1 := h.src hd hR
  have hp1 := h.1.sh hp
  have c1 := h.cI (k := 4) hd (o := 7) (by decide) rfl
  have r2 := c1.src hd hR
  have hp2 := c1.1.sh hp
  have c2 := c1.cA (L := kp a) hd (o := 8) (by decide)
  have r3 := c2.src hd hR
  have hp3 := c2.1.sh hp
  have c3 := c2.cA (L := kp a) hd (o := 9) (by decide)
  have r4 := c3.src hd hR
  have hp4 := c3.1.sh hp
  have c4 := c3.cA (L := kp a) hd (o := 10) (by decide)
  have r5 := c4.src hd hR
  have hp5 := c4.1.sh hp
  have c5 := c4.cA (L := kp a) hd (o := 11) (by decide)
  unfold fX1_take
  refine wpE (zgI_e r1.1.kG rfl) ?_
  refine wpE (zpI_e hp1.kG rfl) ?_
  refine wpE (zgR_e r2.1.kG r2.1.rG0) ?_
  refine wpE (zgR_e hp2.kG hp2.rG0) ?_
  refine wpE (zgI_e r2.1.kG (r2.kept.trans h991)) ?_
  refine wpE (zcp_e (L := kp a) r2.1.kG0 hp2.kG0 r2.1.lG0 hp2.lG0 rfl hkp hkp (by omega)) ?_
  refine wpE (zgR_e r3.1.kG r3.1.rG1) ?_
  refine wpE (zgR_e hp3.kG hp3.rG1) ?_
  refine wpE (zgI_e r3.1.kG (r3.kept.trans h991)) ?_
  refine wpE (zcp_e (L := kp a) r3.1.kG1 hp3.kG1 r3.1.lG1 hp3.lG1 rfl hkp hkp (by omega)) ?_
  refine wpE (zgR_e r4.1.kG r4.1.rG2) ?_
  refine wpE (zgR_e hp4.kG hp4.rG2) ?_
  refine wpE (zgI_e r4.1.kG (r4.kept.trans h991)) ?_
  refine wpE (zcp_e (L := kp a) r4.1.kG2 hp4.kG2 r4.1.lG2 hp4.lG2 rfl hkp hkp (by omega)) ?_
  refine wpE (zgR_e r5.1.kG r5.1.rG3) ?_
  refine wpE (zgR_e hp5.kG hp5.rG3) ?_
  refine wpE (zgI_e r5.1.kG (r5.kept.trans h991)) ?_
  refine wpE (zcp_e (L := kp a) r5.1.kG3 hp5.kG3 r5.1.lG3 hp5.lG3 rfl hkp hkp (by omega)) ?_
  exact wp_some c5
theorem Cpd.lI {k : Nat} (hd : p + 112 ≤ s ∨ s + 112 ≤ p) (h : Cpd σ0 p s D σ) (hi : i < 20) : Cpd σ0 p s (fun q => D q ∨ q = (12 + 5 * i, k)) (stI σ (lo p i) k (zI σ (lo s i) k)) := h.cI hd (by omega) rfl
theorem Cpd.lA {o : Nat} (hd : p + 112 ≤ s ∨ s + 112 ≤ p) (h : Cpd σ0 p s D σ) (hi : i < 20) (ho : o < 5) : Cpd σ0 p s (fun q => D q ∨ (q.1 = 12 + 5 * i + o ∧ q.2 < 10)) (stA σ (lo p i + o) (va_cpy (zI σ (lo s i + o)) (zI σ (lo p i + o)) 0 0 10)) := by
  have := h.cA (o := 12 + 5 * i + o) (L := 10) hd (by omega)
  rw [show p + (12 + 5 * i + o) = lo p i + o by unfold lo; omega, show s + (12 + 5 * i + o) = lo s i + o by unfold lo; omega] at this
  exact this
theorem c_takeLot (hd : p + 112 ≤ s ∨ s + 112 ≤ p) (h : Cpd σ0 p s D σ) (hS : Sh σ0 s) (hp : Sh σ0 p) (hi : i < 20) : wp (fX2_take n (lo p i) (lo s i) σ) (Cpd σ0 p s (fun q => D q ∨ Dl i q)) := by
  have kS : zK σ (lo s i) = 3 := (h.1.sh hS).kL hi
  have kP : zK σ (lo p i) = 3 := (h.1.sh hp).kL hi
  have c1 := h.lI (k := 4) hd hi
  have c2 := c1.lI (k := 5) hd hi
  have c3 := c2.lI (k := 6) hd hi
  have c4 := c3.lI (k := 7) hd hi
  have c5 := c4.lI (k := 8) hd hi
  have c6 := c5.lI (k := 9) hd hi
  have c7 := c6.lI (k := 10) hd hi
  have c8 := c7.lI (k := 11) hd hi
  unfold fX2_take
  refine wpE (zgI_e kS rfl) ?_
  refine wpE (zpI_e kP rfl) ?_
  refine wpE (zgI_e kS rfl) ?_
  refine wpE (zpI_e kP rfl) ?_
  refine wpE (zgI_e kS rfl) ?_
  refine wpE (zpI_e kP rfl) ?_
  refine wpE (zgI_e kS rfl) ?_
  refine wpE (zpI_e kP rfl) ?_
  refine wpE (zgI_e kS rfl) ?_
  refine wpE (zpI_e kP rfl) ?_
  refine wpE (zgI_e kS rfl) ?_
  refine wpE (zpI_e kP rfl) ?_
  refine wpE (zgI_e kS rfl) ?_
  refine wpE (zpI_e kP rfl) ?_
  refine wpE (zgI_e kS rfl) ?_
  refine wpE (zpI_e kP rfl) ?_
  generalize stI (stI (stI (stI (stI (stI (stI (stI σ (lo p i) 4 _) (lo p i) 5 _) (lo p i) 6 _) (lo p i) 7 _) (lo p i) 8 _) (lo p i) 9 _) (lo p i) 10 _) (lo p i) 11 _ = σ8 at c8 ⊢
  have s8 := c8.1.sh hS
  have p8 := c8.1.sh hp
  have c9 := c8.lA hd hi (o := 1) (by decide)
  refine wpE (zgR_e (s8.kL hi) (s8.rL0 hi)) ?_
  refine wpE (zgR_e (p8.kL hi) (p8.rL0 hi)) ?_
  refine wpE (zcp_e (L := 10) (s8.kL0 hi) (p8.kL0 hi) (s8.lL0 hi) (p8.lL0 hi) rfl (by decide) (by decide) (by decide)) ?_
  have s9 := c9.1.sh hS
  have p9 := c9.1.sh hp
  have cA := c9.lA hd hi (o := 2) (by decide)
  refine wpE (zgR_e (s9.kL hi) (s9.rL1 hi)) ?_
  refine wpE (zgR_e (p9.kL hi) (p9.rL1 hi)) ?_
  refine wpE (zcp_e (L := 10) (s9.kL1 hi) (p9.kL1 hi) (s9.lL1 hi) (p9.lL1 hi) rfl (by decide) (by decide) (by decide)) ?_
  have sA := cA.1.sh hS
  have pA := cA.1.sh hp
  have cB := cA.lA hd hi (o := 3) (by decide)
  refine wpE (zgR_e (sA.kL hi) (sA.rL2 hi)) ?_
  refine wpE (zgR_e (pA.kL hi) (pA.rL2 hi)) ?_
  refine wpE (zcp_e (L := 10) (sA.kL2 hi) (pA.kL2 hi) (sA.lL2 hi) (pA.lL2 hi) rfl (by decide) (by decide) (by decide)) ?_
  have sB := cB.1.sh hS
  have pB := cB.1.sh hp
  have cC := cB.lA hd hi (o := 4) (by decide)
  refine wpE (zgR_e (sB.kL hi) (sB.rL3 hi)) ?_
  refine wpE (zgR_e (pB.kL hi) (pB.rL3 hi)) ?_
  refine wpE (zcp_e (L := 10) (sB.kL3 hi) (pB.kL3 hi) (sB.lL3 hi) (pB.lL3 hi) rfl (by decide) (by decide) (by decide)) ?_
  refine wp_some (cC.mono fun q hq => ?_)
  rcases hq with hq | hq | hq
  · simp only [hq, true_or]
  · obtain ⟨q1, q2, q3⟩ := hq
    obtain ⟨qa, qb⟩ := q
    have q1 : qa = 12 + 5 * i := q1
    have q2 : 4 ≤ qb := q2
    have q3 : qb ≤ 11 := q3
    subst q1
    have : qb = 4 ∨ qb = 5 ∨ qb = 6 ∨ qb = 7 ∨ qb = 8 ∨ qb = 9 ∨ qb = 10 ∨ qb = 11 := by omega
    rcases this with rfl | rfl | rfl | rfl | rfl | rfl | rfl | rfl <;> simp only [true_or, or_true]
  · obtain ⟨q1, q2, q3⟩ := hq
    have : q.1 = 12 + 5 * i + 1 ∨ q.1 = 12 + 5 * i + 2 ∨ q.1 = 12 + 5 * i + 3 ∨ q.1 = 12 + 5 * i + 4 := by omega
    rcases this with g | g | g | g
    · exact Or.inl (Or.inl (Or.inl (Or.inr ⟨g, q3⟩)))
    · exact Or.inl (Or.inl (Or.inr ⟨g, q3⟩))
    · exact Or.inl (Or.inr ⟨g, q3⟩)
    · exact Or.inr ⟨g, q3⟩
/-- what is copied of a Sale of M lots and K events -/
def Df (M K : Nat) (q : Nat × Nat) : Prop := (q.1 = 0 ∧ (q.2 = 5 ∨ q.2 = 6)) ∨ q = (1, 2) ∨ ((q.1 = 2 ∨ q.1 = 3 ∨ q.1 = 5) ∧ q.2 < 6) ∨ (q.1 = 4 ∧ q.2 < 10) ∨ q = (7, 4) ∨ (8 ≤ q.1 ∧ q.1 < 12 ∧ q.2 < K) ∨ ∃ i, i < M ∧ Dl i q
theorem slp_in {r : Nat} (h : r < 8) : 4 ≤ slp r ∧ slp r ≤ 11 := by
  have : (List.range 8).all (fun r => decide (4 ≤ slp r ∧ slp r ≤ 11)) = true := by decide
  simpa using List.all_eq_true.mp this r (List.mem_range.mpr h)
theorem Df_vis {j : Nat} (h : Vis a j) : Df (mk a) (kp a) (slo j) := by
  obtain ⟨v1, v2, v3, v4⟩ := h
  have e1 : (a 23).toNatClampNeg = mk a := rfl
  have e2 : (a 991).toNatClampNeg = kp a := rfl
  rw [e1] at v2 v3
  rw [e2] at v4
  unfold slo
  by_cases h0 : j = 0
  · rw [if_pos h0]; exact Or.inr (Or.inl rfl)
  · rw [if_neg h0]
    by_cases h7 : j < 7
    · rw [if_pos h7]; exact Or.inr (Or.inr (Or.inl ⟨Or.inl rfl, by show j - 1 < 6; omega⟩))
    · rw [if_neg h7]
      by_cases h13 : j < 13
      · rw [if_pos h13]; exact Or.inr (Or.inr (Or.inl ⟨Or.inr (Or.inl rfl), by show j - 7 < 6; omega⟩))
      · rw [if_neg h13]
        by_cases h23 : j < 23
        · rw [if_pos h23]; exact Or.inr (Or.inr (Or.inr (Or.inl ⟨rfl, by show j - 13 < 10; omega⟩)))
        · rw [if_neg h23]
          by_cases h24 : j = 23
          · rw [if_pos h24]; exact Or.inl ⟨rfl, Or.inl rfl⟩
          · rw [if_neg h24]
            by_cases h184 : j < 184
            · rw [if_pos h184]
              have := slp_in (r := (j - 24) % 8) (Nat.mod_lt _ (by decide))
              exact Or.inr (Or.inr (Or.inr (Or.inr (Or.inr (Or.inr ⟨(j - 24) / 8, v2 (by omega) h184, Or.inl ⟨rfl, this.1, this.2⟩⟩)))))
            · rw [if_neg h184]
              by_cases h984 : j < 984
              · rw [if_pos h984]
                refine Or.inr (Or.inr (Or.inr (Or.inr (Or.inr (Or.inr ⟨(j - 184) % 200 / 10, v3 (by omega) h984, Or.inr ⟨?_, ?_, ?_⟩⟩)))))
                · show 12 + 5 * ((j - 184) % 200 / 10) < 13 + 5 * ((j - 184) % 200 / 10) + (j - 184) / 200; omega
                · show 13 + 5 * ((j - 184) % 200 / 10) + (j - 184) / 200 ≤ 12 + 5 * ((j - 184) % 200 / 10) + 4; omega
                · show (j - 184) % 10 < 10; omega
              · rw [if_neg h984]
                by_cases h985 : j = 984
                · rw [if_pos h985]; exact Or.inl ⟨rfl, Or.inr rfl⟩
                · rw [if_neg h985]
                  by_cases h991 : j < 991
                  · rw [if_pos h991]; exact Or.inr (Or.inr (Or.inl ⟨Or.inr (Or.inr rfl), by show j - 985 < 6; omega⟩))
                  · rw [if_neg h991]
                    by_cases h992 : j = 991
                    · rw [if_pos h992]; exact Or.inr (Or.inr (Or.inr (Or.inr (Or.inl rfl))))
                    · rw [if_neg h992]
                      refine Or.inr (Or.inr (Or.inr (Or.inr (Or.inr (Or.inl ⟨?_, ?_, v4 (by omega)⟩)))))
                      · show 8 ≤ 8 + (j - 992) % 4; omega
                      · show 8 + (j - 992) % 4 < 12; omega
theorem c_take (hR : Rep σ s a) (hp : Sh σ p) (hc : Cn a) (hn : 1000 < n) (hd : p + 112 ≤ s ∨ s + 112 ≤ p) : wp (fX3_take n p s σ) (Wr σ p a) := by
  have hS := hR.1
  have hcc := hc
  obtain ⟨h23, hm, h991, hkp⟩ := hc
  have fin : ∀ (D : Nat × Nat → Prop) (σ1 : zW), Cpd σ p s D σ1 → (∀ q, Df (mk a) (kp a) q → D q) → Wr σ p a σ1 := fun D σ1 hD hq => ⟨hD.1, hD.1.sh hp, fun j hj => by
    rw [hD.2 j hj.1 (hq _ (Df_vis hj))]
    exact hR.2 j hj⟩
  have key : ∀ (D : Nat × Nat → Prop) (d i k : Nat) (σ1 : zW), i + d = mk a → d < k → Cpd σ p s (fun q => D q ∨ ∃ i', i' < i ∧ Dl i' q) σ1 → (∀ q, Df (mk a) (kp a) q → D q ∨ (q.1 = 0 ∧ (q.2 = 5 ∨ q.2 = 6)) ∨ q = (7, 4) ∨ (8 ≤ q.1 ∧ q.1 < 12 ∧ q.2 < kp a) ∨ ∃ i', i' < mk a ∧ Dl i' q) → wp (sX3_take_43 n k p s (Int32.ofNat i) σ1) (Wr σ p a) := by
    intro D d
    induction d with
    | zero =>
      intro i k σ1 hi hk hC hfin
      obtain ⟨k, rfl⟩ : ∃ k', k = k' + 1 := ⟨k - 1, by omega⟩
      have hi : i = mk a := by omega
      subst hi
      have r1 := hC.src hd hR
      have p1 := hC.1.sh hp
      rw [sX3_take_43]
      refine wpE (zgI_e r1.1.kS (r1.cnt.trans h23)) ?_
      refine wpE (if_neg (by rw [io_lt (by omega) (by omega)]; omega)) ?_
      refine wpE (zgR_e p1.kS p1.r4) ?_
      refine wpE (zgR_e r1.1.kS r1.1.r4) ?_
      refine wpE (zck_e p1.kG) ?_
      obtain ⟨σ2, e2, c2⟩ := c_takeLedger (n := n) hd hC hR hcc hp
      refine wpE (zb_e e2) ?_
      have r2 := c2.src hd hR
      have p2 := c2.1.sh hp
      have c3 := c2.cI (k := 5) hd (o := 0) (by decide) rfl
      refine wpE (zgI_e r2.1.kS rfl) ?_
      refine wpE (zpI_e p2.kS rfl) ?_
      have r3 := c3.src hd hR
      have p3 := c3.1.sh hp
      have c4 := c3.cI (k := 6) hd (o := 0) (by decide) rfl
      refine wpE (zgI_e r3.1.kS rfl) ?_
      refine wpE (zpI_e p3.kS rfl) ?_
      refine wp_some (fin _ _ c4 fun q hq => ?_)
      rcases hfin q hq with g | g | g | g | g
      · simp only [g, true_or]
      · obtain ⟨g1, g2 | g2⟩ := g
        · exact Or.inl (Or.inr (Prod.ext g1 g2))
        · exact Or.inr (Prod.ext g1 g2)
      · simp only [g, true_or, or_true]
      · obtain ⟨g1, g2, g3⟩ := g
        have : q.1 = 8 ∨ q.1 = 9 ∨ q.1 = 10 ∨ q.1 = 11 := by omega
        rcases this with t | t | t | t
        · exact Or.inl (Or.inl (Or.inl (Or.inl (Or.inl (Or.inr ⟨t, g3⟩)))))
        · exact Or.inl (Or.inl (Or.inl (Or.inl (Or.inr ⟨t, g3⟩))))
        · exact Or.inl (Or.inl (Or.inl (Or.inr ⟨t, g3⟩)))
        · exact Or.inl (Or.inl (Or.inr ⟨t, g3⟩))
      · exact Or.inl (Or.inl (Or.inl (Or.inl (Or.inl (Or.inl (Or.inl (Or.inr g)))))))
    | succ d ih =>
      intro i k σ1 hi hk hC hfin
      obtain ⟨k, rfl⟩ : ∃ k', k = k' + 1 := ⟨k - 1, by omega⟩
      have r1 := hC.src hd hR
      have p1 := hC.1.sh hp
      have hi20 : i < 20 := by omega
      rw [sX3_take_43]
      refine wpE (zgI_e r1.1.kS (r1.cnt.trans h23)) ?_
      refine wpE (if_pos (by rw [io_lt (by omega) (by omega)]; omega)) ?_
      refine wpE (zgR_e p1.kS p1.r3) ?_
      refine wpE (zaRN_e p1.kO p1.lO hi20 (by decide) (p1.rL hi20)) ?_
      refine wpE (zgR_e r1.1.kS r1.1.r3) ?_
      refine wpE (zaRN_e r1.1.kO r1.1.lO hi20 (by decide) (r1.1.rL hi20)) ?_
      refine wpE (zck_e (p1.kL hi20)) ?_
      obtain ⟨σ2, e2, c2⟩ := c_takeLot (n := n) hd hC hS hp hi20
      refine wpE (zb_e e2) ?_
      rw [io_succ]
      refine ih (i + 1) k σ2 (by omega) (by omega) (c2.mono fun q hq => ?_) hfin
      rcases hq with hq | ⟨i', h1, h2⟩
      · exact Or.inl (Or.inl hq)
      · by_cases e : i' = i
        · exact Or.inr (e ▸ h2)
        · exact Or.inl (Or.inr ⟨i', by omega, h2⟩)
  have c0 : Cpd σ p s (fun _ => False) σ := ⟨Fr.refl, fun _ _ q => q.elim⟩
  unfold fX3_take
  refine wpE (zgR_e hp.kS hp.r0) ?_
  refine wpE (zgR_e hS.kS hS.r0) ?_
  refine wpE (zck_e hp.kT) ?_
  obtain ⟨σ1, e1, c1⟩ := c_takeTable (n := n) hd c0 hS hp
  refine wpE (zb_e e1) ?_
  have r1 := c1.src hd hR
  have p1 := c1.1.sh hp
  have c2 := c1.cA (L := 10) hd (o := 4) (by decide)
  refine wpE (zgR_e r1.1.kS r1.1.r1) ?_
  refine wpE (zgR_e p1.kS p1.r1) ?_
  refine wpE (zcp_e (L := 10) r1.1.kR p1.kR r1.1.lR p1.lR rfl (by decide) (by decide) (by decide)) ?_
  have r2 := c2.src hd hR
  have p2 := c2.1.sh hp
  have c3 := c2.cA (L := 6) hd (o := 5) (by decide)
  refine wpE (zgR_e r2.1.kS r2.1.r2) ?_
  refine wpE (zgR_e p2.kS p2.r2) ?_
  refine wpE (zcp_e (L := 6) r2.1.kF p2.kF r2.1.lF p2.lF rfl (by decide) (by decide) (by decide)) ?_
  refine key (fun q => ((((False ∨ q = (1, 2)) ∨ q.1 = 2 ∧ q.2 < 6) ∨ q.1 = 3 ∧ q.2 < 6) ∨ q.1 = 4 ∧ q.2 < 10) ∨ q.1 = 5 ∧ q.2 < 6) (mk a) 0 n _ (by omega) (by omega) (c3.mono fun q hq => ?_) fun q hq => ?_
  · rcases hq with hq | ⟨i', h1, -⟩
    · exact hq
    · omega
  · rcases hq with g | g | ⟨g, g2⟩ | g | g | g | g
    · exact Or.inr (Or.inl g)
    · simp only [g, true_or, or_true]
    · rcases g with g | g | g
      · exact Or.inl (Or.inl (Or.inl (Or.inl (Or.inr ⟨g, g2⟩))))
      · exact Or.inl (Or.inl (Or.inl (Or.inr ⟨g, g2⟩)))
      · exact Or.inl (Or.inr ⟨g, g2⟩)
    · exact Or.inl (Or.inl (Or.inr g))
    · exact Or.inr (Or.inr (Or.inl g))
    · exact Or.inr (Or.inr (Or.inr (Or.inl g)))
    · exact Or.inr (Or.inr (Or.inr (Or.inr g)))
end
