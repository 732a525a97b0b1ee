/-! THE LAW'S LOOP -/
section
variable {σ τ : zW} {S S' : St} {c n L : Nat} {xs : Nat → Int32} {r28 : Nat → Nat → Nat → Nat → Nat → Int32 → zW → Option (Int32 × zW)}
theorem NXT.ite {P : Prop} [Decidable P] {A B : Option (Int32 × zW)} (hA : NXT r28 c L xs A) (hB : NXT r28 c L xs B) : NXT r28 c L xs (if P then A else B) := by
  by_cases h : P
  · rw [if_pos h]; exact hA
  · rw [if_neg h]; exact hB
theorem lp_end (hL : L ≤ 2560) (hc : c ≤ 513) : (Int32.ofNat L - 5 < Int32.ofNat (5 * c)) = (L < 5 * c + 5) := by
  by_cases h : 5 ≤ L
  · rw [show (5 : Int32) = Int32.ofNat 5 from rfl, io_sub h, io_lt (by omega) (by omega)]
    exact propext ⟨fun _ => by omega, fun _ => by omega⟩
  · refine propext ⟨fun _ => by omega, fun _ => ?_⟩
    have h0 : (0 : Int32) ≤ Int32.ofNat (5 * c) := io_ge0 (by omega)
    have h1 : Int32.ofNat L - 5 < 0 := by
      rcases (show L = 0 ∨ L = 1 ∨ L = 2 ∨ L = 3 ∨ L = 4 by omega) with rfl | rfl | rfl | rfl | rfl <;> decide
    have a0 := Int32.le_iff_toInt_le.mp h0
    have a1 := Int32.lt_iff_toInt_lt.mp h1
    exact Int32.lt_iff_toInt_lt.mpr (by omega)
theorem lp_step (h : JJ σ S c L xs) (hL : L ≤ 2560) (hi : 5 * c + 4 < L) (hn : 30000 < n) (k : Nat) : NXT (sL_law_28 n k) c L xs (sL_law_28 n (k + 1) 3 4 125 131 132 (Int32.ofNat (5 * c)) σ) := by
  have hcc : c ≤ 512 := by omega
  rw [sL_law_28]
  refine NXT.e ((zlen_e (Or.inr h.1.1) h.1.2.1).trans (if_neg (fun z => by rw [lp_end hL (by omega)] at z; omega))) ?_
  have e0 : zaI σ 3 (Int32.ofNat (5 * c)) = fun (f : Int32 → Option (Int32 × zW)) => f (xs (5 * c)) := by
    funext f
    have := zaS_e (c := f) (q := 0) h.1 (show 5 * c + 0 < L by omega) hL
    rw [show Int32.ofNat (5 * c) + Int32.ofNat 0 = Int32.ofNat (5 * c) from Int32.add_zero _] at this
    exact this
  refine NXT.e (congrFun e0 _) ?_
  exact (lg_220 h hL hi hcc hn).ite
    ((lg_300 h hL hi hcc hn).ite
    ((lg_368 h hL hi hcc hn).ite
    ((lg_424 h hL hi hcc hn).ite
    ((lg_504 h hL hi hcc hn).ite
    ((lg_572 h hL hi hcc hn).ite
    ((lg_628 h hL hi hcc hn).ite
    ((lg_684 h hL hi hcc hn).ite
    ((lg_752 h hL hi hcc hn).ite
    ((lg_832 h hL hi hcc hn).ite
    ((lg_900 h hL hi hcc hn).ite
    ((lg_968 h hL hi hcc hn).ite
    ((lg_1024 h hL hi hcc hn).ite
    ((lg_1080 h hL hi hcc hn).ite
    ((lg_1160 h hL hi hcc hn).ite
    ((lg_1204 h hL hi hcc hn).ite
    ((lg_1312 h hL hi hcc hn).ite
    ((lg_1380 h hL hi hcc hn).ite
    ((lg_1460 h hL hi hcc hn).ite
    ((lg_1540 h hL hi hcc hn).ite
    ((lg_1596 h hL hi hcc hn).ite
    ((lg_1652 h hL hi hcc hn).ite
    ((lg_1720 h hL hi hcc hn).ite
    ((lg_1788 h hL hi hcc hn).ite
    ((lg_1856 h hL hi hcc hn).ite
    ((lg_1912 h hL hi hcc hn).ite
    ((lg_1996 h hL hi hcc hn).ite
    ((lg_2052 h hL hi hcc hn).ite
    ((lg_2120 h hL hi hcc hn).ite
    ((lg_2188 h hL hi hcc hn).ite
    ((lg_2244 h hcc hn).ite
    ((lg_2309 h hL hi hcc hn).ite
    ((lg_2365 h hL hi hcc hn).ite
    ((lg_2433 h hn).ite
    ((lg_2446 h hL hi hcc hn).ite
    ((lg_2484 h hL hi hcc hn).ite
    ((lg_2528 h).ite
    ((lg_2541 h hL hi hcc hn).ite
    ((lg_2585 h hcc hn).ite
    ((lg_2596 h hcc hn).ite
    (lg_2620 h))))))))))))))))))))))))))))))))))))))))
theorem law_loop (hL : L ≤ 2560) (hn : 30000 < n) : ∀ (m k c : Nat) (σ : zW) (S : St), JJ σ S c L xs → c ≤ 513 → L < 5 * (c + m) + 5 → m < k → ∃ σ', sL_law_28 n k 3 4 125 131 132 (Int32.ofNat (5 * c)) σ = some (1, σ')
  | m, 0, _, _, _, _, _, _, hk => absurd hk (by omega)
  | 0, k + 1, c, σ, S, h, hc, hm, hk => by
    rw [sL_law_28]
    exact ⟨σ, (zlen_e (Or.inr h.1.1) h.1.2.1).trans ((if_pos (by rw [lp_end hL hc]; omega)).trans (if_pos (Or.inr rfl)))⟩
  | m + 1, k + 1, c, σ, S, h, hc, hm, hk => by
    by_cases hi : 5 * c + 4 < L
    · obtain ⟨σ1, S1, j, e⟩ := lp_step h hL hi hn k
      obtain ⟨σ2, e2⟩ := law_loop hL hn m k (c + 1) σ1 S1 j (by omega) (by omega) (by omega)
      exact ⟨σ2, e.trans e2⟩
    · rw [sL_law_28]
      exact ⟨σ, (zlen_e (Or.inr h.1.1) h.1.2.1).trans ((if_pos (by rw [lp_end hL hc]; omega)).trans (if_pos (Or.inr rfl)))⟩
end
