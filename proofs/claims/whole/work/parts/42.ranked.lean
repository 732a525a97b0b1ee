/-! THE REFERENCE'S RANKS AND STANDING -/
theorem cnu_le {P : Nat → Prop} : ∀ (m i : Nat), cnu P i m ≤ m
  | 0, _ => Nat.le_refl _
  | m + 1, i => by
    have ih := cnu_le (P := P) m (i + 1)
    unfold cnu
    by_cases h : P i
    · rw [if_pos h]; omega
    · rw [if_neg h]; omega
noncomputable def rkO (L T : Nat → Nat) (rank : Int32) : Nat → Nat → Option Nat := fst1 (fun b => 0 < L b ∧ Int32.ofNat (cnu (ahP L T b) 0 10) = rank)
def bco : Option Nat → Int32
  | none => -1
  | some b => Int32.ofNat b
theorem rkO_rnk {L T : Nat → Nat} {r : Nat} (hr : r < 100) : rkO L T (Int32.ofNat r) 0 10 = rnk L T r := by
  unfold rkO rnk
  refine fst1_congr _ _ fun c _ _ => ?_
  have h := cnu_le (P := ahP L T c) 10 0
  rw [io_eq (by omega) (by omega)]
section
variable {σ : zW} {m w n i : Nat}
theorem r_rank_in (h : Rf σ m w) (ht : Tb (zI σ w)) (hl : Lt (zI σ w) i) (hn : 1000 < n) (hi : i < 20) {b : Nat} (hb : b < 10) (rank : Int32) (r2 : Nat → Int32 → Int32 → Int32 → Option Int32) : ∀ (d c cnt k : Nat), c + d = 10 → d < k → cnt ≤ c →
    sX8_ranked_14 n σ r2 k m (Int32.ofNat i) rank (Int32.ofNat b) (Int32.ofNat cnt) (Int32.ofNat c) = if 0 < lim (zI σ w) i b ∧ Int32.ofNat (cnt + cnu (ahP (lim (zI σ w) i) (tim (zI σ w) i) b) c d) = rank then some (Int32.ofNat b) else r2 m (Int32.ofNat i) rank (Int32.ofNat (b + 1)) := by
  have lb := lim_le hl hb
  intro d
  induction d with
  | zero =>
    intro c cnt k hc hk hcnt
    obtain ⟨k, rfl⟩ : ∃ k', k = k' + 1 := ⟨k - 1, by omega⟩
    rw [sX8_ranked_14, show (10 : Int32) = Int32.ofNat 10 from rfl]
    simp (disch := omega) only [zgI, zgR, zaI, zaR, zaC, zck, zb_some, zb2_some, zbx_inl, zbx_inr, zdv, true_or, or_true, true_and, and_true, if_true, ↓reduceIte, h.kM, h.rW, h.kW, h.lW, io_lt, show ¬ c < 10 by omega, if_false, r_limitOf h ht hl hn hi hb, io_pos, sX8_ranked_81, io_succ, cnu, Nat.add_zero]
    by_cases h1 : 0 < lim (zI σ w) i b
    · by_cases h2 : Int32.ofNat cnt = rank
      · simp only [h1, h2, and_self, if_true]
      · simp only [h1, h2, and_false, if_true, if_false]
    · simp only [h1, false_and, if_false]
  | succ d ih =>
    intro c cnt k hc hk hcnt
    obtain ⟨k, rfl⟩ : ∃ k', k = k' + 1 := ⟨k - 1, by omega⟩
    have lc := lim_le hl (show c < 10 by omega)
    have ih0 := ih (c + 1) cnt k (by omega) (by omega) (by omega)
    have ih1 := ih (c + 1) (cnt + 1) k (by omega) (by omega) (by omega)
    have one0 : ((1 : Int32) = 0) = False := eq_false (by decide)
    rw [sX8_ranked_14, show (10 : Int32) = Int32.ofNat 10 from rfl]
    rw [cnu]
    simp (disch := omega) only [zgI, zgR, zaI, zaR, zaC, zck, zb_some, zb2_some, zbx_inl, zbx_inr, zdv, true_or, or_true, true_and, and_true, if_true, ↓reduceIte, h.kM, h.rW, h.kW, h.lW, io_lt, show c < 10 by omega, io_eq, r_limitOf h ht hl hn hi (show c < 10 by omega), io_pos, sX8_ranked_54, sX8_ranked_55, Int32.add_zero, io_succ]
    by_cases h1 : c = b
    · have hP : ¬ ahP (lim (zI σ w) i) (tim (zI σ w) i) b c := fun q => q.1 h1
      rw [if_pos h1, if_neg hP, Nat.zero_add, ih0]
    · rw [if_neg h1]
      by_cases h2 : 0 < lim (zI σ w) i c
      · rw [if_pos h2]
        simp only [r_isAhead h ht hl hn hi (show c < 10 by omega) hb h2, zb_some]
        by_cases h3 : ahd (lim (zI σ w) i) (tim (zI σ w) i) c b
        · have hP : ahP (lim (zI σ w) i) (tim (zI σ w) i) b c := ⟨h1, h2, h3⟩
          rw [if_pos h3, if_pos hP]
          simp only [one0, if_false]
          rw [ih1, Nat.add_assoc]
        · have hP : ¬ ahP (lim (zI σ w) i) (tim (zI σ w) i) b c := fun q => h3 q.2.2
          rw [if_neg h3, if_neg hP, Nat.zero_add]
          simp only [if_true]
          exact ih0
      · have hP : ¬ ahP (lim (zI σ w) i) (tim (zI σ w) i) b c := fun q => h2 q.2.1
        rw [if_neg h2, if_neg hP, Nat.zero_add, ih0]
theorem r_ranked (h : Rf σ m w) (ht : Tb (zI σ w)) (hl : Lt (zI σ w) i) (hn : 1000 < n) (hi : i < 20) (rank : Int32) : fX8_ranked n m (Int32.ofNat i) rank σ = some (bco (rkO (lim (zI σ w) i) (tim (zI σ w) i) rank 0 10)) := by
  have key : ∀ (d b k : Nat), b + d = 10 → d < k → sX8_ranked_2 n σ k m (Int32.ofNat i) rank (Int32.ofNat b) = some (bco (rkO (lim (zI σ w) i) (tim (zI σ w) i) rank b d)) := by
    intro d
    induction d with
    | zero =>
      intro b k hb hk
      obtain ⟨k, rfl⟩ : ∃ k', k = k' + 1 := ⟨k - 1, by omega⟩
      rw [sX8_ranked_2, show (10 : Int32) = Int32.ofNat 10 from rfl]
      simp (disch := omega) only [io_lt, show ¬ b < 10 by omega, if_false]
      rfl
    | succ d ih =>
      intro b k hb hk
      obtain ⟨k, rfl⟩ : ∃ k', k = k' + 1 := ⟨k - 1, by omega⟩
      have ih0 := ih (b + 1) k (by omega) (by omega)
      have hin := r_rank_in h ht hl hn hi (show b < 10 by omega) rank (sX8_ranked_2 n σ k) 10 0 0 n (by omega) (by omega) (by omega)
      rw [Nat.zero_add] at hin
      rw [sX8_ranked_2, show (10 : Int32) = Int32.ofNat 10 from rfl]
      simp (disch := omega) only [io_lt, show b < 10 by omega, if_true]
      rw [show sX8_ranked_14 n σ (sX8_ranked_2 n σ k) n m (Int32.ofNat i) rank (Int32.ofNat b) 0 0 = _ from hin, ih0]
      unfold rkO
      rw [show fst1 (fun b => 0 < lim (zI σ w) i b ∧ Int32.ofNat (cnu (ahP (lim (zI σ w) i) (tim (zI σ w) i) b) 0 10) = rank) b (d + 1) = @ite _ (0 < lim (zI σ w) i b ∧ Int32.ofNat (cnu (ahP (lim (zI σ w) i) (tim (zI σ w) i) b) 0 10) = rank) (Classical.propDecidable _) (some b) (fst1 (fun b => 0 < lim (zI σ w) i b ∧ Int32.ofNat (cnu (ahP (lim (zI σ w) i) (tim (zI σ w) i) b) 0 10) = rank) (b + 1) d) from rfl]
      by_cases hq : 0 < lim (zI σ w) i b ∧ Int32.ofNat (cnu (ahP (lim (zI σ w) i) (tim (zI σ w) i) b) 0 10) = rank
      · rw [if_pos hq, if_pos hq]
        rfl
      · rw [if_neg hq, if_neg hq]
  exact key 10 0 n (by omega) (by omega)
theorem r_houseLimit (h : Rf σ m w) (ht : Tb (zI σ w)) (hl : Lt (zI σ w) i) (hn : 1000 < n) (hi : i < 20) : fX8_houseLimit n m (Int32.ofNat i) σ = some (Int32.ofNat (hou (zI σ w) i)) := by
  obtain ⟨r1, r2⟩ := hl.1
  unfold hou
  simp (disch := omega) only [fX8_houseLimit, r_at2 h hi, zgI, zgR, zaI, zaR, zaC, zck, zb_some, zb2_some, zbx_inl, zbx_inr, zdv, true_or, or_true, true_and, and_true, if_true, ↓reduceIte, h.kM, h.rW, h.kW, h.lW, r1, io_pos, sX8_houseLimit_25]
  by_cases hq : 0 < qR (zI σ w) i
  · simp (disch := omega) only [if_pos hq, io_one, r_stepBelow h ht hn, zgI, zgR, zaI, zaR, zaC, zck, zb_some, zb2_some, zbx_inl, zbx_inr, zdv, true_or, or_true, true_and, and_true, if_true, ↓reduceIte]
  · rw [if_neg hq, if_neg hq]
    rfl
end
/-! what a standing is -/
noncomputable def bst (a : Nat → Int32) (i : Nat) : Option Nat := (fb (lim a i) (tim a i) 10).1
noncomputable def oth (a : Nat → Int32) (i : Nat) : Nat := (fb (lim a i) (tim a i) 10).2
noncomputable def bsl (a : Nat → Int32) (i : Nat) : Nat := match bst a i with
  | none => 0
  | some b => lim a i b
noncomputable def sLd (a : Nat → Int32) (i : Nat) : Int32 := if bsl a i < hou a i then 10 else bco (bst a i)
noncomputable def sLm (a : Nat → Int32) (i : Nat) : Nat := if bsl a i < hou a i then hou a i else bsl a i
noncomputable def sSc (a : Nat → Int32) (i : Nat) : Nat := if bsl a i < hou a i then bsl a i else max (hou a i) (oth a i)
noncomputable def sPr (a : Nat → Int32) (i : Nat) : Nat := if bst a i = none ∧ hou a i = 0 then 0 else min (sLm a i) (nxt a (sSc a i))
