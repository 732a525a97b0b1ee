/-! THE CLASS'S RANKS -/
theorem io_10 {b : Nat} (h : b < 10) : Int32.ofNat b < 10 := by
  rw [show (10 : Int32) = Int32.ofNat 10 from rfl, io_lt (by omega) (by omega)]
  exact h
theorem rkO_succ {L T : Nat → Nat} {rank : Int32} {b d : Nat} : rkO L T rank b (d + 1) = @ite _ (0 < L b ∧ Int32.ofNat (cnu (ahP L T b) 0 10) = rank) (Classical.propDecidable _) (some b) (rkO L T rank (b + 1) d) := rfl
section
variable {σ : zW} {v n : Nat} {L T : Nat → Nat}
theorem c_aheadOf_l (hv : Vw σ v) (ha : Arr σ v L T) {b : Nat} (hb : b < 10) : ∀ (d c cnt k : Nat), c + d = 10 → d < k → cnt ≤ c → sX4_aheadOf_4 n σ k v (Int32.ofNat b) (Int32.ofNat cnt) (Int32.ofNat c) = some (Int32.ofNat (cnt + cnu (ahP L T b) c d)) := by
  intro d
  induction d with
  | zero =>
    intro c cnt k hc hk hcnt
    obtain ⟨k, rfl⟩ : ∃ k', k = k' + 1 := ⟨k - 1, by omega⟩
    rw [show c = 10 by omega, sX4_aheadOf_4]
    rfl
  | succ d ih =>
    intro c cnt k hc hk hcnt
    obtain ⟨k, rfl⟩ : ∃ k', k = k' + 1 := ⟨k - 1, by omega⟩
    have ih0 := ih (c + 1) cnt k (by omega) (by omega) (by omega)
    have ih1 := ih (c + 1) (cnt + 1) k (by omega) (by omega) (by omega)
    rw [← io_succ] at ih0
    rw [← io_succ, ← io_succ] at ih1
    obtain ⟨b1, b2, b3, b4⟩ := ha c (by omega)
    have he : (Int32.ofNat c = Int32.ofNat b) = (c = b) := io_eq (by omega) (by omega)
    have hp : ((0 : Int32) < Int32.ofNat (L c)) = (0 < L c) := io_pos (by omega)
    rw [sX4_aheadOf_4, cnu]
    refine Eq.trans (if_pos (io_10 (by omega))) ?_
    by_cases q1 : c = b
    · have hP : ¬ ahP L T b c := fun q => q.1 q1
      rw [if_neg hP, Nat.zero_add, ← ih0]
      exact (if_pos (he.symm ▸ q1)).trans rfl
    · refine Eq.trans (if_neg (fun z => q1 (he ▸ z))) ?_
      refine (zgR_e hv.kV hv.v0).trans ?_
      refine (zaN_e hv.kV1 hv.lV1 (by omega) (by decide) b1).trans ?_
      by_cases q2 : 0 < L c
      · refine Eq.trans (if_pos (hp.symm ▸ q2)) ?_
        refine (zck_e hv.kV).trans ?_
        refine (zb_e (c_isAhead hv ha (by omega) hb)).trans ?_
        by_cases q3 : ahd L T c b
        · have hP : ahP L T b c := ⟨q1, q2, q3⟩
          rw [if_pos hP, if_pos q3, ← Nat.add_assoc, ← ih1]
          rfl
        · have hP : ¬ ahP L T b c := fun q => q3 q.2.2
          rw [if_neg hP, if_neg q3, Nat.zero_add, ← ih0]
          rfl
      · have hP : ¬ ahP L T b c := fun q => q2 q.2.1
        rw [if_neg hP, Nat.zero_add, ← ih0]
        exact (if_neg (fun z => q2 (hp ▸ z))).trans rfl
theorem c_bidderAt (hv : Vw σ v) (ha : Arr σ v L T) (hn : 1000 < n) (rank : Int32) : fX4_bidderAt n v rank σ = some (bco (rkO L T rank 0 10)) := by
  have key : ∀ (d b k : Nat), b + d = 10 → d < k → sX4_bidderAt_2 n σ k v rank (Int32.ofNat b) = some (bco (rkO L T rank b d)) := by
    intro d
    induction d with
    | zero =>
      intro b k hb hk
      obtain ⟨k, rfl⟩ : ∃ k', k = k' + 1 := ⟨k - 1, by omega⟩
      rw [show b = 10 by omega, sX4_bidderAt_2]
      rfl
    | succ d ih =>
      intro b k hb hk
      obtain ⟨k, rfl⟩ : ∃ k', k = k' + 1 := ⟨k - 1, by omega⟩
      have ih0 := ih (b + 1) k (by omega) (by omega)
      rw [← io_succ] at ih0
      obtain ⟨b1, b2, b3, b4⟩ := ha b (by omega)
      have hp : ((0 : Int32) < Int32.ofNat (L b)) = (0 < L b) := io_pos (by omega)
      have hc := c_aheadOf_l (n := n) hv ha (show b < 10 by omega) 10 0 0 n (by omega) (by omega) (by omega)
      rw [Nat.zero_add] at hc
      have hc : fX4_aheadOf n v (Int32.ofNat b) σ = some (Int32.ofNat (cnu (ahP L T b) 0 10)) := hc
      rw [sX4_bidderAt_2, rkO_succ]
      refine Eq.trans (if_pos (io_10 (by omega))) ?_
      refine (zgR_e hv.kV hv.v0).trans ?_
      refine (zaN_e hv.kV1 hv.lV1 (by omega) (by decide) b1).trans ?_
      by_cases q2 : 0 < L b
      · refine Eq.trans (if_pos (hp.symm ▸ q2)) ?_
        refine (zck_e hv.kV).trans ?_
        refine (zb_e hc).trans ?_
        by_cases q3 : Int32.ofNat (cnu (ahP L T b) 0 10) = rank
        · have hP : 0 < L b ∧ Int32.ofNat (cnu (ahP L T b) 0 10) = rank := ⟨q2, q3⟩
          rw [if_pos hP, if_pos q3]
          rfl
        · have hP : ¬ (0 < L b ∧ Int32.ofNat (cnu (ahP L T b) 0 10) = rank) := fun q => q3 q.2
          rw [if_neg hP, if_neg q3, ← ih0]
          rfl
      · have hP : ¬ (0 < L b ∧ Int32.ofNat (cnu (ahP L T b) 0 10) = rank) := fun q => q2 q.1
        rw [if_neg hP, ← ih0]
        exact (if_neg (fun z => q2 (hp ▸ z))).trans rfl
  exact key 10 0 n (by omega) (by omega)
end
