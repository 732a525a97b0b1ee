/-! THE CLASS'S STANDING -/
theorem mxn {x y : Nat} : (if x < y then Int32.ofNat y else Int32.ofNat x) = Int32.ofNat (max x y) := by
  by_cases h : x < y
  · rw [if_pos h, show max x y = y by omega]
  · rw [if_neg h, show max x y = x by omega]
theorem mnn {x y : Nat} : (if x < y then Int32.ofNat x else Int32.ofNat y) = Int32.ofNat (min x y) := by
  by_cases h : x < y
  · rw [if_pos h, show min x y = x by omega]
  · rw [if_neg h, show min x y = y by omega]
theorem Sh.fr {P : Nat → Prop} {σ σ' : zW} {s : Nat} (h : Sh σ s) (hf : Fr P σ σ') : Sh σ' s := by
  unfold Sh
  rw [hf.K, hf.R, hf.L]
  exact h
theorem Rep.fr {P : Nat → Prop} {σ σ' : zW} {s : Nat} {a : Nat → Int32} (h : Rep σ s a) (hf : Fr P σ σ') (hP : ∀ o, s ≤ o → o < s + 112 → ¬ P o) : Rep σ' s a := by
  refine ⟨h.1.fr hf, fun j hj => ?_⟩
  rw [← h.2 j hj]
  unfold sl
  have := slo_lt j hj.1
  rw [hf.2 _ (hP _ (by omega) (by omega))]
def Vw (σ : zW) (v : Nat) : Prop := zK σ v = 5 ∧ zR σ v 0 = v + 1 ∧ zR σ v 1 = v + 2 ∧ zK σ (v + 1) = 20 ∧ zL σ (v + 1) = 10 ∧ zK σ (v + 2) = 20 ∧ zL σ (v + 2) = 10
theorem Vw.fr {P : Nat → Prop} {σ σ' : zW} {v : Nat} (h : Vw σ v) (hf : Fr P σ σ') : Vw σ' v := by
  unfold Vw
  rw [hf.K, hf.R, hf.L]
  exact h
theorem Vw.kV {σ : zW} {v : Nat} (h : Vw σ v) : zK σ v = 5 := h.1
theorem Vw.v0 {σ : zW} {v : Nat} (h : Vw σ v) : zR σ v 0 = v + 1 := h.2.1
theorem Vw.v1 {σ : zW} {v : Nat} (h : Vw σ v) : zR σ v 1 = v + 2 := h.2.2.1
theorem Vw.kV1 {σ : zW} {v : Nat} (h : Vw σ v) : zK σ (v + 1) = 20 := h.2.2.2.1
theorem Vw.lV1 {σ : zW} {v : Nat} (h : Vw σ v) : zL σ (v + 1) = 10 := h.2.2.2.2.1
theorem Vw.kV2 {σ : zW} {v : Nat} (h : Vw σ v) : zK σ (v + 2) = 20 := h.2.2.2.2.2.1
theorem Vw.lV2 {σ : zW} {v : Nat} (h : Vw σ v) : zL σ (v + 2) = 10 := h.2.2.2.2.2.2
def Arr (σ : zW) (v : Nat) (L T : Nat → Nat) : Prop := ∀ b, b < 10 → zI σ (v + 1) b = Int32.ofNat (L b) ∧ zI σ (v + 2) b = Int32.ofNat (T b) ∧ L b ≤ 99999 ∧ T b < 1000000000
theorem fb_bd {L T : Nat → Nat} {M : Nat} : ∀ k, (∀ b, b < k → L b ≤ M) → (fb L T k).2 ≤ M ∧ ∀ B, (fb L T k).1 = some B → B < k
  | 0, _ => ⟨Nat.zero_le _, fun B h => by cases h⟩
  | k + 1, hL => by
    obtain ⟨h1, h2⟩ := fb_bd (T := T) k (fun b hb => hL b (by omega))
    have hk := hL k (by omega)
    unfold fb
    rcases hfb : fb L T k with ⟨p, o⟩
    rw [hfb] at h1 h2
    have h1 : o ≤ M := h1
    cases p with
    | none =>
      show (if 0 < L k then (some k, 0) else (none, max o (L k)) : Option Nat × Nat).2 ≤ M ∧ ∀ B, (if 0 < L k then (some k, 0) else (none, max o (L k)) : Option Nat × Nat).1 = some B → B < k + 1
      by_cases hq : 0 < L k
      · rw [if_pos hq]
        exact ⟨Nat.zero_le _, fun B h => by cases h; omega⟩
      · rw [if_neg hq]
        exact ⟨by show max o (L k) ≤ M; omega, fun B h => by cases h⟩
    | some B0 =>
      have h3 := h2 B0 rfl
      show (@ite _ (0 < L k ∧ ahd L T k B0) (Classical.propDecidable _) (some k, L B0) (some B0, max o (L k)) : Option Nat × Nat).2 ≤ M ∧ ∀ B, (@ite _ (0 < L k ∧ ahd L T k B0) (Classical.propDecidable _) (some k, L B0) (some B0, max o (L k)) : Option Nat × Nat).1 = some B → B < k + 1
      by_cases hq : 0 < L k ∧ ahd L T k B0
      · rw [if_pos hq]
        exact ⟨hL B0 (by omega), fun B h => by cases h; omega⟩
      · rw [if_neg hq]
        exact ⟨by show max o (L k) ≤ M; omega, fun B h => by cases h; omega⟩
section
variable {σ : zW} {s v n i : Nat} {a : Nat → Int32} {L T : Nat → Nat}
theorem c_isAhead (hv : Vw σ v) (ha : Arr σ v L T) {b c : Nat} (hb : b < 10) (hc : c < 10) : fX4_isAhead n v (Int32.ofNat b) (Int32.ofNat c) σ = some (@ite _ (ahd L T b c) (Classical.propDecidable _) 1 0) := by
  obtain ⟨b1, b2, b3, b4⟩ := ha b hb
  obtain ⟨c1, c2, c3, c4⟩ := ha c hc
  simp (disch := omega) only [fX4_isAhead, zgI, zgR, zaI, zaR, zaC, zck, zb_some, zb2_some, zbx_inl, zbx_inr, zdv, true_or, or_true, true_and, and_true, if_true, ↓reduceIte, hv.kV, hv.v0, hv.v1, hv.kV1, hv.lV1, hv.kV2, hv.lV2, io_zx, io_nat, b1, b2, c1, c2, io_eq, io_lt, sX4_isAhead_56, sX4_isAhead_35]
  by_cases q1 : L b = L c
  · rw [if_pos q1]
    by_cases q2 : T b < T c
    · have q3 : ahd L T b c := Or.inr ⟨q1, q2⟩
      rw [if_pos q2, if_pos q3]
    · have q3 : ¬ ahd L T b c := by
        rintro (q | ⟨-, q⟩) <;> omega
      rw [if_neg q2, if_neg q3]
  · rw [if_neg q1]
    by_cases q2 : L c < L b
    · have q3 : ahd L T b c := Or.inl q2
      rw [if_pos q2, if_pos q3]
    · have q3 : ¬ ahd L T b c := by
        rintro (q | ⟨q, -⟩) <;> omega
      rw [if_neg q2, if_neg q3]
def stV (σ : zW) (v : Nat) (x y z : Int32) : zW := stI (stI (stI σ v 3 x) v 4 y) v 5 z
theorem c_findLeader_l (hv : Vw σ v) (ha : Arr σ v L T) {H : Nat} (hH : H ≤ 99999) (hh : zI σ v 2 = Int32.ofNat H) : ∀ (d k fu : Nat), k + d = 10 → d < fu →
    sX4_findLeader_9 n fu v (bco (fb L T k).1) (Int32.ofNat (lmo L (fb L T k).1)) (Int32.ofNat (fb L T k).2) (Int32.ofNat k) σ = some (stV σ v (if lmo L (fb L T 10).1 < H then 10 else bco (fb L T 10).1) (Int32.ofNat (if lmo L (fb L T 10).1 < H then H else lmo L (fb L T 10).1)) (Int32.ofNat (if lmo L (fb L T 10).1 < H then lmo L (fb L T 10).1 else max H (fb L T 10).2))) := by
  intro d
  induction d with
  | zero =>
    intro k fu hk hf
    obtain ⟨fu, rfl⟩ : ∃ k', fu = k' + 1 := ⟨fu - 1, by omega⟩
    have hk10 : k = 10 := by omega
    subst hk10
    obtain ⟨g1, g2⟩ := fb_bd (L := L) (T := T) (M := 99999) 10 (fun b hb => (ha b hb).2.2.1)
    have g3 : lmo L (fb L T 10).1 ≤ 99999 := by
      cases hp : (fb L T 10).1 with
      | none => exact Nat.zero_le _
      | some B => exact (ha B (g2 B hp)).2.2.1
    have k1 : ∀ x : Int32, zK (stI σ v 3 x) v = 5 := fun x => hv.kV
    have k2 : ∀ x y : Int32, zK (stI (stI σ v 3 x) v 4 y) v = 5 := fun x y => hv.kV
    have e1 : ∀ x : Int32, zI (stI σ v 3 x) v 2 = Int32.ofNat H := fun x => by rw [zI_st, if_neg (by omega), hh]
    have e2 : ∀ x y : Int32, zI (stI (stI σ v 3 x) v 4 y) v 2 = Int32.ofNat H := fun x y => by rw [zI_st, if_neg (by omega), e1]
    rw [sX4_findLeader_9, show (10 : Int32) = Int32.ofNat 10 from rfl]
    generalize lmo L (fb L T 10).1 = bl at *
    generalize bco (fb L T 10).1 = be at *
    generalize (fb L T 10).2 = ot at *
    simp (disch := omega) only [Nat.lt_irrefl, if_false, zgI, zpI, hv.kV, k1, k2, e1, e2, hh, if_true, sX4_findLeader_127, io_lt, mxn]
    by_cases hq : bl < H
    · simp only [if_pos hq]
      rfl
    · simp only [if_neg hq]
      rfl
  | succ d ih =>
    intro k fu hk hf
    obtain ⟨fu, rfl⟩ : ∃ k', fu = k' + 1 := ⟨fu - 1, by omega⟩
    have ih := ih (k + 1) fu (by omega) (by omega)
    obtain ⟨b1, b2, b3, b4⟩ := ha k (by omega)
    obtain ⟨g1, g2⟩ := fb_bd (L := L) (T := T) (M := 99999) k (fun b hb => (ha b (by omega)).2.2.1)
    have one0 : ((1 : Int32) = 0) = False := eq_false (by decide)
    have em : (bco none = -1) = True := eq_true rfl
    rw [← ih]
    rw [sX4_findLeader_9, show (10 : Int32) = Int32.ofNat 10 from rfl]
    rw [show fb L T (k + 1) = (match fb L T k with
      | (none, o) => if 0 < L k then (some k, 0) else (none, max o (L k))
      | (some B, o) => @ite _ (0 < L k ∧ ahd L T k B) (Classical.propDecidable _) (some k, L B) (some B, max o (L k))) from rfl]
    rcases hfb : fb L T k with ⟨p, o⟩
    rw [hfb] at g1 g2
    have g1 : o ≤ 99999 := g1
    simp (disch := omega) only [zgI, zgR, zaI, zaR, zaC, zck, zb_some, zb2_some, zbx_inl, zbx_inr, zdv, true_or, or_true, true_and, and_true, if_true, ↓reduceIte, hv.kV, hv.v0, hv.v1, hv.kV1, hv.lV1, hv.kV2, hv.lV2, io_zx, io_nat, b1, io_lt, io_pos, sX4_findLeader_57, sX4_findLeader_41, sX4_findLeader_69, mxn, io_succ, show k < 10 by omega]
    cases p with
    | none =>
      simp only [em, if_true]
      by_cases hq : 0 < L k
      · simp only [if_pos hq]
        try rfl
      · simp only [if_neg hq]
        try rfl
    | some B =>
      have hB := g2 B rfl
      have em2 : (bco (some B) = -1) = False := io_m1 (by omega)
      have hA := c_isAhead (n := n) hv ha (b := k) (c := B) (by omega) (by omega)
      simp only [em2, if_false, show bco (some B) = Int32.ofNat B from rfl, io_m1 (show B < 2147483648 by omega), hA, zb_some]
      by_cases hq : 0 < L k
      · by_cases hq2 : ahd L T k B
        · have h3 : 0 < L k ∧ ahd L T k B := ⟨hq, hq2⟩
          rw [if_pos hq, if_pos hq2, if_pos h3]
          simp only [one0, if_false]
          rfl
        · have h3 : ¬ (0 < L k ∧ ahd L T k B) := fun z => hq2 z.2
          rw [if_pos hq, if_neg hq2, if_neg h3]
          simp only [if_true]
          rfl
      · have h3 : ¬ (0 < L k ∧ ahd L T k B) := fun z => hq z.1
        rw [if_neg hq, if_neg h3]
        rfl
theorem c_findLeader (hv : Vw σ v) (ha : Arr σ v L T) (hn : 1000 < n) {H : Nat} (hH : H ≤ 99999) (hh : zI σ v 2 = Int32.ofNat H) : fX4_findLeader n v σ = some (stV σ v (if lmo L (fb L T 10).1 < H then 10 else bco (fb L T 10).1) (Int32.ofNat (if lmo L (fb L T 10).1 < H then H else lmo L (fb L T 10).1)) (Int32.ofNat (if lmo L (fb L T 10).1 < H then lmo L (fb L T 10).1 else max H (fb L T 10).2))) := c_findLeader_l hv ha hH hh 10 0 n (by omega) (by omega)
end
