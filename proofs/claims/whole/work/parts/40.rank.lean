/-! WHO LEADS: one pass over the bidders against counting who is ahead of whom -/
def ahd (L T : Nat → Nat) (b c : Nat) : Prop := L c < L b ∨ (L b = L c ∧ T b < T c)
noncomputable def cnu (P : Nat → Prop) (i : Nat) : Nat → Nat
  | 0 => 0
  | m + 1 => (@ite _ (P i) (Classical.propDecidable _) 1 0) + cnu P (i + 1) m
noncomputable def fst1 (P : Nat → Prop) (i : Nat) : Nat → Option Nat
  | 0 => none
  | m + 1 => @ite _ (P i) (Classical.propDecidable _) (some i) (fst1 P (i + 1) m)
theorem cnu_zero {P : Nat → Prop} : ∀ (m i : Nat), cnu P i m = 0 ↔ ∀ c, i ≤ c → c < i + m → ¬ P c
  | 0, i => ⟨fun _ c h1 h2 => by omega, fun _ => rfl⟩
  | m + 1, i => by
    unfold cnu
    have ih := cnu_zero (P := P) m (i + 1)
    by_cases h : P i
    · rw [if_pos h]
      exact ⟨fun q => by omega, fun q => absurd h (q i (Nat.le_refl _) (by omega))⟩
    · rw [if_neg h, Nat.zero_add, ih]
      refine ⟨fun q c h1 h2 => ?_, fun q c h1 h2 => q c (by omega) (by omega)⟩
      by_cases e : c = i
      · rw [e]; exact h
      · exact q c (by omega) (by omega)
theorem cnu_one {P : Nat → Prop} : ∀ (m i : Nat), cnu P i m = 1 ↔ ∃ c, (i ≤ c ∧ c < i + m ∧ P c) ∧ ∀ c', i ≤ c' → c' < i + m → P c' → c' = c
  | 0, i => ⟨fun h => (by cases h), fun ⟨c, h, _⟩ => (by omega)⟩
  | m + 1, i => by
    unfold cnu
    have ih := cnu_one (P := P) m (i + 1)
    have iz := cnu_zero (P := P) m (i + 1)
    by_cases h : P i
    · rw [if_pos h]
      constructor
      · intro q
        have q0 : cnu P (i + 1) m = 0 := by omega
        refine ⟨i, ⟨Nat.le_refl _, by omega, h⟩, fun c' h1 h2 h3 => ?_⟩
        by_cases e : c' = i
        · exact e
        · exact absurd h3 (iz.mp q0 c' (by omega) (by omega))
      · rintro ⟨c, ⟨h1, h2, h3⟩, h4⟩
        have e := h4 i (Nat.le_refl _) (by omega) h
        have q0 : cnu P (i + 1) m = 0 := iz.mpr fun c' g1 g2 g3 => by
          have := h4 c' (by omega) (by omega) g3
          omega
        omega
    · rw [if_neg h, Nat.zero_add, ih]
      constructor
      · rintro ⟨c, ⟨h1, h2, h3⟩, h4⟩
        refine ⟨c, ⟨by omega, by omega, h3⟩, fun c' g1 g2 g3 => ?_⟩
        by_cases e : c' = i
        · rw [e] at g3; exact absurd g3 h
        · exact h4 c' (by omega) (by omega) g3
      · rintro ⟨c, ⟨h1, h2, h3⟩, h4⟩
        have : c ≠ i := fun e => h (e ▸ h3)
        exact ⟨c, ⟨by omega, by omega, h3⟩, fun c' g1 g2 g3 => h4 c' (by omega) (by omega) g3⟩
theorem fst1_none {P : Nat → Prop} : ∀ (m i : Nat), fst1 P i m = none → ∀ c, i ≤ c → c < i + m → ¬ P c
  | 0, i, _, c, h1, h2 => by omega
  | m + 1, i, h, c, h1, h2 => by
    unfold fst1 at h
    by_cases hp : P i
    · rw [if_pos hp] at h; cases h
    · rw [if_neg hp] at h
      by_cases e : c = i
      · rw [e]; exact hp
      · exact fst1_none m (i + 1) h c (by omega) (by omega)
theorem fst1_some {P : Nat → Prop} : ∀ (m i b : Nat), fst1 P i m = some b → i ≤ b ∧ b < i + m ∧ P b
  | 0, i, b, h => by cases h
  | m + 1, i, b, h => by
    unfold fst1 at h
    by_cases hp : P i
    · rw [if_pos hp] at h
      cases h
      exact ⟨Nat.le_refl _, by omega, hp⟩
    · rw [if_neg hp] at h
      obtain ⟨h1, h2, h3⟩ := fst1_some m (i + 1) b h
      exact ⟨by omega, by omega, h3⟩
theorem fst1_congr {P P' : Nat → Prop} : ∀ (m i : Nat), (∀ c, i ≤ c → c < i + m → (P c ↔ P' c)) → fst1 P i m = fst1 P' i m
  | 0, _, _ => rfl
  | m + 1, i, h => by
    unfold fst1
    rw [fst1_congr m (i + 1) (fun c h1 h2 => h c (by omega) (by omega))]
    by_cases hp : P i
    · rw [if_pos hp, if_pos ((h i (Nat.le_refl _) (by omega)).mp hp)]
    · rw [if_neg hp, if_neg (fun q => hp ((h i (Nat.le_refl _) (by omega)).mpr q))]
/-- those ahead of b -/
def ahP (L T : Nat → Nat) (b c : Nat) : Prop := c ≠ b ∧ 0 < L c ∧ ahd L T c b
/-- the bidder of a rank -/
noncomputable def rnk (L T : Nat → Nat) (r : Nat) : Option Nat := fst1 (fun b => 0 < L b ∧ cnu (ahP L T b) 0 10 = r) 0 10
noncomputable def fb (L T : Nat → Nat) : Nat → Option Nat × Nat
  | 0 => (none, 0)
  | k + 1 => match fb L T k with
    | (none, o) => if 0 < L k then (some k, 0) else (none, max o (L k))
    | (some B, o) => @ite _ (0 < L k ∧ ahd L T k B) (Classical.propDecidable _) (some k, L B) (some B, max o (L k))
def fbI (L T : Nat → Nat) (k : Nat) (p : Option Nat × Nat) : Prop := match p.1 with
  | none => p.2 = 0 ∧ ∀ c, c < k → L c = 0
  | some B => B < k ∧ 0 < L B ∧ (∀ c, c < k → c ≠ B → 0 < L c → ahd L T B c) ∧ (∀ c, c < k → c ≠ B → L c ≤ p.2) ∧ (p.2 = 0 ∨ ∃ c, c < k ∧ c ≠ B ∧ L c = p.2)
theorem fb_inv {L T : Nat → Nat} {N : Nat} (hT : ∀ b c, b < N → c < N → b ≠ c → 0 < L b → L b = L c → T b ≠ T c) : ∀ k, k ≤ N → fbI L T k (fb L T k)
  | 0, _ => ⟨rfl, fun c h => by omega⟩
  | k + 1, hk => by
    have ih := fb_inv hT k (by omega)
    unfold fb
    rcases hfb : fb L T k with ⟨p, o⟩
    rw [hfb] at ih
    cases p with
    | none =>
      obtain ⟨h1, h2⟩ := ih
      have h1 : o = 0 := h1
      subst h1
      show fbI L T (k + 1) (if 0 < L k then (some k, 0) else (none, max 0 (L k)))
      by_cases hq : 0 < L k
      · rw [if_pos hq]
        refine ⟨Nat.lt_succ_self _, hq, fun c h3 h4 h5 => ?_, fun c h3 h4 => ?_, Or.inl rfl⟩
        · have := h2 c (by omega); omega
        · have := h2 c (by omega); omega
      · rw [if_neg hq]
        refine ⟨by show max 0 (L k) = 0; omega, fun c h3 => ?_⟩
        by_cases e : c = k
        · rw [e]; omega
        · exact h2 c (by omega)
    | some B =>
      obtain ⟨h1, h2, h3, h4, h5⟩ := ih
      have h4 : ∀ c, c < k → c ≠ B → L c ≤ o := h4
      have h5 : o = 0 ∨ ∃ c, c < k ∧ c ≠ B ∧ L c = o := h5
      show fbI L T (k + 1) (@ite _ (0 < L k ∧ ahd L T k B) (Classical.propDecidable _) (some k, L B) (some B, max o (L k)))
      by_cases hq : 0 < L k ∧ ahd L T k B
      · rw [if_pos hq]
        obtain ⟨q1, q2⟩ := hq
        refine ⟨Nat.lt_succ_self _, q1, fun c g1 g2 g3 => ?_, fun c g1 g2 => ?_, Or.inr ⟨B, by omega, by omega, rfl⟩⟩
        · by_cases e : c = B
          · rw [e]; exact q2
          · have h6 := h3 c (by omega) e g3
            rcases q2 with a1 | ⟨a1, a2⟩
            · rcases h6 with b1 | ⟨b1, b2⟩
              · exact Or.inl (by omega)
              · exact Or.inl (by omega)
            · rcases h6 with b1 | ⟨b1, b2⟩
              · exact Or.inl (by omega)
              · exact Or.inr ⟨by omega, by omega⟩
        · show L c ≤ L B
          by_cases e : c = B
          · rw [e]; exact Nat.le_refl _
          · by_cases g3 : 0 < L c
            · rcases h3 c (by omega) e g3 with b1 | ⟨b1, b2⟩ <;> omega
            · omega
      · rw [if_neg hq]
        refine ⟨by omega, h2, fun c g1 g2 g3 => ?_, fun c g1 g2 => ?_, ?_⟩
        · by_cases e : c = k
          · subst e
            have h6 : ¬ ahd L T c B := fun z => hq ⟨g3, z⟩
            by_cases e2 : L c = L B
            · have h7 := hT c B (by omega) (by omega) g2 g3 e2
              refine Or.inr ⟨e2.symm, ?_⟩
              by_cases e3 : T c < T B
              · exact absurd (Or.inr ⟨e2, e3⟩) h6
              · omega
            · refine Or.inl ?_
              by_cases e3 : L B < L c
              · exact absurd (Or.inl e3) h6
              · omega
          · exact h3 c (by omega) g2 g3
        · show L c ≤ max o (L k)
          by_cases e : c = k
          · rw [e]; omega
          · have := h4 c (by omega) g2; omega
        · show max o (L k) = 0 ∨ ∃ c, c < k + 1 ∧ c ≠ B ∧ L c = max o (L k)
          by_cases e : o ≤ L k
          · exact Or.inr ⟨k, by omega, by omega, by omega⟩
          · rcases h5 with h5 | ⟨c, h5, h6, h7⟩
            · omega
            · exact Or.inr ⟨c, by omega, h6, by omega⟩
theorem rnk0 {L T : Nat → Nat} (hT : ∀ b c, b < 10 → c < 10 → b ≠ c → 0 < L b → L b = L c → T b ≠ T c) : rnk L T 0 = (fb L T 10).1 := by
  have h := fb_inv hT 10 (Nat.le_refl _)
  rcases hfb : fb L T 10 with ⟨p, o⟩
  rw [hfb] at h
  show rnk L T 0 = p
  unfold rnk
  cases hr : fst1 (fun b => 0 < L b ∧ cnu (ahP L T b) 0 10 = 0) 0 10 with
  | none =>
    have h1 := fst1_none _ _ hr
    cases p with
    | none => rfl
    | some B =>
      obtain ⟨g1, g2, g3, -, -⟩ := h
      exfalso
      refine h1 B (Nat.zero_le _) (by omega) ⟨g2, (cnu_zero _ _).mpr fun c _ hc ⟨k1, k2, k3⟩ => ?_⟩
      have := g3 c (by omega) k1 k2
      rcases this with b1 | ⟨b1, b2⟩ <;> rcases k3 with c1 | ⟨c1, c2⟩ <;> omega
  | some b =>
    obtain ⟨-, h2, h3, h4⟩ := fst1_some _ _ _ hr
    have h4 := (cnu_zero _ _).mp h4
    cases p with
    | none =>
      have := h.2 b (by omega)
      omega
    | some B =>
      obtain ⟨g1, g2, g3, -, -⟩ := h
      by_cases e : b = B
      · rw [e]
      · exact absurd ⟨fun q => e q.symm, g2, g3 b (by omega) e h3⟩ (h4 B (Nat.zero_le _) (by omega))
/-- of some with a property, one with the least T -/
theorem least {P : Nat → Prop} {T : Nat → Nat} : ∀ (n c : Nat), P c → T c ≤ n → ∃ d, P d ∧ ∀ e, P e → T d ≤ T e
  | 0, c, h, hn => ⟨c, h, fun e _ => by omega⟩
  | n + 1, c, h, hn => by
    by_cases hq : ∃ e, P e ∧ T e < T c
    · obtain ⟨e, h1, h2⟩ := hq
      exact least n e h1 (by omega)
    · exact ⟨c, h, fun e he => Nat.not_lt.mp fun q => hq ⟨e, he, q⟩⟩
theorem rnk1 {L T : Nat → Nat} (hT : ∀ b c, b < 10 → c < 10 → b ≠ c → 0 < L b → L b = L c → T b ≠ T c) {B : Nat} (hB : (fb L T 10).1 = some B) : (match rnk L T 1 with | none => 0 | some b => L b) = (fb L T 10).2 := by
  have h := fb_inv hT 10 (Nat.le_refl _)
  rcases hfb : fb L T 10 with ⟨p, o⟩
  rw [hfb] at h hB
  have hB : p = some B := hB
  subst hB
  obtain ⟨g1, g2, g3, g4, g5⟩ := h
  have g4 : ∀ c, c < 10 → c ≠ B → L c ≤ o := g4
  have g5 : o = 0 ∨ ∃ c, c < 10 ∧ c ≠ B ∧ L c = o := g5
  show (match rnk L T 1 with | none => 0 | some b => L b) = o
  unfold rnk
  cases hr : fst1 (fun b => 0 < L b ∧ cnu (ahP L T b) 0 10 = 1) 0 10 with
  | none =>
    have h1 := fst1_none _ _ hr
    show 0 = o
    rcases g5 with g5 | ⟨c, k1, k2, k3⟩
    · exact g5.symm
    · by_cases ho : o = 0
      · exact ho.symm
      · exfalso
        obtain ⟨d, ⟨d1, d2, d3⟩, d4⟩ := least (P := fun c => c < 10 ∧ c ≠ B ∧ L c = o) (T := T) (T c) c ⟨k1, k2, k3⟩ (Nat.le_refl _)
        refine h1 d (Nat.zero_le _) (by omega) ⟨by omega, (cnu_one _ _).mpr ⟨B, ⟨Nat.zero_le _, by omega, fun q => d2 q.symm, g2, g3 d d1 d2 (by omega)⟩, fun c' _ q2 ⟨q3, q4, q5⟩ => ?_⟩⟩
        by_cases e : c' = B
        · exact e
        · exfalso
          have k4 := g4 c' (by omega) e
          rcases q5 with c1 | ⟨c1, c2⟩
          · omega
          · have := d4 c' ⟨by omega, e, by omega⟩
            omega
  | some b =>
    obtain ⟨-, h2, h3, h4⟩ := fst1_some _ _ _ hr
    obtain ⟨x, ⟨-, x2, x3, x4, x5⟩, x6⟩ := (cnu_one _ _).mp h4
    show L b = o
    have hbB : b ≠ B := by
      intro e
      subst e
      have := g3 x (by omega) x3 x4
      rcases this with b1 | ⟨b1, b2⟩ <;> rcases x5 with c1 | ⟨c1, c2⟩ <;> omega
    have hx : x = B := (x6 B (Nat.zero_le _) (by omega) ⟨fun q => hbB q.symm, g2, g3 b (by omega) hbB h3⟩).symm
    subst hx
    have k1 := g4 b (by omega) hbB
    rcases g5 with g5 | ⟨c, q1, q2, q3⟩
    · omega
    · by_cases e : c = b
      · rw [← e]; exact q3
      · by_cases hle : L c ≤ L b
        · omega
        · exfalso
          exact q2 (x6 c (Nat.zero_le _) (by omega) ⟨e, by omega, Or.inl (by omega)⟩)
