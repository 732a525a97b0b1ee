/-! WHAT IS TRUE OF EVERY ROW -/
def nac (g : Nat → Nat) (i : Nat) : Nat → Nat
  | 0 => 0
  | m + 1 => g i + nac g (i + 1) m
theorem nac_congr {g g' : Nat → Nat} : ∀ (m i : Nat), (∀ j, i ≤ j → j < i + m → g j = g' j) → nac g i m = nac g' i m
  | 0, _, _ => rfl
  | m + 1, i, h => by
    unfold nac
    rw [h i (Nat.le_refl _) (by omega), nac_congr m (i + 1) (fun j h1 h2 => h j (by omega) (by omega))]
theorem nac_set {g g' : Nat → Nat} {i0 : Nat} : ∀ (m i : Nat), i ≤ i0 → i0 < i + m → (∀ j, i ≤ j → j < i + m → j ≠ i0 → g' j = g j) → nac g' i m + g i0 = nac g i m + g' i0
  | 0, i, h1, h2, _ => by omega
  | m + 1, i, h1, h2, h => by
    unfold nac
    by_cases e : i = i0
    · subst e
      rw [nac_congr (g := g') (g' := g) m (i + 1) (fun j g1 g2 => h j (by omega) (by omega) (by omega))]
      omega
    · have := nac_set (g := g) (g' := g') m (i + 1) (by omega) (by omega) (fun j g1 g2 g3 => h j (by omega) (by omega) g3)
      rw [h i (Nat.le_refl _) (by omega) e]
      omega
theorem nac_last {g : Nat → Nat} : ∀ (m i : Nat), nac g i (m + 1) = nac g i m + g (i + m)
  | 0, i => by
    show g i + 0 = 0 + g (i + 0)
    rw [Nat.add_zero, Nat.zero_add, Nat.add_zero]
  | m + 1, i => by
    have := nac_last (g := g) m (i + 1)
    show g i + nac g (i + 1) (m + 1) = (g i + nac g (i + 1) m) + g (i + (m + 1))
    rw [this, show i + 1 + m = i + (m + 1) by omega]
    omega
theorem nac_le {g : Nat → Nat} {M : Nat} : ∀ (m i : Nat), (∀ j, i ≤ j → j < i + m → g j ≤ M) → nac g i m ≤ m * M
  | 0, _, _ => by
    show 0 ≤ _
    omega
  | m + 1, i, h => by
    have h1 := nac_le (g := g) (M := M) m (i + 1) (fun j g1 g2 => h j (by omega) (by omega))
    have h2 := h i (Nat.le_refl _) (by omega)
    unfold nac
    rw [Nat.succ_mul]
    omega
theorem zac_nat {g : Nat → Nat} : ∀ (m i c : Nat), zac (fun j => Int32.ofNat (g j)) i m (Int32.ofNat c) = Int32.ofNat (c + nac g i m)
  | 0, i, c => rfl
  | m + 1, i, c => by
    show zac _ (i + 1) m (Int32.ofNat c + Int32.ofNat (g i)) = _
    rw [ixl, zac_nat m (i + 1) (c + g i)]
    show _ = Int32.ofNat (c + (g i + nac g (i + 1) m))
    rw [Nat.add_assoc]
theorem zsm_nat {N : Nat} {g : Nat → Nat} {f : Nat → Int32} (h : ∀ j, j < N → f j = Int32.ofNat (g j)) : zsm N f = Int32.ofNat (nac g 0 N) := by
  rw [zsm_congr (g' := fun j => Int32.ofNat (g j)) h]
  have := zac_nat (g := g) N 0 0
  rw [Nat.zero_add] at this
  exact this
/-- the orders of a lot; all orders -/
def onm (a : Nat → Int32) (i : Nat) : Nat := nac (fun b => if 0 < a (184 + 10 * i + b) then 1 else 0) 0 10
def tot (a : Nat → Int32) : Nat := nac (onm a) 0 (mk a)
theorem onm_le {a : Nat → Int32} {i : Nat} : onm a i ≤ 10 := by
  have := nac_le (g := fun b => if 0 < a (184 + 10 * i + b) then 1 else 0) (M := 1) 10 0 (fun j _ _ => by show (if _ then 1 else 0) ≤ 1; split <;> omega)
  unfold onm
  omega
theorem oc_onm {a : Nat → Int32} {i : Nat} : oc a i = Int32.ofNat (onm a i) := by
  unfold oc onm
  exact zsm_nat (fun j _ => by split <;> rfl)
theorem tot_zsm {a : Nat → Int32} : zsm (mk a) (fun i => oc a i) = Int32.ofNat (tot a) := zsm_nat (fun _ _ => oc_onm)
theorem onm_le_tot {a : Nat → Int32} {i : Nat} (hi : i < mk a) : onm a i ≤ tot a := by
  have := nac_set (g := onm a) (g' := fun j => if j = i then 0 else onm a j) (mk a) 0 (Nat.zero_le _) (by omega) (fun j _ _ h => if_neg h)
  rw [if_pos rfl] at this
  unfold tot
  omega
/-- the last number taken; a lot's seller -/
def nm (a : Nat → Int32) : Nat := (a 984).toNatClampNeg
def qS (a : Nat → Int32) (i : Nat) : Nat := (a (24 + 8 * i + 0)).toNatClampNeg
def LI (a : Nat → Int32) (i : Nat) : Prop := Lt a i ∧ (a (24 + 8 * i + 1) = Int32.ofNat (qQ a i) ∧ 1 ≤ qQ a i ∧ qQ a i ≤ 20) ∧ (a (24 + 8 * i + 0) = Int32.ofNat (qS a i) ∧ qS a i ≤ 5) ∧
  (a (24 + 8 * i + 3) = 2 → (∃ b, b < 10 ∧ a (24 + 8 * i + 6) = Int32.ofNat b) ∧ ∃ p, p ≤ 99999 ∧ a (24 + 8 * i + 7) = Int32.ofNat p) ∧ ∀ b, b < 10 → qO a i b ≤ nm a ∧ qN a i b ≤ nm a
def Inv (a : Nat → Int32) (B : Nat) : Prop := Cn a ∧ Tb a ∧ (∀ i, i < mk a → LI a i) ∧ (a 984 = Int32.ofNat (nm a) ∧ nm a ≤ B) ∧ tot a ≤ 40 ∧ (∀ k, k < kp a → ∃ e, e < mk a ∧ a (992 + 4 * k + 1) = Int32.ofNat e) ∧ ∀ j, 1992 ≤ j → a j = 0
theorem Inv.mono {a : Nat → Int32} {B B' : Nat} (h : Inv a B) (hB : B ≤ B') : Inv a B' := ⟨h.1, h.2.1, h.2.2.1, ⟨h.2.2.2.1.1, by have := h.2.2.2.1.2; omega⟩, h.2.2.2.2⟩
theorem Inv.lt {a : Nat → Int32} {B i : Nat} (h : Inv a B) (hi : i < mk a) : Lt a i := (h.2.2.1 i hi).1
theorem Tb.congr {a a' : Nat → Int32} (h : Tb a) (e : ∀ j, j < 13 → a' j = a j) : Tb a' := by
  have eR : tR a' = tR a := by unfold tR; rw [e 0 (by omega)]
  obtain ⟨⟨h0, h1, h6, hB0⟩, hr, hasc⟩ := h
  have eB : ∀ k, k < 6 → tB a' k = tB a k := fun k hk => by unfold tB; rw [e (1 + k) (by omega)]
  have eI : ∀ k, k < 6 → tI a' k = tI a k := fun k hk => by unfold tI; rw [e (7 + k) (by omega)]
  refine ⟨⟨by rw [eR, e 0 (by omega)]; exact h0, by rw [eR]; exact h1, by rw [eR]; exact h6, by rw [eB 0 (by omega)]; exact hB0⟩, fun k hk => ?_, fun k hk => ?_⟩
  · rw [eR] at hk
    rw [eB k (by omega), eI k (by omega), e (1 + k) (by omega), e (7 + k) (by omega)]
    exact hr k hk
  · rw [eR] at hk
    rw [eB k (by omega), eB (k + 1) (by omega)]
    exact hasc k hk
/-- a lot's places are the same -/
def SmL (a a' : Nat → Int32) (i : Nat) : Prop := (∀ p, p < 8 → a' (24 + 8 * i + p) = a (24 + 8 * i + p)) ∧ ∀ b, b < 10 → a' (184 + 10 * i + b) = a (184 + 10 * i + b) ∧ a' (384 + 10 * i + b) = a (384 + 10 * i + b) ∧ a' (584 + 10 * i + b) = a (584 + 10 * i + b) ∧ a' (784 + 10 * i + b) = a (784 + 10 * i + b)
theorem SmL.q {a a' : Nat → Int32} {i b : Nat} (h : SmL a a' i) (hb : b < 10) : qM a' i b = qM a i b ∧ qO a' i b = qO a i b ∧ qD a' i b = qD a i b ∧ qN a' i b = qN a i b := by
  obtain ⟨e1, e2, e3, e4⟩ := h.2 b hb
  unfold qM qO qD qN
  rw [e1, e2, e3, e4]
  exact ⟨rfl, rfl, rfl, rfl⟩
theorem SmL.on {a a' : Nat → Int32} {i : Nat} (h : SmL a a' i) : onm a' i = onm a i := by
  unfold onm
  refine nac_congr 10 0 (fun b _ hb => ?_)
  show (if 0 < a' _ then 1 else 0) = if 0 < a _ then 1 else 0
  rw [(h.2 b (by omega)).1]
theorem LI.congr {a a' : Nat → Int32} {i : Nat} (h : LI a i) (hs : SmL a a' i) (hn : nm a ≤ nm a') : LI a' i := by
  obtain ⟨⟨l1, l2, l3⟩, h2, h3, h4, h5⟩ := h
  have eR : qR a' i = qR a i := by unfold qR; rw [hs.1 2 (by decide)]
  have eQ : qQ a' i = qQ a i := by unfold qQ; rw [hs.1 1 (by decide)]
  have eS : qS a' i = qS a i := by unfold qS; rw [hs.1 0 (by decide)]
  refine ⟨⟨?_, fun b hb => ?_, fun b c hb hc hbc => ?_⟩, ?_, ?_, ?_, fun b hb => ?_⟩
  · rw [eR, hs.1 2 (by decide)]; exact l1
  · obtain ⟨e1, e2, e3, e4⟩ := hs.q hb
    obtain ⟨f1, f2, f3, f4⟩ := hs.2 b hb
    rw [e1, e2, e3, e4, f1, f2, f3, f4]
    exact l2 b hb
  · obtain ⟨e1, e2, e3, e4⟩ := hs.q hb
    obtain ⟨f1, f2, f3, f4⟩ := hs.q hc
    rw [e1, e2, e3, e4, f1, f2, f3, f4]
    exact l3 b c hb hc hbc
  · rw [eQ, hs.1 1 (by decide)]; exact h2
  · rw [eS, hs.1 0 (by decide)]; exact h3
  · rw [hs.1 3 (by decide), hs.1 6 (by decide), hs.1 7 (by decide)]; exact h4
  · obtain ⟨e1, e2, e3, e4⟩ := hs.q hb
    rw [e2, e4]
    have := h5 b hb
    omega
/-- a change in one lot, and of credits, fees, numbers -/
theorem Inv.upd {a a' : Nat → Int32} {B B' i0 : Nat} (h : Inv a B) (ht : ∀ j, j < 13 ∨ j = 23 ∨ 991 ≤ j → a' j = a j) (hl : ∀ i, i < mk a → i ≠ i0 → SmL a a' i) (hi : i0 < mk a → LI a' i0)
    (hn : a' 984 = Int32.ofNat (nm a') ∧ nm a ≤ nm a' ∧ nm a' ≤ B') (ho : i0 < mk a → tot a + onm a' i0 ≤ 40 + onm a i0) : Inv a' B' := by
  obtain ⟨⟨c1, c2, c3, c4⟩, t, l, n, o, e, z⟩ := h
  have em : mk a' = mk a := by unfold mk; rw [ht 23 (by omega)]
  have ek : kp a' = kp a := by unfold kp; rw [ht 991 (by omega)]
  refine ⟨⟨?_, ?_, ?_, ?_⟩, t.congr (fun j hj => ht j (Or.inl hj)), fun i hi' => ?_, ⟨hn.1, hn.2.2⟩, ?_, fun k hk => ?_, fun j hj => ?_⟩
  · rw [em, ht 23 (by omega)]; exact c1
  · rw [em]; exact c2
  · rw [ek, ht 991 (by omega)]; exact c3
  · rw [ek]; exact c4
  · rw [em] at hi'
    by_cases q : i = i0
    · rw [q]; exact hi (q ▸ hi')
    · exact (l i hi').congr (hl i hi' q) hn.2.1
  · unfold tot
    rw [em]
    by_cases q : i0 < mk a
    · have := nac_set (g := onm a) (g' := onm a') (mk a) 0 (Nat.zero_le _) (by omega) (fun j _ hj hne => (hl j (by omega) hne).on)
      have h2 := ho q
      unfold tot at h2
      omega
    · rw [nac_congr (g := onm a') (g' := onm a) (mk a) 0 (fun j _ hj => (hl j (by omega) (by omega)).on)]
      exact o
  · rw [ek] at hk
    rw [em, ht (992 + 4 * k + 1) (by omega)]
    exact e k hk
  · rw [ht j (by omega)]
    exact z j hj
