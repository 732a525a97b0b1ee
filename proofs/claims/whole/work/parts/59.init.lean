/-! A SALE IS MADE -/
section
variable {σ : zW} {κ n o k v : Nat}
theorem nw_N : zN (nw σ κ n) = zN σ + 1 := rfl
theorem nw_S : zS (nw σ κ n) = zS σ + n := rfl
theorem nw_K : zK (nw σ κ n) o = if o = zN σ + 4 then κ else zK σ o := rfl
theorem nw_L : zL (nw σ κ n) o = if o = zN σ + 4 then n else zL σ o := rfl
theorem nw_R : zR (nw σ κ n) o = if o = zN σ + 4 then (fun _ => 0) else zR σ o := rfl
theorem nw_I : zI (nw σ κ n) o = if o = zN σ + 4 then (fun _ => 0) else zI σ o := rfl
theorem sR_R {o' k' : Nat} : zR (stR σ o k v) o' k' = if o' = o ∧ k' = k then v else zR σ o' k' := by
  show va_up σ.2.1 o (va_up (σ.2.1 o) k v) o' k' = _
  unfold va_up
  by_cases h : o' = o
  · subst h
    by_cases h2 : k' = k
    · subst h2; simp
    · simp [h2]; rfl
  · simp [h]; rfl
theorem sR_Rne {o' : Nat} (h : o' ≠ o) : zR (stR σ o k v) o' = zR σ o' := by
  funext k'
  rw [sR_R, if_neg (fun q => h q.1)]
theorem zI_sR : zI (stR σ o k v) = zI σ := rfl
end
theorem znA_e {α : Type} {σ : zW} {κ L : Nat} {x : Int32} {c : Nat → zW → Option α} (hx : x = Int32.ofNat L) (hL : L < 2147483648) (h1 : zN σ + 1 ≤ 603072) (h2 : zS σ + L ≤ 7219305) : znA σ κ x c = c (zN σ + 4) (nw σ κ L) := by
  subst hx
  unfold znA
  rw [io_nat hL, if_pos ⟨io_ge0 hL, h1, h2⟩]
theorem znO_e {α : Type} {σ : zW} {κ L : Nat} {c : Nat → zW → Option α} (h1 : zN σ + 1 ≤ 603072) (h2 : zS σ + L ≤ 7219305) : znO σ κ L c = c (zN σ + 4) (nw σ κ L) := by
  unfold znO
  rw [if_pos ⟨h1, h2⟩]
theorem zpR_e {α : Type} {σ : zW} {κ r k v v' : Nat} {c : zW → Option α} (h : zK σ r = κ) (hv : v = v') : zpR σ κ r k v c = c (stR σ r k v') := by
  unfold zpR
  rw [if_pos h, hv]
theorem zlen_e {α : Type} {σ : zW} {r L : Nat} {c : Int32 → Option α} (h : zK σ r = 20 ∨ zK σ r = 21) (hL : zL σ r = L) : zlen σ r c = c (Int32.ofNat L) := by
  unfold zlen
  rw [if_pos h, hL]
theorem zsR_e {α : Type} {σ : zW} {κ r j L v : Nat} {c : zW → Option α} (h : zK σ r = κ) (hv : zK σ v + 22 = κ) (hL : zL σ r = L) (hj : j < L) (h2 : L ≤ 2147483648) : zsR σ κ r (Int32.ofNat j) v c = c (stR σ r j v) := by
  unfold zsR
  rw [if_pos ⟨⟨h, hv⟩, by rw [hL]; exact io_zix hj (by omega)⟩, io_nat (by omega)]
/-- k objects of n slots are new; of the old ones those of E may have changed in numbers and references -/
def Gr (σ σ' : zW) (k n : Nat) (E : Nat → Prop) : Prop := zN σ' = zN σ + k ∧ zS σ' = zS σ + n ∧ (∀ o, o < zN σ + 4 → zK σ' o = zK σ o ∧ zL σ' o = zL σ o) ∧ ∀ o, o < zN σ + 4 → ¬ E o → zR σ' o = zR σ o ∧ zI σ' o = zI σ o
theorem Gr.refl {σ : zW} {E : Nat → Prop} : Gr σ σ 0 0 E := ⟨rfl, rfl, fun _ _ => ⟨rfl, rfl⟩, fun _ _ _ => ⟨rfl, rfl⟩⟩
theorem Gr.trans {σ σ1 σ2 : zW} {k1 n1 k2 n2 : Nat} {E1 E2 E : Nat → Prop} (h : Gr σ σ1 k1 n1 E1) (h' : Gr σ1 σ2 k2 n2 E2) (hE : ∀ o, o < zN σ + 4 → ¬ E o → ¬ E1 o ∧ ¬ E2 o) : Gr σ σ2 (k1 + k2) (n1 + n2) E := by
  obtain ⟨a1, a2, a3, a4⟩ := h
  obtain ⟨b1, b2, b3, b4⟩ := h'
  refine ⟨by omega, by omega, fun o ho => ?_, fun o ho hq => ?_⟩
  · have g1 := a3 o ho
    have g2 := b3 o (by omega)
    exact ⟨g2.1.trans g1.1, g2.2.trans g1.2⟩
  · obtain ⟨e1, e2⟩ := hE o ho hq
    have g1 := a4 o ho e1
    have g2 := b4 o (by omega) e2
    exact ⟨g2.1.trans g1.1, g2.2.trans g1.2⟩
theorem Gr.nw {σ : zW} {κ n : Nat} {E : Nat → Prop} : Gr σ (nw σ κ n) 1 n E := by
  refine ⟨rfl, rfl, fun o ho => ?_, fun o ho _ => ?_⟩
  · rw [nw_K, nw_L, if_neg (by omega), if_neg (by omega)]
    exact ⟨rfl, rfl⟩
  · rw [nw_R, nw_I, if_neg (by omega), if_neg (by omega)]
    exact ⟨rfl, rfl⟩
theorem Gr.st {σ : zW} {o k : Nat} {v : Int32} : Gr σ (stI σ o k v) 0 0 (fun o' => o' = o) := ⟨rfl, rfl, fun _ _ => ⟨rfl, rfl⟩, fun _ _ h => ⟨rfl, zI_st_ne h⟩⟩
theorem Gr.sA {σ : zW} {o : Nat} {f : Nat → Int32} : Gr σ (stA σ o f) 0 0 (fun o' => o' = o) := ⟨rfl, rfl, fun _ _ => ⟨rfl, rfl⟩, fun _ _ h => ⟨rfl, by rw [zI_sA, if_neg h]⟩⟩
theorem Gr.sR {σ : zW} {o k v : Nat} : Gr σ (stR σ o k v) 0 0 (fun o' => o' = o) := ⟨rfl, rfl, fun _ _ => ⟨rfl, rfl⟩, fun _ _ h => ⟨sR_Rne h, rfl⟩⟩
theorem Gr.K {σ σ' : zW} {k n o : Nat} {E : Nat → Prop} (h : Gr σ σ' k n E) (ho : o < zN σ + 4) : zK σ' o = zK σ o := (h.2.2.1 o ho).1
theorem Gr.L {σ σ' : zW} {k n o : Nat} {E : Nat → Prop} (h : Gr σ σ' k n E) (ho : o < zN σ + 4) : zL σ' o = zL σ o := (h.2.2.1 o ho).2
theorem Gr.R {σ σ' : zW} {k n o : Nat} {E : Nat → Prop} (h : Gr σ σ' k n E) (ho : o < zN σ + 4) (hE : ¬ E o) : zR σ' o = zR σ o := (h.2.2.2 o ho hE).1
theorem Gr.I {σ σ' : zW} {k n o : Nat} {E : Nat → Prop} (h : Gr σ σ' k n E) (ho : o < zN σ + 4) (hE : ¬ E o) : zI σ' o = zI σ o := (h.2.2.2 o ho hE).2
/-- a field of t gets a new row -/
def fA (σ : zW) (t k κ L : Nat) : zW := stR (nw σ κ L) t k (zN σ + 4)
theorem fA_gr {σ : zW} {t k κ L : Nat} : Gr σ (fA σ t k κ L) 1 L (fun o => o = t) := (Gr.nw (E := fun _ => False)).trans Gr.sR (fun _ _ h => ⟨fun q => q, h⟩)
theorem fA_R {σ : zW} {t k κ L : Nat} : zR (fA σ t k κ L) t k = zN σ + 4 := by
  unfold fA
  rw [sR_R, if_pos ⟨rfl, rfl⟩]
theorem fA_R_ne {σ : zW} {t k k' κ L : Nat} (ht : t < zN σ + 4) (h : k' ≠ k) : zR (fA σ t k κ L) t k' = zR σ t k' := by
  unfold fA
  rw [sR_R, if_neg (fun q => h q.2), nw_R, if_neg (by omega)]
theorem fA_new {σ : zW} {t k κ L : Nat} : zK (fA σ t k κ L) (zN σ + 4) = κ ∧ zL (fA σ t k κ L) (zN σ + 4) = L ∧ zI (fA σ t k κ L) (zN σ + 4) = fun _ => 0 := by
  refine ⟨?_, ?_, ?_⟩
  · show zK (nw σ κ L) (zN σ + 4) = κ
    rw [nw_K, if_pos rfl]
  · show zL (nw σ κ L) (zN σ + 4) = L
    rw [nw_L, if_pos rfl]
  · show zI (nw σ κ L) (zN σ + 4) = _
    rw [nw_I, if_pos rfl]
theorem fA_I {σ : zW} {t k κ L : Nat} (ht : t < zN σ + 4) : zI (fA σ t k κ L) t = zI σ t := by
  show zI (nw σ κ L) t = _
  rw [nw_I, if_neg (by omega)]
theorem fA_e {α : Type} {σ : zW} {κ κ' L t k q : Nat} {x : Int32} {c : Nat → zW → Option α} (hx : x = Int32.ofNat L) (hL : L < 2147483648) (h1 : zN σ + 1 ≤ 603072) (h2 : zS σ + L ≤ 7219305) (hk : zK σ t = κ') (ht : t < zN σ + 4) (hq : zN σ + 4 = q) : (znA σ κ x fun q1 σ2 => zpR σ2 κ' t k q1 fun σ3 => c q1 σ3) = c q (fA σ t k κ L) := by
  rw [znA_e hx hL h1 h2, zpR_e (v' := zN σ + 4) (by rw [nw_K, if_neg (by omega)]; exact hk) rfl]
  unfold fA
  rw [hq]
/-- four rows of L numbers, one behind another, in the fields 0 to 3 of t -/
def Four (σ : zW) (t L : Nat) : Prop := ∀ q, q < 4 → zR σ t q = t + (1 + q) ∧ zK σ (t + (1 + q)) = 20 ∧ zL σ (t + (1 + q)) = L
theorem four_fA {σ : zW} {t L κ' : Nat} (hk : zK σ t = κ') (ht : zN σ + 3 = t) : Gr σ (fA (fA (fA (fA σ t 0 20 L) t 1 20 L) t 2 20 L) t 3 20 L) 4 (L + L + L + L) (fun o => o = t) ∧ Four (fA (fA (fA (fA σ t 0 20 L) t 1 20 L) t 2 20 L) t 3 20 L) t L ∧ zI (fA (fA (fA (fA σ t 0 20 L) t 1 20 L) t 2 20 L) t 3 20 L) t = zI σ t := by
  have hE : ∀ o, o < zN σ + 4 → ¬ o = t → ¬ o = t ∧ ¬ o = t := fun _ _ h => ⟨h, h⟩
  have n1 : zN (fA σ t 0 20 L) = zN σ + 1 := rfl
  have n2 : zN (fA (fA σ t 0 20 L) t 1 20 L) = zN σ + 2 := rfl
  have n3 : zN (fA (fA (fA σ t 0 20 L) t 1 20 L) t 2 20 L) = zN σ + 3 := rfl
  have g1 := fA_gr (σ := σ) (t := t) (k := 0) (κ := 20) (L := L)
  have g2 := fA_gr (σ := fA σ t 0 20 L) (t := t) (k := 1) (κ := 20) (L := L)
  have g3 := fA_gr (σ := fA (fA σ t 0 20 L) t 1 20 L) (t := t) (k := 2) (κ := 20) (L := L)
  have g4 := fA_gr (σ := fA (fA (fA σ t 0 20 L) t 1 20 L) t 2 20 L) (t := t) (k := 3) (κ := 20) (L := L)
  have w1 := fA_new (σ := σ) (t := t) (k := 0) (κ := 20) (L := L)
  have w2 := fA_new (σ := fA σ t 0 20 L) (t := t) (k := 1) (κ := 20) (L := L)
  have w3 := fA_new (σ := fA (fA σ t 0 20 L) t 1 20 L) (t := t) (k := 2) (κ := 20) (L := L)
  have w4 := fA_new (σ := fA (fA (fA σ t 0 20 L) t 1 20 L) t 2 20 L) (t := t) (k := 3) (κ := 20) (L := L)
  refine ⟨((g1.trans g2 hE).trans g3 hE).trans g4 hE, ?_, ?_⟩
  · intro q hq
    match q, hq with
    | 0, _ =>
      refine ⟨?_, ?_, ?_⟩
      · rw [fA_R_ne (by omega) (by decide), fA_R_ne (by omega) (by decide), fA_R_ne (by omega) (by decide), fA_R]; omega
      · rw [g4.K (by omega), g3.K (by omega), g2.K (by omega), show t + (1 + 0) = zN σ + 4 by omega]; exact w1.1
      · rw [g4.L (by omega), g3.L (by omega), g2.L (by omega), show t + (1 + 0) = zN σ + 4 by omega]; exact w1.2.1
    | 1, _ =>
      refine ⟨?_, ?_, ?_⟩
      · rw [fA_R_ne (by omega) (by decide), fA_R_ne (by omega) (by decide), fA_R]; omega
      · rw [g4.K (by omega), g3.K (by omega), show t + (1 + 1) = zN (fA σ t 0 20 L) + 4 by omega]; exact w2.1
      · rw [g4.L (by omega), g3.L (by omega), show t + (1 + 1) = zN (fA σ t 0 20 L) + 4 by omega]; exact w2.2.1
    | 2, _ =>
      refine ⟨?_, ?_, ?_⟩
      · rw [fA_R_ne (by omega) (by decide), fA_R]; omega
      · rw [g4.K (by omega), show t + (1 + 2) = zN (fA (fA σ t 0 20 L) t 1 20 L) + 4 by omega]; exact w3.1
      · rw [g4.L (by omega), show t + (1 + 2) = zN (fA (fA σ t 0 20 L) t 1 20 L) + 4 by omega]; exact w3.2.1
    | 3, _ =>
      refine ⟨?_, ?_, ?_⟩
      · rw [fA_R]; omega
      · rw [show t + (1 + 3) = zN (fA (fA (fA σ t 0 20 L) t 1 20 L) t 2 20 L) + 4 by omega]; exact w4.1
      · rw [show t + (1 + 3) = zN (fA (fA (fA σ t 0 20 L) t 1 20 L) t 2 20 L) + 4 by omega]; exact w4.2.1
  · rw [fA_I (by omega), fA_I (by omega), fA_I (by omega), fA_I (by omega)]
theorem four_e {α : Type} {σ : zW} {t L κ' : Nat} {x : Int32} {c : zW → Option α} (hx : x = Int32.ofNat L) (hL : L < 2147483648) (hk : zK σ t = κ') (ht : zN σ + 3 = t) (h1 : zN σ + 4 ≤ 603072) (h2 : zS σ + (L + L + L + L) ≤ 7219305) :
    (znA σ 20 x fun q1 σ2 => zpR σ2 κ' t 0 q1 fun σ3 => znA σ3 20 x fun q4 σ5 => zpR σ5 κ' t 1 q4 fun σ6 => znA σ6 20 x fun q7 σ8 => zpR σ8 κ' t 2 q7 fun σ9 => znA σ9 20 x fun q10 σ11 => zpR σ11 κ' t 3 q10 fun σ12 => c σ12) = c (fA (fA (fA (fA σ t 0 20 L) t 1 20 L) t 2 20 L) t 3 20 L) := by
  have n1 : zN (fA σ t 0 20 L) = zN σ + 1 := rfl
  have n2 : zN (fA (fA σ t 0 20 L) t 1 20 L) = zN σ + 2 := rfl
  have n3 : zN (fA (fA (fA σ t 0 20 L) t 1 20 L) t 2 20 L) = zN σ + 3 := rfl
  have s1 : zS (fA σ t 0 20 L) = zS σ + L := rfl
  have s2 : zS (fA (fA σ t 0 20 L) t 1 20 L) = zS σ + L + L := rfl
  have s3 : zS (fA (fA (fA σ t 0 20 L) t 1 20 L) t 2 20 L) = zS σ + L + L + L := rfl
  have g1 := fA_gr (σ := σ) (t := t) (k := 0) (κ := 20) (L := L)
  have g2 := fA_gr (σ := fA σ t 0 20 L) (t := t) (k := 1) (κ := 20) (L := L)
  have g3 := fA_gr (σ := fA (fA σ t 0 20 L) t 1 20 L) (t := t) (k := 2) (κ := 20) (L := L)
  have k1 : zK (fA σ t 0 20 L) t = κ' := (g1.K (by omega)).trans hk
  have k2 : zK (fA (fA σ t 0 20 L) t 1 20 L) t = κ' := (g2.K (by omega)).trans k1
  have k3 : zK (fA (fA (fA σ t 0 20 L) t 1 20 L) t 2 20 L) t = κ' := (g3.K (by omega)).trans k2
  refine (fA_e (q := t + 1) hx hL (by omega) (by omega) hk (by omega) (by omega)).trans ?_
  refine (fA_e (q := t + 2) hx hL (by omega) (by omega) k1 (by omega) (by omega)).trans ?_
  refine (fA_e (q := t + 3) hx hL (by omega) (by omega) k2 (by omega) (by omega)).trans ?_
  exact fA_e (q := t + 4) hx hL (by omega) (by omega) k3 (by omega) (by omega)
section
variable {σ : zW} {n t s : Nat}
theorem c_initLot (hk : zK σ t = 3) (ht : zN σ + 3 = t) (h1 : zN σ + 4 ≤ 603072) (h2 : zS σ + 40 ≤ 7219305) : wp (fX2_init n t σ) (fun σ' => Gr σ σ' 4 40 (fun o => o = t) ∧ Four σ' t 10 ∧ zI σ' t = zI σ t) := by
  unfold fX2_init
  refine wpE (if_neg (by omega)) ?_
  refine wpE (four_e (L := 10) rfl (by decide) hk ht h1 h2) ?_
  exact wp_some (four_fA hk ht)
theorem c_initLedger (hk : zK σ t = 2) (ht : zN σ + 3 = t) (h1 : zN σ + 4 ≤ 603072) (h2 : zS σ + 1000 ≤ 7219305) : wp (fX1_init n t σ) (fun σ' => Gr σ σ' 4 1000 (fun o => o = t) ∧ Four σ' t 250 ∧ zI σ' t = zI σ t) := by
  unfold fX1_init
  refine wpE (if_neg (by omega)) ?_
  refine wpE (four_e (L := 250) rfl (by decide) hk ht h1 h2) ?_
  exact wp_some (four_fA hk ht)
/-- the class's static rows -/
def Stt (σ : zW) : Prop := zK σ 1 = 21 ∧ zL σ 1 = 4 ∧ zI σ 1 = zfb ∧ zK σ 2 = 21 ∧ zL σ 2 = 4 ∧ zI σ 2 = zfi
theorem Stt.gr {σ σ' : zW} {k n : Nat} {E : Nat → Prop} (h : Stt σ) (g : Gr σ σ' k n E) (h1 : ¬ E 1) (h2 : ¬ E 2) : Stt σ' := by
  unfold Stt
  rw [g.K (by omega), g.L (by omega), g.I (by omega) h1, g.K (by omega), g.L (by omega), g.I (by omega) h2]
  exact h
theorem zcp21_e {α : Type} {σ : zW} {r0 r1 L L1 : Nat} {x : Int32} {c : zW → Option α} (h0 : zK σ r0 = 21) (h1 : zK σ r1 = 20) (hL0 : zL σ r0 = L) (hL1 : zL σ r1 = L1) (hx : x = Int32.ofNat L) (h3 : L ≤ L1) (h4 : L < 2147483648) : zcp σ r0 0 r1 0 x c = c (stA σ r1 (va_cpy (zI σ r0) (zI σ r1) 0 0 L)) := by
  subst hx
  have e0 : (0 : Int32).toNatClampNeg = 0 := rfl
  unfold zcp
  rw [e0, io_nat h4, if_pos ⟨⟨Or.inr h0, h1⟩, ⟨Int32.le_refl 0, Int32.le_refl 0, io_ge0 h4⟩, by rw [hL0]; omega, by rw [hL1]; omega⟩]
/-- a new table -/
def Tnew (σ : zW) (t : Nat) : Prop := zR σ t 0 = t + 1 ∧ zR σ t 1 = t + 2 ∧ zK σ (t + 1) = 20 ∧ zL σ (t + 1) = 6 ∧ zK σ (t + 2) = 20 ∧ zL σ (t + 2) = 6 ∧ zI σ t 2 = 4 ∧ (∀ k, k < 6 → zI σ (t + 1) k = if k < 4 then zfb k else 0) ∧ ∀ k, k < 6 → zI σ (t + 2) k = if k < 4 then zfi k else 0
theorem c_initTable (hs : Stt σ) (hk : zK σ t = 6) (ht : zN σ + 3 = t) (ht2 : 2 < t) (h1 : zN σ + 2 ≤ 603072) (h2 : zS σ + 12 ≤ 7219305) : wp (fX5_init n t σ) (fun σ' => Gr σ σ' 2 12 (fun o => o = t) ∧ Tnew σ' t) := by
  have hE : ∀ o, o < zN σ + 4 → ¬ o = t → ¬ o = t ∧ ¬ o = t := fun _ _ h => ⟨h, h⟩
  have n1 : zN (fA σ t 0 20 6) = zN σ + 1 := rfl
  have n2 : zN (fA (fA σ t 0 20 6) t 1 20 6) = zN σ + 2 := rfl
  have s1 : zS (fA σ t 0 20 6) = zS σ + 6 := rfl
  have g1 := fA_gr (σ := σ) (t := t) (k := 0) (κ := 20) (L := 6)
  have g2 := fA_gr (σ := fA σ t 0 20 6) (t := t) (k := 1) (κ := 20) (L := 6)
  have w1 := fA_new (σ := σ) (t := t) (k := 0) (κ := 20) (L := 6)
  have w2 := fA_new (σ := fA σ t 0 20 6) (t := t) (k := 1) (κ := 20) (L := 6)
  have G := g1.trans g2 hE
  have S2 := hs.gr G (by omega) (by omega)
  have k1 : zK (fA σ t 0 20 6) t = 6 := (g1.K (by omega)).trans hk
  have k2 : zK (fA (fA σ t 0 20 6) t 1 20 6) t = 6 := (g2.K (by omega)).trans k1
  have e1 : t + 1 = zN σ + 4 := by omega
  have e2 : t + 2 = zN (fA σ t 0 20 6) + 4 := by omega
  have R0 : zR (fA (fA σ t 0 20 6) t 1 20 6) t 0 = t + 1 := by rw [fA_R_ne (by omega) (by decide), fA_R]; omega
  have R1 : zR (fA (fA σ t 0 20 6) t 1 20 6) t 1 = t + 2 := by rw [fA_R]; omega
  have K1 : zK (fA (fA σ t 0 20 6) t 1 20 6) (t + 1) = 20 := by rw [g2.K (by omega), e1]; exact w1.1
  have L1 : zL (fA (fA σ t 0 20 6) t 1 20 6) (t + 1) = 6 := by rw [g2.L (by omega), e1]; exact w1.2.1
  have I1 : zI (fA (fA σ t 0 20 6) t 1 20 6) (t + 1) = fun _ => 0 := by rw [g2.I (by omega) (by omega), e1]; exact w1.2.2
  have K2 : zK (fA (fA σ t 0 20 6) t 1 20 6) (t + 2) = 20 := by rw [e2]; exact w2.1
  have L2 : zL (fA (fA σ t 0 20 6) t 1 20 6) (t + 2) = 6 := by rw [e2]; exact w2.2.1
  have I2 : zI (fA (fA σ t 0 20 6) t 1 20 6) (t + 2) = fun _ => 0 := by rw [e2]; exact w2.2.2
  unfold fX5_init
  refine wpE (if_neg (by omega)) ?_
  refine wpE (fA_e (q := t + 1) (L := 6) rfl (by decide) (by omega) (by omega) hk (by omega) (by omega)) ?_
  refine wpE (fA_e (q := t + 2) (L := 6) rfl (by decide) (by omega) (by omega) k1 (by omega) (by omega)) ?_
  generalize fA (fA σ t 0 20 6) t 1 20 6 = τ at *
  refine wpE (zlen_e (L := 4) (Or.inr S2.1) S2.2.1) ?_
  refine wpE (zpI_e k2 rfl) ?_
  refine wpE (zgR_e k2 R0) ?_
  refine wpE (zlen_e (L := 4) (Or.inr S2.1) S2.2.1) ?_
  refine wpE (zcp21_e (L := 4) (L1 := 6) S2.1 K1 S2.2.1 L1 rfl (by decide) (by decide)) ?_
  refine wpE (zgR_e k2 R1) ?_
  refine wpE (zlen_e (L := 4) (Or.inr S2.2.2.2.1) S2.2.2.2.2.1) ?_
  refine wpE (zcp21_e (L := 4) (L1 := 6) S2.2.2.2.1 K2 S2.2.2.2.2.1 L2 rfl (by decide) (by decide)) ?_
  refine wp_some ⟨?_, R0, R1, K1, L1, K2, L2, ?_, ?_, ?_⟩
  · have q1 : Gr τ (stI τ t 2 (Int32.ofNat 4)) 0 0 (fun o => o = t) := Gr.st
    refine ((G.trans (q1.trans (E := fun o => o = t ∨ o = t + 1) Gr.sA (fun o _ h => ⟨fun q => h (Or.inl q), fun q => h (Or.inr q)⟩)) (fun o ho h => ⟨h, fun q => ?_⟩)).trans (E := fun o => o = t) Gr.sA (fun o ho h => ⟨h, by omega⟩))
    rcases q with q | q <;> omega
  · rw [zI_sA, if_neg (by omega), zI_sA, if_neg (by omega), zI_st, if_pos ⟨rfl, rfl⟩]
    rfl
  · intro k hk6
    rw [zI_sA, if_neg (by omega), zI_sA, if_pos rfl, zI_st_ne (by omega), zI_st_ne (by omega), S2.2.2.1, I1]
    unfold va_cpy
    by_cases h4 : k < 4
    · rw [if_pos ⟨Nat.zero_le _, by omega⟩, if_pos h4, Nat.zero_add, Nat.sub_zero]
    · rw [if_neg (by omega), if_neg h4]
  · intro k hk6
    rw [zI_sA, if_pos rfl, zI_sA, if_neg (by omega), zI_sA, if_neg (by omega), zI_st_ne (by omega), zI_st_ne (by omega), S2.2.2.2.2.2, I2]
    unfold va_cpy
    by_cases h4 : k < 4
    · rw [if_pos ⟨Nat.zero_le _, by omega⟩, if_pos h4, Nat.zero_add, Nat.sub_zero]
    · rw [if_neg (by omega), if_neg h4]
end
