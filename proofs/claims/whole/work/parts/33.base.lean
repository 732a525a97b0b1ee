/-! LAYER 2, ITS GROUND: answers of the functions, counters, sums, the place of a Sale's numbers -/
def wp {α : Type} (o : Option α) (Q : α → Prop) : Prop := ∃ a, o = some a ∧ Q a
theorem wp_some {α : Type} {a : α} {Q : α → Prop} (h : Q a) : wp (some a) Q := ⟨a, rfl, h⟩
theorem wp_mono {α : Type} {o : Option α} {Q R : α → Prop} (h : wp o Q) (hQ : ∀ a, Q a → R a) : wp o R := by
  obtain ⟨a, h1, h2⟩ := h
  exact ⟨a, h1, hQ a h2⟩
theorem wp_zb {α β : Type} {f : Option β} {c : β → Option α} {Q : α → Prop} (h : wp f (fun b => wp (c b) Q)) : wp (zb f c) Q := by
  obtain ⟨b, rfl, h⟩ := h
  exact h
theorem wp_zb2 {α β : Type} {f : Option (β × zW)} {c : β → zW → Option α} {Q : α → Prop} (h : wp f (fun p => wp (c p.1 p.2) Q)) : wp (zb2 f c) Q := by
  obtain ⟨b, rfl, h⟩ := h
  exact h
theorem zb_some {α β : Type} {b : β} {c : β → Option α} : zb (some b) c = c b := rfl
theorem zb2_some {α β : Type} {b : β} {s : zW} {c : β → zW → Option α} : zb2 (some (b, s)) c = c b s := rfl
theorem zbx_inl {α β : Type} {b : β} {s : zW} {c : β → zW → Option α} {t : Nat → zW → Option α} : zbx (some (.inl b, s)) c t = c b s := rfl
theorem zbx_inr {α β : Type} {k : Nat} {s : zW} {c : β → zW → Option α} {t : Nat → zW → Option α} : zbx (some ((.inr k : β ⊕ Nat), s)) c t = t k s := rfl
/-! counters -/
theorem io_nat {i : Nat} (h : i < 2147483648) : (Int32.ofNat i).toNatClampNeg = i := Int32.toNatClampNeg_ofNat_of_lt h
theorem io_lt {a b : Nat} (ha : a < 2147483648) (hb : b < 2147483648) : (Int32.ofNat a < Int32.ofNat b) = (a < b) := propext (Int32.ofNat_lt_iff_lt ha hb)
theorem io_le {a b : Nat} (ha : a < 2147483648) (hb : b < 2147483648) : (Int32.ofNat a ≤ Int32.ofNat b) = (a ≤ b) := propext (Int32.ofNat_le_iff_le ha hb)
theorem io_ge0 {a : Nat} (ha : a < 2147483648) : (0 : Int32) ≤ Int32.ofNat a := (Int32.ofNat_le_iff_le (a := 0) (by decide) ha).mpr (Nat.zero_le _)
theorem io_succ {i : Nat} : Int32.ofNat i + 1 = Int32.ofNat (i + 1) := (Int32.ofNat_add i 1).symm
theorem io_eq {a b : Nat} (ha : a < 2147483648) (hb : b < 2147483648) : (Int32.ofNat a = Int32.ofNat b) = (a = b) := by
  apply propext
  constructor
  · intro h
    have := congrArg Int32.toNatClampNeg h
    rwa [io_nat ha, io_nat hb] at this
  · intro h
    rw [h]
theorem io_zix {i L : Nat} (h : i < L) (hi : i < 2147483648) : zix (Int32.ofNat i) L := ⟨io_ge0 hi, by rw [io_nat hi]; exact h⟩
theorem io_of {x : Int32} (h : 0 ≤ x) : ∃ i : Nat, x = Int32.ofNat i ∧ i < 2147483648 ∧ i = x.toNatClampNeg := by
  refine ⟨x.toNatClampNeg, (Int32.ofNat_toNatClampNeg x h).symm, ?_, rfl⟩
  have := Int32.toInt_lt x
  show x.toInt.toNat < _
  omega
/-! sums -/
def zac (g : Nat → Int32) (i : Nat) : Nat → Int32 → Int32
  | 0, acc => acc
  | m + 1, acc => zac g (i + 1) m (acc + g i)
def zsm (N : Nat) (g : Nat → Int32) : Int32 := zac g 0 N 0
theorem zac_congr {g g' : Nat → Int32} : ∀ (m i : Nat) (acc : Int32), (∀ j, i ≤ j → j < i + m → g j = g' j) → zac g i m acc = zac g' i m acc
  | 0, _, _, _ => rfl
  | m + 1, i, acc, h => by
    show zac g (i + 1) m (acc + g i) = zac g' (i + 1) m (acc + g' i)
    rw [h i (Nat.le_refl _) (by omega)]
    exact zac_congr m (i + 1) _ (fun j h1 h2 => h j (by omega) (by omega))
theorem zsm_congr {N : Nat} {g g' : Nat → Int32} (h : ∀ j, j < N → g j = g' j) : zsm N g = zsm N g' := zac_congr N 0 0 (fun j _ h2 => h j (by omega))
theorem zac_loop {α : Type} {s : Nat → Int32 → Int32 → Option α} {N : Nat} {g : Nat → Int32} {e : Int32 → Option α}
    (hs : ∀ k acc i, i < N → s (k + 1) acc (Int32.ofNat i) = s k (acc + g i) (Int32.ofNat (i + 1))) (he : ∀ k acc, s (k + 1) acc (Int32.ofNat N) = e acc) : ∀ (m i : Nat) (acc : Int32) (n : Nat), i + m = N → m < n → s n acc (Int32.ofNat i) = e (zac g i m acc)
  | 0, i, acc, n, hi, hn => by
    obtain ⟨k, rfl⟩ : ∃ k, n = k + 1 := ⟨n - 1, by omega⟩
    rw [show i = N by omega, he]
    rfl
  | m + 1, i, acc, n, hi, hn => by
    obtain ⟨k, rfl⟩ : ∃ k, n = k + 1 := ⟨n - 1, by omega⟩
    rw [hs k acc i (by omega), zac_loop hs he m (i + 1) _ k (by omega) (by omega)]
    rfl
theorem zsm_loop {α : Type} {s : Nat → Int32 → Int32 → Option α} {N : Nat} {g : Nat → Int32} {e : Int32 → Option α} {n : Nat} (hn : N < n)
    (hs : ∀ k acc i, i < N → s (k + 1) acc (Int32.ofNat i) = s k (acc + g i) (Int32.ofNat (i + 1))) (he : ∀ k acc, s (k + 1) acc (Int32.ofNat N) = e acc) : s n 0 0 = e (zsm N g) := zac_loop hs he N 0 0 n (by omega) hn
/-! the world after a store -/
theorem zI_st {σ : zW} {o k o' k' : Nat} {v : Int32} : zI (stI σ o k v) o' k' = if o' = o ∧ k' = k then v else zI σ o' k' := by
  show va_up σ.1 o (va_up (σ.1 o) k v) o' k' = _
  unfold va_up
  by_cases h : o' = o
  · subst h
    by_cases h2 : k' = k
    · subst h2; simp
    · simp [h2]; rfl
  · simp [h]; rfl
theorem zI_st_ne {σ : zW} {o k o' : Nat} {v : Int32} (h : o' ≠ o) : zI (stI σ o k v) o' = zI σ o' := by
  funext j
  rw [zI_st, if_neg (fun q => h q.1)]
theorem st2 {σ : zW} {o k : Nat} {v : Int32} : (stI σ o k v).2 = σ.2 := rfl
/-- only ints have changed, and only in the objects of P -/
def Fr (P : Nat → Prop) (σ σ' : zW) : Prop := σ'.2 = σ.2 ∧ ∀ o, ¬ P o → zI σ' o = zI σ o
theorem Fr.refl {P : Nat → Prop} {σ : zW} : Fr P σ σ := ⟨rfl, fun _ _ => rfl⟩
theorem Fr.trans {P : Nat → Prop} {σ σ1 σ2 : zW} (h : Fr P σ σ1) (h' : Fr P σ1 σ2) : Fr P σ σ2 := ⟨h'.1.trans h.1, fun o ho => (h'.2 o ho).trans (h.2 o ho)⟩
theorem Fr.mono {P P' : Nat → Prop} {σ σ' : zW} (h : Fr P σ σ') (hP : ∀ o, P o → P' o) : Fr P' σ σ' := ⟨h.1, fun o ho => h.2 o (fun q => ho (hP o q))⟩
theorem Fr.st {P : Nat → Prop} {σ : zW} {o k : Nat} {v : Int32} (h : P o) : Fr P σ (stI σ o k v) := ⟨rfl, fun o' ho => zI_st_ne (fun e => ho (e ▸ h))⟩
theorem Fr.K {P : Nat → Prop} {σ σ' : zW} (h : Fr P σ σ') : zK σ' = zK σ := congrArg (fun p => p.2.1) h.1
theorem Fr.R {P : Nat → Prop} {σ σ' : zW} (h : Fr P σ σ') : zR σ' = zR σ := congrArg (fun p => p.1) h.1
theorem Fr.L {P : Nat → Prop} {σ σ' : zW} (h : Fr P σ σ') : zL σ' = zL σ := congrArg (fun p => p.2.2.1) h.1
theorem Fr.N {P : Nat → Prop} {σ σ' : zW} (h : Fr P σ σ') : zN σ' = zN σ := congrArg (fun p => p.2.2.2.1.1) h.1
theorem Fr.S {P : Nat → Prop} {σ σ' : zW} (h : Fr P σ σ') : zS σ' = zS σ := congrArg (fun p => p.2.2.2.1.2) h.1
theorem Fr.D {P : Nat → Prop} {σ σ' : zW} (h : Fr P σ σ') : zD σ' = zD σ := congrArg (fun p => p.2.2.2.2) h.1
/-! A SALE FROM ITS NUMBER s ON: 112 objects, one behind another. Place j of the reference's row is slot (slo j).2 of object s + (slo j).1 -/
def lo (s i : Nat) : Nat := s + (12 + 5 * i)
def slp : Nat → Nat
  | 0 => 5
  | 1 => 6
  | 2 => 7
  | 3 => 4
  | 4 => 8
  | 5 => 9
  | 6 => 10
  | _ => 11
def slo (j : Nat) : Nat × Nat :=
  if j = 0 then (1, 2) else if j < 7 then (2, j - 1) else if j < 13 then (3, j - 7) else if j < 23 then (4, j - 13) else if j = 23 then (0, 5)
  else if j < 184 then (12 + 5 * ((j - 24) / 8), slp ((j - 24) % 8)) else if j < 984 then (13 + 5 * ((j - 184) % 200 / 10) + (j - 184) / 200, (j - 184) % 10)
  else if j = 984 then (0, 6) else if j < 991 then (5, j - 985) else if j = 991 then (7, 4) else (8 + (j - 992) % 4, (j - 992) / 4)
def slq : Nat → Nat
  | 5 => 0
  | 6 => 1
  | 7 => 2
  | 4 => 3
  | 8 => 4
  | 9 => 5
  | 10 => 6
  | _ => 7
def sli (q : Nat × Nat) : Nat :=
  if q.1 = 0 then (if q.2 = 5 then 23 else 984) else if q.1 = 1 then 0 else if q.1 = 2 then 1 + q.2 else if q.1 = 3 then 7 + q.2 else if q.1 = 4 then 13 + q.2 else if q.1 = 5 then 985 + q.2
  else if q.1 = 7 then 991 else if q.1 < 12 then 992 + 4 * q.2 + (q.1 - 8) else if (q.1 - 12) % 5 = 0 then 24 + 8 * ((q.1 - 12) / 5) + slq q.2 else 184 + 200 * ((q.1 - 12) % 5 - 1) + 10 * ((q.1 - 12) / 5) + q.2
theorem sli_slo : ∀ j, j < 1992 → sli (slo j) = j := by
  intro j hj
  have h : (List.range 1992).all (fun j => sli (slo j) == j) = true := by decide +kernel
  simpa using List.all_eq_true.mp h j (List.mem_range.mpr hj)
theorem slo_lt : ∀ j, j < 1992 → (slo j).1 < 112 := by
  intro j hj
  have h : (List.range 1992).all (fun j => decide ((slo j).1 < 112)) = true := by decide +kernel
  simpa using List.all_eq_true.mp h j (List.mem_range.mpr hj)
/-- what a Sale's number j is -/
def sl (σ : zW) (s j : Nat) : Int32 := zI σ (s + (slo j).1) (slo j).2
/-- its objects are laid as its constructor lays them -/
def Sh (σ : zW) (s : Nat) : Prop :=
  (zK σ s = 4 ∧ zR σ s 0 = s + 1 ∧ zR σ s 1 = s + 4 ∧ zR σ s 2 = s + 5 ∧ zR σ s 3 = s + 6 ∧ zR σ s 4 = s + 7) ∧
  (zK σ (s + 1) = 6 ∧ zR σ (s + 1) 0 = s + 2 ∧ zR σ (s + 1) 1 = s + 3 ∧ zK σ (s + 2) = 20 ∧ zL σ (s + 2) = 6 ∧ zK σ (s + 3) = 20 ∧ zL σ (s + 3) = 6) ∧
  (zK σ (s + 4) = 20 ∧ zL σ (s + 4) = 10 ∧ zK σ (s + 5) = 20 ∧ zL σ (s + 5) = 6 ∧ zK σ (s + 6) = 25 ∧ zL σ (s + 6) = 20) ∧
  (zK σ (s + 7) = 2 ∧ ∀ q, q < 4 → zR σ (s + 7) q = s + (8 + q) ∧ zK σ (s + (8 + q)) = 20 ∧ zL σ (s + (8 + q)) = 250) ∧
  ∀ i, i < 20 → zR σ (s + 6) i = lo s i ∧ zK σ (lo s i) = 3 ∧ ∀ q, q < 4 → zR σ (lo s i) q = lo s i + (1 + q) ∧ zK σ (lo s i + (1 + q)) = 20 ∧ zL σ (lo s i + (1 + q)) = 10
/-- which places of a row of numbers count: those of made lots and of kept events -/
def Vis (a : Nat → Int32) (j : Nat) : Prop := j < 1992 ∧ (24 ≤ j → j < 184 → (j - 24) / 8 < (a 23).toNatClampNeg) ∧ (184 ≤ j → j < 984 → (j - 184) % 200 / 10 < (a 23).toNatClampNeg) ∧ (992 ≤ j → (j - 992) / 4 < (a 991).toNatClampNeg)
/-- the Sale at s holds the numbers a -/
def Rep (σ : zW) (s : Nat) (a : Nat → Int32) : Prop := Sh σ s ∧ ∀ j, Vis a j → sl σ s j = a j
def up (a : Nat → Int32) (j : Nat) (v : Int32) : Nat → Int32 := fun k => if k = j then v else a k
theorem sl_st {σ : zW} {s j0 j : Nat} {v : Int32} (h0 : j0 < 1992) (hj : j < 1992) : sl (stI σ (s + (slo j0).1) (slo j0).2 v) s j = up (sl σ s) j0 v j := by
  unfold sl up
  rw [zI_st]
  by_cases h : j = j0
  · subst h
    rw [if_pos ⟨rfl, rfl⟩, if_pos rfl]
  · rw [if_neg h, if_neg]
    intro q
    have h1 : slo j = slo j0 := Prod.ext (by have := q.1; omega) q.2
    exact h (by rw [← sli_slo j hj, h1, sli_slo j0 h0])
