/-! A CALL OF THE LAW -/
def SI (S : St) (B : Nat) : Prop := Inv (sA S) B ∧ (∀ k, k < sPc S → Inv (sP S k) B) ∧ (sB S = true → Inv (sV S) B) ∧ sTl S ≤ 60 ∧ ∀ j, j < sTl S → 0 ≤ sTx S j ∧ sTx S j ≤ 65535
theorem SI.mono {S : St} {B B' : Nat} (h : SI S B) (hB : B ≤ B') : SI S B' := ⟨h.1.mono hB, fun k hk => (h.2.1 k hk).mono hB, fun q => (h.2.2.1 q).mono hB, h.2.2.2⟩
theorem SI.keep {S : St} {B : Nat} (h : SI S B) : SI (keepS S) B := by
  obtain ⟨h1, h2, h3, h4⟩ := h
  refine ⟨h1, fun k hk => ?_, h3, h4⟩
  have hk : k < min (sPc S + 1) 10 := hk
  show Inv (if k = min (sPc S) 9 then sA S else if sPc S = 10 then sP S (k + 1) else sP S k) B
  by_cases g : k = min (sPc S) 9
  · rw [if_pos g]; exact h1
  · rw [if_neg g]
    by_cases g2 : sPc S = 10
    · rw [if_pos g2]; exact h2 _ (by omega)
    · rw [if_neg g2]; exact h2 _ (by omega)
theorem SI.row {S : St} {B B' : Nat} {a : Nat → Int32} (h : SI S B) (ha : Inv a B') (hB : B ≤ B') : SI (uA S a) B' := ⟨ha, (h.mono hB).2⟩
def LW (σ : zW) (L : Nat) (xs : Nat → Int32) : Prop := zK σ 3 = 21 ∧ zL σ 3 = L ∧ zI σ 3 = xs ∧ zK σ 131 = 23 ∧ zL σ 131 = 1 ∧ zK σ 132 = 24 ∧ zL σ 132 = 1
def JJ (σ : zW) (S : St) (c L : Nat) (xs : Nat → Int32) : Prop := LW σ L xs ∧ JC σ S c ∧ JR σ S ∧ SI S (100 * c) ∧ sTr S = sTl S
theorem LW.fc {σ σ' : zW} {L : Nat} {xs : Nat → Int32} (h : LW σ L xs) (hf : FC σ σ') : LW σ' L xs := by
  obtain ⟨a1, a2, a3, a4⟩ := hf 3 (by omega)
  obtain ⟨b1, b2, b3, b4⟩ := hf 131 (by omega)
  obtain ⟨c1, c2, c3, c4⟩ := hf 132 (by omega)
  unfold LW at h ⊢
  rw [a1, a3, a4, b1, b3, c1, c3]
  exact h
theorem LW.fr {P : Nat → Prop} {σ σ' : zW} {L : Nat} {xs : Nat → Int32} (h : LW σ L xs) (hf : Fr P σ σ') (h3 : ¬ P 3) : LW σ' L xs := by
  unfold LW at h ⊢
  rw [hf.K, hf.L, hf.2 3 h3]
  exact h
theorem LW.pr {σ σ' : zW} {L : Nat} {xs : Nat → Int32} (h : LW σ L xs) (hf : Fr PR σ σ') : LW σ' L xs := h.fr hf (fun q => by have := q.1; omega)
theorem LW.out {σ : zW} {L : Nat} {xs : Nat → Int32} {v : Int32} (h : LW σ L xs) : LW (stI σ 131 0 v) L xs := h.fr (Fr.st (P := fun o => o = 131) rfl) (by decide)
theorem JR.out {σ : zW} {S : St} {v : Int32} (h : JR σ S) : JR (stI σ 131 0 v) S := by
  have e : ∀ o, o ≠ 131 → zI (stI σ 131 0 v) o = zI σ o := fun o ho => zI_st_ne ho
  unfold JR LM at h ⊢
  rw [e 125 (by decide), e 126 (by decide), e 127 (by decide), e 128 (by decide), e 129 (by decide), e 130 (by decide)]
  exact h
theorem zaS_e {α : Type} {σ : zW} {L i q : Nat} {xs : Nat → Int32} {c : Int32 → Option α} (h : LW σ L xs) (hi : i + q < L) (hL : L ≤ 2560) : zaI σ 3 (Int32.ofNat i + Int32.ofNat q) c = c (xs (i + q)) := by
  rw [ixl]
  unfold zaI
  rw [if_pos ⟨Or.inr h.1, by rw [h.2.1]; exact io_zix hi (by omega)⟩, io_nat (by omega), h.2.2.1]
theorem zsL_e {α : Type} {σ : zW} {r L : Nat} {v : Int32} {c : zW → Option α} (h : zK σ r = 23) (hL : zL σ r = L) (h0 : 0 < L) : zsL σ r 0 v c = c (stI σ r 0 v) := by
  unfold zsL
  rw [if_pos ⟨h, by rw [hL]; exact ⟨Int32.le_refl 0, h0⟩⟩]
  rfl
theorem zaL_e {α : Type} {σ : zW} {r L : Nat} {c : Int32 → Option α} (h : zK σ r = 23) (hL : zL σ r = L) (h0 : 0 < L) : zaL σ r 0 c = c (zI σ r 0) := by
  unfold zaL
  rw [if_pos ⟨h, by rw [hL]; exact ⟨Int32.le_refl 0, h0⟩⟩]
  rfl
/-- the reference's number 'thrown' is k, the rest of its state as it was -/
def Trw (τ : zW) (k : Int32) (τ' : zW) : Prop := zI τ' 125 0 = k ∧ Fr PR τ τ' ∧ ∀ S, JR τ S → JR τ' S
theorem Trw.one {τ : zW} {k : Int32} : Trw τ k (stI τ 125 0 k) := ⟨by rw [zI_st, if_pos ⟨rfl, rfl⟩], PR.i, fun _ h => h.i (Or.inl rfl)⟩
theorem Trw.two {τ : zW} {k l : Int32} : Trw τ k (stI (stI τ 125 0 l) 125 0 k) := ⟨by rw [zI_st, if_pos ⟨rfl, rfl⟩], PR.i.trans PR.i, fun _ h => (h.i (Or.inl rfl)).i (Or.inl rfl)⟩
theorem tx_of {S S' : St} (h : S'.2.2.2.2 = S.2.2.2.2) (q : sTr S = sTl S) : sTr S' = sTl S' := by
  show S'.2.2.2.2.1.1.2 = S'.2.2.2.2.1.1.1
  rw [h]
  exact q
/-- a call on both sides: F the class's, G the reference's -/
def OPR (F G : zW → Option (Int32 × zW)) (σ : zW) (S : St) (c : Nat) : Prop :=
  ∃ k σ1 S', F σ = some (k, σ1) ∧ JC σ1 S' (c + 1) ∧ (∀ L xs, LW σ L xs → LW σ1 L xs) ∧ (JR σ S → JR σ1 S) ∧ (SI S' (100 * (c + 1)) ∧ (sTr S = sTl S → sTr S' = sTl S')) ∧ ∀ τ, JR τ S → ∃ b τ', G τ = some (b, τ') ∧ zI τ' 125 0 = k ∧ (k = 0 → b = zI σ1 131 0) ∧ JR τ' S' ∧ Fr PR τ τ'
section
variable {X : zW → Option ((Int32 ⊕ Nat) × zW)} {tr : Nat → zW → Option (Int32 × zW)} {G : zW → Option (Int32 × zW)} {σ σ1 : zW} {S S' : St} {c : Nat}
abbrev lF (X : zW → Option ((Int32 ⊕ Nat) × zW)) (tr : Nat → zW → Option (Int32 × zW)) : zW → Option (Int32 × zW) := fun σ => zck σ 8 4 (zbx (X σ) (fun x1 σ2 => zsL σ2 131 0 x1 fun σ7 => some (0, σ7)) tr)
theorem OPR.ok {v : Int32} (hJ : JC σ S c) (hW : zK σ 131 = 23 ∧ zL σ 131 = 1) (e : X σ = some (.inl v, σ1)) (j : JC σ1 S' c) (f : FC σ σ1) (hs : SI S' (100 * (c + 1))) (hr : ∀ τ, JR τ S → ∃ τ', G τ = some (v, τ') ∧ zI τ' 125 0 = 0 ∧ JR τ' S' ∧ Fr PR τ τ') (hE : S'.2.2.2.2 = S.2.2.2.2 := by rfl) : OPR (lF X tr) G σ S c := by
  obtain ⟨f1, f2, f3, f4⟩ := f 131 (by omega)
  refine ⟨0, stI σ1 131 0 v, S', ?_, ?_, fun L xs h => (h.fc f).out, fun h => (h.fc f).out, ⟨hs, tx_of hE⟩, fun τ hτ => ?_⟩
  · refine (zck_e hJ.1.1.1.1).trans ((zbx_l e).trans ?_)
    exact zsL_e (L := 1) (f1.trans hW.1) (f3.trans hW.2) (by decide)
  · exact (j.fr (Fr.st (P := fun o => o = 131) rfl) (fun o ho => by have : o = 131 := ho; omega)).mono (by omega)
  · obtain ⟨τ', g1, g2, g3, g4⟩ := hr τ hτ
    exact ⟨v, τ', g1, g2, fun _ => by rw [zI_st, if_pos ⟨rfl, rfl⟩], g3, g4⟩
theorem OPR.ex {e : Nat} {k : Int32} (hJ : JC σ S c) (he : X σ = some (.inr e, σ1)) (ht : tr e σ1 = some (k, σ1)) (hk : k ≠ 0) (j : JC σ1 S' (c + 1)) (f : FC σ σ1) (hs : SI S' (100 * (c + 1))) (hr : ∀ τ, JR τ S → ∃ b τ', G τ = some (b, τ') ∧ zI τ' 125 0 = k ∧ JR τ' S' ∧ Fr PR τ τ') (hE : S'.2.2.2.2 = S.2.2.2.2 := by rfl) : OPR (lF X tr) G σ S c := by
  refine ⟨k, σ1, S', ?_, j, fun L xs h => h.fc f, fun h => h.fc f, ⟨hs, tx_of hE⟩, fun τ hτ => ?_⟩
  · exact (zck_e hJ.1.1.1.1).trans ((zbx_r he).trans ht)
  · obtain ⟨b, τ', g1, g2, g3, g4⟩ := hr τ hτ
    exact ⟨b, τ', g1, g2, fun q => absurd q hk, g3, g4⟩
/-- the call throws at once -/
theorem OPR.thr {e : Nat} {k : Int32} (hJ : JC σ S c) (hS : SI S (100 * c)) (he : X σ = some (.inr e, nwX σ)) (ht : tr e (nwX σ) = some (k, nwX σ)) (hk : k ≠ 0) (hr : ∀ τ, JR τ S → ∃ b τ', G τ = some (b, τ') ∧ Trw τ k τ') : OPR (lF X tr) G σ S c :=
  OPR.ex hJ he ht hk hJ.thr FC.thr (hS.mono (by omega)) (fun τ hτ => by
    obtain ⟨b, τ', g1, g2, g3, g4⟩ := hr τ hτ
    exact ⟨b, τ', g1, g2, g4 S hτ, g3⟩)
/-- the call only reads -/
theorem OPR.rd {v : Int32} (hJ : JC σ S c) (hS : SI S (100 * c)) (hW : zK σ 131 = 23 ∧ zL σ 131 = 1) (e : X σ = some (.inl v, σ1)) (j : JC σ1 S c) (f : FC σ σ1) (hr : ∀ τ, JR τ S → ∃ τ', G τ = some (v, τ') ∧ Trw τ 0 τ') : OPR (lF X tr) G σ S c :=
  OPR.ok hJ hW e j f (hS.mono (by omega)) (fun τ hτ => by
    obtain ⟨τ', g1, g2, g3, g4⟩ := hr τ hτ
    exact ⟨τ', g1, g2, g4 S hτ, g3⟩)
end
theorem FC.v {σ σ' : zW} (h : Fr (Pv 117) σ σ') : FC σ σ' := h.fc (fun o q => Or.inl ⟨by have := q.1; omega, by have := q.2; omega⟩)
theorem JC.v {σ σ' : zW} {S : St} {c : Nat} (hJ : JC σ S c) (h : Fr (Pv 117) σ σ') : JC σ' S c := hJ.fr h (fun o q => Or.inl ⟨q.1, q.2⟩)
/-! what is asked first -/
theorem lot_cases {a : Nat → Int32} (hc : Cn a) (p : Int32) : (∃ i, p = Int32.ofNat i ∧ i < mk a ∧ i < 20 ∧ (0 ≤ p ∧ p < a 23) ∧ (0 ≤ p ∧ p ≤ a 23 - 1)) ∨ (¬ (0 ≤ p ∧ p < a 23) ∧ ¬ (0 ≤ p ∧ p ≤ a 23 - 1)) := by
  obtain ⟨h23, hm, -, -⟩ := hc
  by_cases h0 : 0 ≤ p
  · obtain ⟨i, rfl, hi, -⟩ := io_of h0
    have e1 : (Int32.ofNat i < a 23) = (i < mk a) := by rw [h23, io_lt hi (by omega)]
    by_cases hz : mk a = 0
    · refine Or.inr ⟨fun q => ?_, fun q => ?_⟩
      · have := e1 ▸ q.2
        omega
      · have q2 := q.2
        rw [h23, hz] at q2
        have h5 : (0 : Int32) ≤ Int32.ofNat i := h0
        have : (0 : Int32) ≤ Int32.ofNat 0 - 1 := Int32.le_trans h5 q2
        exact absurd this (by decide)
    · have e2 : (Int32.ofNat i ≤ a 23 - 1) = (i ≤ mk a - 1) := by rw [h23, io_one (by omega), io_le hi (by omega)]
      by_cases hi2 : i < mk a
      · exact Or.inl ⟨i, rfl, hi2, by omega, ⟨h0, e1.symm ▸ hi2⟩, ⟨h0, e2.symm ▸ (show i ≤ mk a - 1 by omega)⟩⟩
      · exact Or.inr ⟨fun q => hi2 (e1 ▸ q.2), fun q => by have := e2 ▸ q.2; omega⟩
  · exact Or.inr ⟨fun q => h0 q.1, fun q => h0 q.1⟩
theorem bid_cases (p : Int32) : (∃ b, p = Int32.ofNat b ∧ b < 10 ∧ (0 ≤ p ∧ p < 10) ∧ (0 ≤ p ∧ p ≤ 9)) ∨ (¬ (0 ≤ p ∧ p < 10) ∧ ¬ (0 ≤ p ∧ p ≤ 9)) := by
  by_cases h0 : 0 ≤ p
  · obtain ⟨i, rfl, hi, -⟩ := io_of h0
    have e1 : (Int32.ofNat i < 10) = (i < 10) := io_lt (b := 10) hi (by decide)
    have e2 : (Int32.ofNat i ≤ 9) = (i ≤ 9) := io_le (b := 9) hi (by decide)
    by_cases h : i < 10
    · exact Or.inl ⟨i, rfl, h, ⟨h0, e1.symm ▸ h⟩, ⟨h0, e2.symm ▸ (show i ≤ 9 by omega)⟩⟩
    · exact Or.inr ⟨fun q => h (e1 ▸ q.2), fun q => by have := e2 ▸ q.2; omega⟩
  · exact Or.inr ⟨fun q => h0 q.1, fun q => h0 q.1⟩
/-- a number within its bounds -/
theorem in_cases {p : Int32} (l u : Nat) (hu : u < 2147483648) (hl : l ≤ u) (h : Int32.ofNat l ≤ p ∧ p ≤ Int32.ofNat u) : ∃ x, p = Int32.ofNat x ∧ l ≤ x ∧ x ≤ u := by
  have hp := Int32.le_iff_toInt_le.mp h.2
  have hp1 := Int32.le_iff_toInt_le.mp h.1
  have e2 : (Int32.ofNat u).toInt = u := Int32.toInt_ofNat_of_lt hu
  have e1 : (Int32.ofNat l).toInt = l := Int32.toInt_ofNat_of_lt (by omega)
  have e3 : (0 : Int32).toInt = 0 := rfl
  have h00 : (0 : Int32) ≤ p := Int32.le_iff_toInt_le.mpr (by omega)
  obtain ⟨x, rfl, hx, -⟩ := io_of h00
  have e4 : (Int32.ofNat x).toInt = x := Int32.toInt_ofNat_of_lt hx
  exact ⟨x, rfl, by omega, by omega⟩
