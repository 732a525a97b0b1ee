/-! THE TEXT IS READ: what both sides find -/
def pn (T : Nat → Int32) (len : Nat) : Nat → Nat → Int32 → Int32 × Nat
  | 0, p, v => (v, p)
  | m + 1, p, v => if p < len ∧ 48 ≤ T p ∧ T p ≤ 57 then pn T len m (p + 1) (v * 10 + (T p - 48)) else (v, p)
def nb (x : Int32) : Nat := if x = 97 then 3 else if x = 98 then 3 else if x = 99 then 2 else if x = 104 then 1 else if x = 111 then 1 else if x = 119 then 1 else 0
def sg (T : Nat → Int32) (len p : Nat) : Int32 := if p < len then T p else -1
def nx1 (i p : Nat) : Nat := if 0 < i then p + 1 else p
def pa (T : Nat → Int32) (len : Nat) : Nat → Nat → Nat → (Nat → Int32) → Bool × Nat × (Nat → Int32)
  | 0, _, p, N => (true, p, N)
  | m + 1, i, p, N => if 0 < i ∧ ¬ (p < len ∧ T p = 44) then (false, p, N) else if (pn T len 5 (nx1 i p) 0).2 = nx1 i p then (false, nx1 i p, N) else pa T len m (i + 1) (pn T len 5 (nx1 i p) 0).2 (up N i (pn T len 5 (nx1 i p) 0).1)
def pc (T : Nat → Int32) (len p : Nat) : Bool × Nat × (Nat → Int32) := if nb (sg T len p) = 0 then (false, p, fun _ => 0) else pa T len (nb (sg T len p)) 0 (p + 1) (fun _ => 0)
def pl (T : Nat → Int32) (len : Nat) : Nat → Nat → Int32 × Nat
  | 0, _ => (0, 0)
  | m + 1, p => if (pc T len p).1 = false then (Int32.ofNat (pc T len p).2.1, 0) else if (pc T len p).2.1 = len then (-1, 1) else if T (pc T len p).2.1 = 59 then ((pl T len m ((pc T len p).2.1 + 1)).1, (pl T len m ((pc T len p).2.1 + 1)).2 + 1) else (Int32.ofNat (pc T len p).2.1, 0)
def rs (T : Nat → Int32) (len : Nat) : Nat → Nat → Prop
  | 0, _ => True
  | K + 1, p => (pc T len p).1 = true ∧ (K = 0 ∨ ((pc T len p).2.1 < len ∧ T (pc T len p).2.1 = 59 ∧ rs T len K ((pc T len p).2.1 + 1)))
def rows (T : Nat → Int32) (len : Nat) (Z : Nat → Int32) : Nat → Nat → Nat → Prop
  | 0, _, _ => True
  | K + 1, k, p => Z (4 * k) = T p ∧ (∀ j, j < nb (T p) → Z (4 * k + 1 + j) = (pc T len p).2.2 j) ∧ rows T len Z K (k + 1) ((pc T len p).2.1 + 1)
section
variable {T : Nat → Int32} {len : Nat}
theorem nb_le {x : Int32} : nb x ≤ 3 := by
  unfold nb
  repeat' split
  all_goals omega
theorem pn_b : ∀ (m p : Nat) (v : Int32), p ≤ len → p ≤ (pn T len m p v).2 ∧ (pn T len m p v).2 ≤ len
  | 0, p, v, h => ⟨Nat.le_refl _, h⟩
  | m + 1, p, v, h => by
    unfold pn
    by_cases g : p < len ∧ 48 ≤ T p ∧ T p ≤ 57
    · rw [if_pos g]
      have := pn_b m (p + 1) (v * 10 + (T p - 48)) (by omega)
      omega
    · rw [if_neg g]
      exact ⟨Nat.le_refl _, h⟩
theorem pa_b : ∀ (m i p : Nat) (N : Nat → Int32), p ≤ len → p ≤ (pa T len m i p N).2.1 ∧ (pa T len m i p N).2.1 ≤ len ∧ ((pa T len m i p N).1 = true → 0 < m → p < (pa T len m i p N).2.1)
  | 0, i, p, N, h => ⟨Nat.le_refl _, h, fun _ q => absurd q (Nat.lt_irrefl 0)⟩
  | m + 1, i, p, N, h => by
    unfold pa
    by_cases g : 0 < i ∧ ¬ (p < len ∧ T p = 44)
    · rw [if_pos g]
      exact ⟨Nat.le_refl _, h, fun q => by cases q⟩
    · rw [if_neg g]
      have hn : p ≤ nx1 i p ∧ nx1 i p ≤ len := by
        unfold nx1
        by_cases h0 : 0 < i
        · rw [if_pos h0]
          have : p < len := Classical.byContradiction fun q => g ⟨h0, fun z => q z.1⟩
          omega
        · rw [if_neg h0]
          omega
      by_cases g2 : (pn T len 5 (nx1 i p) 0).2 = nx1 i p
      · rw [if_pos g2]
        exact ⟨hn.1, hn.2, fun q => by cases q⟩
      · rw [if_neg g2]
        have b1 := pn_b (T := T) 5 (nx1 i p) 0 hn.2
        have b2 := pa_b m (i + 1) (pn T len 5 (nx1 i p) 0).2 (up N i (pn T len 5 (nx1 i p) 0).1) b1.2
        refine ⟨by omega, b2.2.1, fun _ _ => by omega⟩
theorem sg_pos {p : Nat} (h : nb (sg T len p) ≠ 0) : p < len ∧ sg T len p = T p := by
  unfold sg at h ⊢
  by_cases g : p < len
  · rw [if_pos g]
    exact ⟨g, rfl⟩
  · rw [if_neg g] at h
    exact absurd (by decide) h
theorem pc_b {p : Nat} (h : p ≤ len) : p ≤ (pc T len p).2.1 ∧ (pc T len p).2.1 ≤ len ∧ ((pc T len p).1 = true → p + 2 ≤ (pc T len p).2.1 ∧ p < len) := by
  unfold pc
  by_cases g : nb (sg T len p) = 0
  · rw [if_pos g]
    exact ⟨Nat.le_refl _, h, fun q => by cases q⟩
  · rw [if_neg g]
    have g1 := sg_pos g
    have := pa_b (T := T) (len := len) (nb (sg T len p)) 0 (p + 1) (fun _ => 0) (by omega)
    refine ⟨by omega, this.2.1, fun q => ?_⟩
    have := this.2.2 q (by omega)
    omega
theorem pl_rs : ∀ (m p : Nat), p ≤ len → len ≤ 60 → (pl T len m p).1 = -1 → p + 3 * m ≥ 63 → rs T len (pl T len m p).2 p ∧ 1 ≤ (pl T len m p).2
  | 0, p, h, h60, q, hm => absurd (show (0 : Int32) = -1 from q) (by decide)
  | m + 1, p, h, h60, q, hm => by
    have b := pc_b (T := T) h
    have nn : ∀ x : Nat, x ≤ 60 → Int32.ofNat x ≠ -1 := fun x hx z => by
      have h1 : (0 : Int32) ≤ Int32.ofNat x := io_ge0 (by omega)
      rw [z] at h1
      exact absurd h1 (by decide)
    unfold pl at q ⊢
    by_cases g1 : (pc T len p).1 = false
    · rw [if_pos g1] at q
      exact absurd q (nn _ (by omega))
    · have t : (pc T len p).1 = true := by cases hh : (pc T len p).1 <;> simp_all
      rw [if_neg g1] at q ⊢
      by_cases g2 : (pc T len p).2.1 = len
      · rw [if_pos g2]
        exact ⟨⟨t, Or.inl rfl⟩, Nat.le_refl 1⟩
      · rw [if_neg g2] at q ⊢
        by_cases g3 : T (pc T len p).2.1 = 59
        · rw [if_pos g3] at q ⊢
          have b3 := b.2.2 t
          have r := pl_rs m ((pc T len p).2.1 + 1) (by omega) h60 q (by omega)
          exact ⟨⟨t, Or.inr ⟨by omega, g3, r.1⟩⟩, by show 1 ≤ _ + 1; omega⟩
        · rw [if_neg g3] at q
          exact absurd q (nn _ (by omega))
end
/-! the class reads -/
section
variable {σ τ : zW} {S : St} {c n : Nat}
def Nu (σ σ' : zW) (p : Nat) : Prop := Fr (fun o => o = 122 ∨ o = 124) σ σ' ∧ (∀ k, k ≠ 3 → zI σ' 122 k = zI σ 122 k) ∧ zI σ' 122 3 = Int32.ofNat p
theorem Nu.tr {σ1 σ2 : zW} {p q : Nat} (h : Nu σ σ1 p) (h2 : Nu σ1 σ2 q) : Nu σ σ2 q := ⟨h.1.trans h2.1, fun k hk => (h2.2.1 k hk).trans (h.2.1 k hk), h2.2.2⟩
theorem JC.nu {σ' : zW} (h : JC σ S c) (hf : Fr (fun o => o = 122 ∨ o = 124) σ σ') (h2 : zI σ' 122 2 = zI σ 122 2) : JC σ' S c := by
  have hF : Fr (fun o => o = 4 ∨ o = 122 ∨ o = 123 ∨ o = 124) σ σ' := hf.mono (fun o q => by omega)
  have e4 : zI σ' 4 = zI σ 4 := hf.2 4 (by decide)
  have e3 : zI σ' 123 = zI σ 123 := hf.2 123 (by decide)
  exact h.ty (l := sTl S) (r := sTr S) (x := sTx S) (m := S.2.2.2.2.2) (f := sFl S) hF (congrFun e4 5) ((congrFun e4 6).trans h.fl) (h2.trans h.tl) (fun j hj => by rw [e3]; exact h.tx j hj)
theorem Nu.jc {σ' : zW} {p : Nat} (h : Nu σ σ' p) (hJ : JC σ S c) : JC σ' S c := hJ.nu h.1 (h.2.1 2 (by decide))
theorem Nu.st {p : Nat} : Nu σ (stI σ 122 3 (Int32.ofNat p)) p := ⟨Fr.st (Or.inl rfl), fun k hk => by rw [zI_st, if_neg (fun q => hk q.2)], by rw [zI_st, if_pos ⟨rfl, rfl⟩]⟩
theorem io48 {T : Nat → Int32} {p : Nat} : ¬ T p < 48 ↔ 48 ≤ T p := Int32.not_lt
theorem c_num82 (hJ : JC σ S c) {p idx d : Nat} {v : Int32} (hp : zI σ 122 3 = Int32.ofNat p) (hi : idx < 3) (hd : d ≤ 5) : wp (sX6_readNumber_82 n 122 (Int32.ofNat idx) v (Int32.ofNat d) σ) (fun r => r.1 = (if 0 < d then 1 else 0) ∧ Nu σ r.2 p ∧ zI r.2 124 = up (zI σ 124) idx v) := by
  obtain ⟨t0, t1, t2, t3, t4, t5⟩ := hJ.tk
  unfold sX6_readNumber_82
  refine wpE (zgR_e hJ.kt t1) ?_
  refine wpE (zsN_e t4 t5 hi (by decide) rfl) ?_
  have fin : Nu σ (stI σ 124 idx v) p ∧ zI (stI σ 124 idx v) 124 = up (zI σ 124) idx v := by
    refine ⟨⟨Fr.st (Or.inr rfl), fun k hk => by rw [zI_st_ne (by decide)], by rw [zI_st_ne (by decide)]; exact hp⟩, ?_⟩
    funext j
    rw [zI_st]
    unfold up
    by_cases g : j = idx
    · rw [if_pos ⟨rfl, g⟩, if_pos g]
    · rw [if_neg (fun q => g q.2), if_neg g]
  by_cases g : 0 < d
  · refine wpE (if_pos (Eq.mpr (io_pos (by omega)) g)) ?_
    unfold sX6_readNumber_98
    refine wpE (if_pos (Or.inr rfl)) (wp_some ⟨(if_pos g).symm, fin⟩)
  · refine wpE (if_neg (fun z => g (Eq.mp (io_pos (by omega)) z))) ?_
    unfold sX6_readNumber_98
    refine wpE (if_pos (Or.inl rfl)) (wp_some ⟨(if_neg g).symm, fin⟩)
theorem c_num (hl : sTl S ≤ 60) {idx : Nat} (hi : idx < 3) : ∀ (m k p d : Nat) (v : Int32) (σ : zW), JC σ S c → zI σ 122 3 = Int32.ofNat p → p ≤ sTl S → d + m = 5 → m < k →
    wp (sX6_readNumber_4 n k 122 (Int32.ofNat idx) v (Int32.ofNat d) σ) (fun r => r.1 = (if 0 < d ∨ (pn (sTx S) (sTl S) m p v).2 ≠ p then 1 else 0) ∧ Nu σ r.2 (pn (sTx S) (sTl S) m p v).2 ∧ zI r.2 124 = up (zI σ 124) idx (pn (sTx S) (sTl S) m p v).1)
  | m, 0, _, _, _, _, _, _, _, _, hk => absurd hk (by omega)
  | 0, k + 1, p, d, v, σ, hJ, hp, hpl, hd, hk => by
    have hlt : (Int32.ofNat d < 5) = (d < 5) := io_lt (b := 5) (by omega) (by decide)
    rw [sX6_readNumber_4]
    refine wpE (if_neg (fun z => by have := hlt ▸ z; omega)) ?_
    refine wp_mono (c_num82 hJ hp hi (by omega)) (fun r q => ⟨?_, q.2⟩)
    rw [q.1, if_pos (show 0 < d by omega), if_pos (Or.inl (show 0 < d by omega))]
  | m + 1, k + 1, p, d, v, σ, hJ, hp, hpl, hd, hk => by
    obtain ⟨t0, t1, t2, t3, t4, t5⟩ := hJ.tk
    have hlt : (Int32.ofNat d < 5) = (d < 5) := io_lt (b := 5) (by omega) (by decide)
    have hpp : (Int32.ofNat p < Int32.ofNat (sTl S)) = (p < sTl S) := io_lt (by omega) (by omega)
    have no : ¬ (p < sTl S ∧ 48 ≤ sTx S p ∧ sTx S p ≤ 57) → wp (sX6_readNumber_82 n 122 (Int32.ofNat idx) v (Int32.ofNat d) σ) (fun r => r.1 = (if 0 < d ∨ (pn (sTx S) (sTl S) (m + 1) p v).2 ≠ p then 1 else 0) ∧ Nu σ r.2 (pn (sTx S) (sTl S) (m + 1) p v).2 ∧ zI r.2 124 = up (zI σ 124) idx (pn (sTx S) (sTl S) (m + 1) p v).1) := fun g => by
      have e : pn (sTx S) (sTl S) (m + 1) p v = (v, p) := if_neg g
      rw [e]
      refine wp_mono (c_num82 hJ hp hi (by omega)) (fun r q => ⟨?_, q.2⟩)
      rw [q.1]
      by_cases g0 : 0 < d
      · rw [if_pos g0, if_pos (Or.inl g0)]
      · rw [if_neg g0, if_neg (fun z => by rcases z with z | z; exact g0 z; exact z rfl)]
    rw [sX6_readNumber_4]
    refine wpE (if_pos (hlt.symm ▸ (show d < 5 by omega))) ?_
    refine wpE (zgI_e hJ.kt hp) ?_
    refine wpE (zgI_e hJ.kt hJ.tl) ?_
    by_cases g1 : p < sTl S
    · have rd : ∀ (α : Type) (f : Int32 → Option α), zaC σ 123 (Int32.ofNat p) f = f (sTx S p) := fun α f => zaC_e t2 t3 (show p < 60 by omega) (by decide) (hJ.tx p g1)
      refine wpE (if_pos (hpp.symm ▸ g1)) ?_
      refine wpE (zgR_e hJ.kt t0) ?_
      refine wpE (zgI_e hJ.kt hp) ?_
      refine wpE (rd _ _) ?_
      by_cases g2 : sTx S p < 48
      · exact wpE (if_pos g2) (no (fun z => Int32.not_lt.mpr z.2.1 g2))
      · refine wpE (if_neg g2) ?_
        refine wpE (zgR_e hJ.kt t0) ?_
        refine wpE (zgI_e hJ.kt hp) ?_
        refine wpE (rd _ _) ?_
        by_cases g3 : 57 < sTx S p
        · exact wpE (if_pos g3) (no (fun z => Int32.not_lt.mpr z.2.2 g3))
        · have gg : p < sTl S ∧ 48 ≤ sTx S p ∧ sTx S p ≤ 57 := ⟨g1, Int32.not_lt.mp g2, Int32.not_lt.mp g3⟩
          have e : pn (sTx S) (sTl S) (m + 1) p v = pn (sTx S) (sTl S) m (p + 1) (v * 10 + (sTx S p - 48)) := if_pos gg
          refine wpE (if_neg g3) ?_
          refine wpE (zgR_e hJ.kt t0) ?_
          refine wpE (zgI_e hJ.kt hp) ?_
          refine wpE (rd _ _) ?_
          refine wpE (zgI_e hJ.kt hp) ?_
          refine wpE (zpI_e hJ.kt io_succ) ?_
          have N1 : Nu σ (stI σ 122 3 (Int32.ofNat (p + 1))) (p + 1) := Nu.st
          rw [io_succ, e]
          have b := pn_b (T := sTx S) (len := sTl S) m (p + 1) (v * 10 + (sTx S p - 48)) (by omega)
          refine wp_mono (c_num hl hi m k (p + 1) (d + 1) _ _ (N1.jc hJ) N1.2.2 (by omega) (by omega) (by omega)) (fun r q => ⟨?_, N1.tr q.2.1, ?_⟩)
          · rw [q.1, if_pos (Or.inl (by omega)), if_pos (Or.inr (by omega))]
          · rw [q.2.2, zI_st_ne (by decide)]
    · exact wpE (if_neg (fun z => g1 (hpp ▸ z))) (no (fun z => g1 z.1))
theorem c_passes (hJ : JC σ S c) (hl : sTl S ≤ 60) {p : Nat} (hp : zI σ 122 3 = Int32.ofNat p) (hpl : p ≤ sTl S) (ch : Int32) : (p < sTl S ∧ sTx S p = ch → fX6_passes n 122 ch σ = some (1, stI σ 122 3 (Int32.ofNat (p + 1)))) ∧ (¬ (p < sTl S ∧ sTx S p = ch) → fX6_passes n 122 ch σ = some (0, σ)) := by
  obtain ⟨t0, t1, t2, t3, t4, t5⟩ := hJ.tk
  have hpp : (Int32.ofNat p < Int32.ofNat (sTl S)) = (p < sTl S) := io_lt (by omega) (by omega)
  have z24 : sX6_passes_24 n σ = some (0, σ) := if_pos (Or.inl rfl)
  unfold fX6_passes
  constructor
  · rintro ⟨g1, g2⟩
    refine (zgI_e hJ.kt hp).trans ((zgI_e hJ.kt hJ.tl).trans ((if_pos (hpp.symm ▸ g1)).trans ((zgR_e hJ.kt t0).trans ((zgI_e hJ.kt hp).trans ((zaC_e t2 t3 (show p < 60 by omega) (by decide) (hJ.tx p g1)).trans ((if_pos g2).trans ((zgI_e hJ.kt hp).trans ((zpI_e hJ.kt io_succ).trans (if_pos (Or.inr rfl)))))))))) 
  · intro g
    by_cases g1 : p < sTl S
    · exact (zgI_e hJ.kt hp).trans ((zgI_e hJ.kt hJ.tl).trans ((if_pos (hpp.symm ▸ g1)).trans ((zgR_e hJ.kt t0).trans ((zgI_e hJ.kt hp).trans ((zaC_e t2 t3 (show p < 60 by omega) (by decide) (hJ.tx p g1)).trans ((if_neg (fun z => g ⟨g1, z⟩)).trans z24))))))
    · exact (zgI_e hJ.kt hp).trans ((zgI_e hJ.kt hJ.tl).trans ((if_neg (fun z => g1 (hpp ▸ z))).trans z24))
end
