section
variable {σ τ : zW} {S : St} {c n : Nat}
def Na (σ σ' : zW) (p : Nat) : Prop := Fr (fun o => o = 122 ∨ o = 124) σ σ' ∧ (∀ k, k ≠ 3 → k ≠ 5 → zI σ' 122 k = zI σ 122 k) ∧ zI σ' 122 3 = Int32.ofNat p
theorem Nu.na {σ' : zW} {p : Nat} (h : Nu σ σ' p) : Na σ σ' p := ⟨h.1, fun k hk _ => h.2.1 k hk, h.2.2⟩
theorem Na.tr {σ1 σ2 : zW} {p q : Nat} (h : Na σ σ1 p) (h2 : Na σ1 σ2 q) : Na σ σ2 q := ⟨h.1.trans h2.1, fun k hk h5 => (h2.2.1 k hk h5).trans (h.2.1 k hk h5), h2.2.2⟩
theorem Na.jc {σ' : zW} {p : Nat} (h : Na σ σ' p) (hJ : JC σ S c) : JC σ' S c := hJ.nu h.1 (h.2.1 2 (by decide) (by decide))
theorem b01 {α : Type} {x : Int32} {A : Option α} {Q : α → Prop} {b : Bool} (hx : x = if b = true then 1 else 0) (h : wp A Q) : wp (if x = 0 ∨ x = 1 then A else none) Q := by
  refine wpE (if_pos ?_) h
  cases b
  · exact Or.inl hx
  · exact Or.inr hx
theorem c_args (hl : sTl S ≤ 60) {K : Nat} (hK : K ≤ 3) (hn : 1000 < n) : ∀ (m k i p : Nat) (N : Nat → Int32) (σ : zW), JC σ S c → zI σ 122 3 = Int32.ofNat p → p ≤ sTl S → i + m = K → m < k → (∀ j, j < i → zI σ 124 j = N j) →
    wp (sX6_readCommand_59 n k 122 (Int32.ofNat K) (Int32.ofNat i) σ) (fun r => r.1 = (if (pa (sTx S) (sTl S) m i p N).1 = true then 1 else 0) ∧ Nu σ r.2 (pa (sTx S) (sTl S) m i p N).2.1 ∧ ((pa (sTx S) (sTl S) m i p N).1 = true → ∀ j, j < K → zI r.2 124 j = (pa (sTx S) (sTl S) m i p N).2.2 j))
  | m, 0, _, _, _, _, _, _, _, _, hk, _ => absurd hk (by omega)
  | 0, k + 1, i, p, N, σ, hJ, hp, hpl, hi, hk, hN => by
    have hlt : (Int32.ofNat i < Int32.ofNat K) = (i < K) := io_lt (by omega) (by omega)
    rw [sX6_readCommand_59]
    refine wpE (if_neg (fun z => by have := hlt ▸ z; omega)) ?_
    refine wpE (if_pos (Or.inr rfl)) ?_
    exact wp_some ⟨rfl, ⟨Fr.refl, fun _ _ => rfl, hp⟩, fun _ j hj => hN j (by omega)⟩
  | m + 1, k + 1, i, p, N, σ, hJ, hp, hpl, hi, hk, hN => by
    have hlt : (Int32.ofNat i < Int32.ofNat K) = (i < K) := io_lt (by omega) (by omega)
    have hi0 : ((0 : Int32) < Int32.ofNat i) = (0 < i) := io_pos (by omega)
    -- from the number on
    have num : ∀ σ1, JC σ1 S c → zI σ1 122 3 = Int32.ofNat (nx1 i p) → nx1 i p ≤ sTl S → (∀ j, j < i → zI σ1 124 j = N j) → (∀ q : Nat × zW, Nu σ1 q.2 q.1 → Nu σ q.2 q.1) → ¬ (0 < i ∧ ¬ (p < sTl S ∧ sTx S p = 44)) →
        wp (sX6_readCommand_79 n (sX6_readCommand_59 n k) 122 (Int32.ofNat K) (Int32.ofNat i) σ1) (fun r => r.1 = (if (pa (sTx S) (sTl S) (m + 1) i p N).1 = true then 1 else 0) ∧ Nu σ r.2 (pa (sTx S) (sTl S) (m + 1) i p N).2.1 ∧ ((pa (sTx S) (sTl S) (m + 1) i p N).1 = true → ∀ j, j < K → zI r.2 124 j = (pa (sTx S) (sTl S) (m + 1) i p N).2.2 j)) := by
      intro σ1 J1 p1 pl1 N1 tr1 g
      unfold sX6_readCommand_79
      refine wpE (zck_e J1.kt) ?_
      have hnum := c_num (n := n) (c := c) hl (show i < 3 by omega) 5 n (nx1 i p) 0 0 σ1 J1 p1 pl1 (by omega) (by omega)
      obtain ⟨r, er, u, w1, w2⟩ := hnum
      have er' : fX6_readNumber n 122 (Int32.ofNat i) σ1 = some (r.1, r.2) := er
      refine wpE (zb2_e er') ?_
      by_cases g2 : (pn (sTx S) (sTl S) 5 (nx1 i p) 0).2 = nx1 i p
      · have e : pa (sTx S) (sTl S) (m + 1) i p N = (false, nx1 i p, N) := (if_neg g).trans (if_pos g2)
        have u0 : r.1 = 0 := u.trans (if_neg (fun z => by rcases z with z | z; exact absurd z (Nat.lt_irrefl 0); exact z g2))
        rw [e]
        refine wpE (if_pos u0) ?_
        refine wpE (if_pos (Or.inl rfl)) ?_
        rw [g2] at w1
        exact wp_some ⟨rfl, tr1 (_, r.2) w1, fun q => by cases q⟩
      · have e : pa (sTx S) (sTl S) (m + 1) i p N = pa (sTx S) (sTl S) m (i + 1) (pn (sTx S) (sTl S) 5 (nx1 i p) 0).2 (up N i (pn (sTx S) (sTl S) 5 (nx1 i p) 0).1) := (if_neg g).trans (if_neg g2)
        have u0 : r.1 = 1 := u.trans (if_pos (Or.inr g2))
        rw [e]
        refine wpE (if_neg (fun z => by rw [u0] at z; exact one_ne z)) ?_
        rw [io_succ]
        have b := pn_b (T := sTx S) (len := sTl S) 5 (nx1 i p) 0 pl1
        refine wp_mono (c_args hl hK hn m k (i + 1) _ _ r.2 (w1.jc J1) w1.2.2 b.2 (by omega) (by omega) (fun j hj => ?_)) (fun q h => ⟨h.1, tr1 (_, q.2) (w1.tr h.2.1), h.2.2⟩)
        rw [w2]
        unfold up
        by_cases gj : j = i
        · rw [if_pos gj, if_pos gj]
        · rw [if_neg gj, if_neg gj]
          exact N1 j (by omega)
    rw [sX6_readCommand_59]
    refine wpE (if_pos (hlt.symm ▸ (show i < K by omega))) ?_
    by_cases g0 : 0 < i
    · refine wpE (if_pos (hi0.symm ▸ g0)) ?_
      refine wpE (zck_e hJ.kt) ?_
      have ps := c_passes (n := n) hJ hl hp hpl 44
      have en : nx1 i p = p + 1 := if_pos g0
      by_cases g : p < sTl S ∧ sTx S p = 44
      · refine wpE (zb2_e (ps.1 g)) ?_
        refine wpE (if_neg one_ne) ?_
        have N1 : Nu σ (stI σ 122 3 (Int32.ofNat (p + 1))) (p + 1) := Nu.st
        refine num _ (N1.jc hJ) (by rw [en]; exact N1.2.2) (by rw [en]; omega) (fun j hj => ?_) (fun q h => N1.tr h) (fun z => z.2 g)
        rw [zI_st_ne (by decide)]
        exact hN j hj
      · have e : pa (sTx S) (sTl S) (m + 1) i p N = (false, p, N) := if_pos ⟨g0, g⟩
        rw [e]
        refine wpE (zb2_e (ps.2 g)) ?_
        refine wpE (if_pos rfl) ?_
        refine wpE (if_pos (Or.inl rfl)) ?_
        exact wp_some ⟨rfl, ⟨Fr.refl, fun _ _ => rfl, hp⟩, fun q => by cases q⟩
    · refine wpE (if_neg (fun z => g0 (hi0 ▸ z))) ?_
      have en : nx1 i p = p := if_neg g0
      exact num σ hJ (by rw [en]; exact hp) (by rw [en]; exact hpl) hN (fun q h => h) (fun z => g0 z.1)
theorem c_nb {x : Int32} : fX6_numbersBehind n x σ = some (Int32.ofNat (nb x)) := by
  unfold fX6_numbersBehind nb
  by_cases h1 : x = 97
  · rw [if_pos h1, if_pos h1]; rfl
  · rw [if_neg h1, if_neg h1]
    by_cases h2 : x = 98
    · rw [if_pos h2, if_pos h2]; rfl
    · rw [if_neg h2, if_neg h2]
      by_cases h3 : x = 99
      · rw [if_pos h3, if_pos h3]; rfl
      · rw [if_neg h3, if_neg h3]
        by_cases h4 : x = 104
        · rw [if_pos h4, if_pos h4]; rfl
        · rw [if_neg h4, if_neg h4]
          by_cases h5 : x = 111
          · rw [if_pos h5, if_pos h5]; rfl
          · rw [if_neg h5, if_neg h5]
            by_cases h6 : x = 119
            · rw [if_pos h6, if_pos h6]; rfl
            · rw [if_neg h6, if_neg h6]; rfl
/-- a command is read -/
theorem c_readCommand (hJ : JC σ S c) (hS : sTl S ≤ 60 ∧ ∀ j, j < sTl S → 0 ≤ sTx S j ∧ sTx S j ≤ 65535) (hn : 1000 < n) {p : Nat} (hp : zI σ 122 3 = Int32.ofNat p) (hpl : p ≤ sTl S) :
    wp (fX6_readCommand n 122 σ) (fun r => r.1 = (if (pc (sTx S) (sTl S) p).1 = true then 1 else 0) ∧ Na σ r.2 (pc (sTx S) (sTl S) p).2.1 ∧ ((pc (sTx S) (sTl S) p).1 = true → zI r.2 122 5 = sTx S p ∧ ∀ j, j < nb (sTx S p) → zI r.2 124 j = (pc (sTx S) (sTl S) p).2.2 j)) := by
  have hl := hS.1
  obtain ⟨t0, t1, t2, t3, t4, t5⟩ := hJ.tk
  have hpp : (Int32.ofNat p < Int32.ofNat (sTl S)) = (p < sTl S) := io_lt (by omega) (by omega)
  have none0 : nb (sg (sTx S) (sTl S) p) = 0 → wp (sX6_readCommand_27 n 122 0 σ) (fun r => r.1 = (if (pc (sTx S) (sTl S) p).1 = true then 1 else 0) ∧ Na σ r.2 (pc (sTx S) (sTl S) p).2.1 ∧ ((pc (sTx S) (sTl S) p).1 = true → zI r.2 122 5 = sTx S p ∧ ∀ j, j < nb (sTx S p) → zI r.2 124 j = (pc (sTx S) (sTl S) p).2.2 j)) := fun g => by
    have e : pc (sTx S) (sTl S) p = (false, p, fun _ => 0) := if_pos g
    rw [e]
    unfold sX6_readCommand_27
    refine wpE (if_pos rfl) ?_
    refine wpE (if_pos (Or.inl rfl)) ?_
    exact wp_some ⟨rfl, ⟨Fr.refl, fun _ _ _ => rfl, hp⟩, fun q => by cases q⟩
  unfold fX6_readCommand
  refine wpE (zgI_e hJ.kt hp) ?_
  refine wpE (zgI_e hJ.kt hJ.tl) ?_
  by_cases g1 : p < sTl S
  · have es : sg (sTx S) (sTl S) p = sTx S p := if_pos g1
    refine wpE (if_pos (hpp.symm ▸ g1)) ?_
    refine wpE (zgR_e hJ.kt t0) ?_
    refine wpE (zgI_e hJ.kt hp) ?_
    refine wpE (zaC_e t2 t3 (show p < 60 by omega) (by decide) (hJ.tx p g1)) ?_
    refine wpE (zb_e c_nb) ?_
    by_cases g2 : nb (sTx S p) = 0
    · refine wpE (congrArg (fun x => sX6_readCommand_27 n 122 x σ) (congrArg Int32.ofNat g2)) ?_
      exact none0 (by rw [es]; exact g2)
    · have e : pc (sTx S) (sTl S) p = pa (sTx S) (sTl S) (nb (sTx S p)) 0 (p + 1) (fun _ => 0) := by
        unfold pc
        rw [es, if_neg g2]
      rw [e]
      have h3 := nb_le (x := sTx S p)
      unfold sX6_readCommand_27
      refine wpE (if_neg (fun z => g2 (by rw [io_z (by omega)] at z; exact z))) ?_
      refine wpE (zgR_e hJ.kt t0) ?_
      refine wpE (zgI_e hJ.kt hp) ?_
      refine wpE (zaC_e t2 t3 (show p < 60 by omega) (by decide) (hJ.tx p g1)) ?_
      refine wpE (if_pos (hS.2 p g1)) ?_
      refine wpE (zpI_e hJ.kt rfl) ?_
      have J1 : JC (stI σ 122 5 (sTx S p)) S c := hJ.nu (Fr.st (Or.inl rfl)) (by rw [zI_st, if_neg (by omega)])
      have p1 : zI (stI σ 122 5 (sTx S p)) 122 3 = Int32.ofNat p := by rw [zI_st, if_neg (by omega)]; exact hp
      refine wpE (zgI_e J1.kt p1) ?_
      refine wpE (zpI_e J1.kt io_succ) ?_
      have N2 : Nu (stI σ 122 5 (sTx S p)) (stI (stI σ 122 5 (sTx S p)) 122 3 (Int32.ofNat (p + 1))) (p + 1) := Nu.st
      have A2 : Na σ (stI (stI σ 122 5 (sTx S p)) 122 3 (Int32.ofNat (p + 1))) (p + 1) := ⟨(Fr.st (Or.inl rfl)).trans (Fr.st (Or.inl rfl)), fun k h3 h5 => by rw [zI_st, if_neg (fun q => h3 q.2), zI_st, if_neg (fun q => h5 q.2)], by rw [zI_st, if_pos ⟨rfl, rfl⟩]⟩
      refine wp_mono (c_args hl h3 hn (nb (sTx S p)) n 0 (p + 1) (fun _ => 0) _ (N2.jc J1) N2.2.2 (by omega) (by omega) (by omega) (fun j hj => absurd hj (Nat.not_lt_zero j))) (fun r q => ⟨q.1, A2.tr q.2.1.na, fun t => ⟨?_, q.2.2 t⟩⟩)
      rw [q.2.1.2.1 5 (by decide), zI_st, if_neg (by omega), zI_st, if_pos ⟨rfl, rfl⟩]
  · have es : sg (sTx S) (sTl S) p = -1 := if_neg g1
    refine wpE (if_neg (fun z => g1 (hpp ▸ z))) ?_
    exact none0 (by rw [es]; decide)
/-- the whole text is looked through -/
theorem c_find (hS : sTl S ≤ 60 ∧ ∀ j, j < sTl S → 0 ≤ sTx S j ∧ sTx S j ≤ 65535) (hn : 1000 < n) : ∀ (m f p k : Nat) (σ : zW), JC σ S c → zI σ 122 3 = Int32.ofNat p → p ≤ sTl S → p + 3 * m ≥ 63 → 3 * k ≤ p → m < f →
    wp (sX6_findFault_7 n f 122 (Int32.ofNat (k + 1)) σ) (fun r => r.1 = (pl (sTx S) (sTl S) m p).1 ∧ JC r.2 S c ∧ Fr (fun o => o = 122 ∨ o = 124) σ r.2 ∧ ((pl (sTx S) (sTl S) m p).1 = -1 → zI r.2 122 4 = Int32.ofNat (k + (pl (sTx S) (sTl S) m p).2)))
  | m, 0, _, _, _, _, _, _, _, _, hk => absurd hk (by omega)
  | 0, f + 1, p, k, σ, hJ, hp, hpl, hm, hk, hf => by have := hS.1; omega
  | m + 1, f + 1, p, k, σ, hJ, hp, hpl, hm, hk, hf => by
    have hl := hS.1
    have h60 : ((60 : Int32) < Int32.ofNat (k + 1)) = (60 < k + 1) := io_lt (a := 60) (by decide) (by omega)
    have b := pc_b (T := sTx S) hpl
    have nn : ∀ x : Nat, x ≤ 60 → Int32.ofNat x ≠ -1 := fun x hx z => by
      have h1 : (0 : Int32) ≤ Int32.ofNat x := io_ge0 (by omega)
      rw [z] at h1
      exact absurd h1 (by decide)
    rw [sX6_findFault_7]
    refine wpE (if_neg (fun z => by have := h60 ▸ z; omega)) ?_
    refine wpE (zck_e hJ.kt) ?_
    obtain ⟨r, er, u, w1, w2⟩ := c_readCommand (n := n) hJ hS hn hp hpl
    refine wpE (zb2_e (v := r.1) (s := r.2) er) ?_
    have J1 := w1.jc hJ
    by_cases g1 : (pc (sTx S) (sTl S) p).1 = false
    · have e : pl (sTx S) (sTl S) (m + 1) p = (Int32.ofNat (pc (sTx S) (sTl S) p).2.1, 0) := if_pos g1
      rw [e]
      refine wpE (if_pos (u.trans (if_neg (by rw [g1]; decide)))) ?_
      refine wpE (zgI_e J1.kt w1.2.2) ?_
      exact wp_some ⟨rfl, J1, w1.1, fun q => absurd q (nn _ (by omega))⟩
    · have t : (pc (sTx S) (sTl S) p).1 = true := by cases hh : (pc (sTx S) (sTl S) p).1 <;> simp_all
      refine wpE (if_neg (by rw [u, if_pos t]; exact one_ne)) ?_
      refine wpE (zgI_e J1.kt w1.2.2) ?_
      refine wpE (zgI_e J1.kt J1.tl) ?_
      by_cases g2 : (pc (sTx S) (sTl S) p).2.1 = sTl S
      · have e : pl (sTx S) (sTl S) (m + 1) p = (-1, 1) := (if_neg g1).trans (if_pos g2)
        rw [e]
        refine wpE (if_pos (by rw [g2])) ?_
        refine wpE (zpI_e J1.kt rfl) ?_
        refine wp_some ⟨rfl, J1.nu (Fr.st (Or.inl rfl)) (by rw [zI_st, if_neg (by omega)]), w1.1.trans (Fr.st (Or.inl rfl)), fun _ => by rw [zI_st, if_pos ⟨rfl, rfl⟩]⟩
      · refine wpE (if_neg (fun z => g2 ((io_inj (by omega) (by omega)).mp z))) ?_
        refine wpE (zck_e J1.kt) ?_
        have ps := c_passes (n := n) J1 hl w1.2.2 b.2.1 59
        by_cases g3 : sTx S (pc (sTx S) (sTl S) p).2.1 = 59
        · have e : pl (sTx S) (sTl S) (m + 1) p = ((pl (sTx S) (sTl S) m ((pc (sTx S) (sTl S) p).2.1 + 1)).1, (pl (sTx S) (sTl S) m ((pc (sTx S) (sTl S) p).2.1 + 1)).2 + 1) := (if_neg g1).trans ((if_neg g2).trans (if_pos g3))
          have lt : (pc (sTx S) (sTl S) p).2.1 < sTl S := by omega
          rw [e]
          refine wpE (zb2_e (ps.1 ⟨lt, g3⟩)) ?_
          refine wpE (if_neg one_ne) ?_
          rw [io_succ]
          have N1 : Nu r.2 (stI r.2 122 3 (Int32.ofNat ((pc (sTx S) (sTl S) p).2.1 + 1))) ((pc (sTx S) (sTl S) p).2.1 + 1) := Nu.st
          have b3 := b.2.2 t
          refine wp_mono (c_find hS hn m f ((pc (sTx S) (sTl S) p).2.1 + 1) (k + 1) _ (N1.jc J1) N1.2.2 (by omega) (by omega) (by omega) (by omega)) (fun q h => ⟨h.1, h.2.1, (w1.1.trans N1.1).trans h.2.2.1, fun z => ?_⟩)
          rw [h.2.2.2 z]
          congr 1
          omega
        · have e : pl (sTx S) (sTl S) (m + 1) p = (Int32.ofNat (pc (sTx S) (sTl S) p).2.1, 0) := (if_neg g1).trans ((if_neg g2).trans (if_neg g3))
          rw [e]
          refine wpE (zb2_e (ps.2 (fun z => g3 z.2))) ?_
          refine wpE (if_pos rfl) ?_
          refine wpE (zgI_e J1.kt w1.2.2) ?_
          exact wp_some ⟨rfl, J1, w1.1, fun q => absurd q (nn _ (by omega))⟩
end
