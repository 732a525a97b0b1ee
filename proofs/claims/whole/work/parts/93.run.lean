section
variable {σ τ : zW} {S : St} {B c n : Nat} {T : Nat → Int32} {len : Nat}
theorem zaK_e {α : Type} {σ : zW} {r j L : Nat} {x q : Int32} {c : Int32 → Option α} (h : zK σ r = 20) (hL : zL σ r = L) (hj : j < L) (h2 : L ≤ 2147483648) (hx : zI σ r j = x) (hq : q = Int32.ofNat j) : zaI σ r q c = c x := by
  rw [hq]
  exact zaN_e h hL hj h2 hx
theorem c_coh (hJ : JC σ S c) {x y0 y1 y2 : Int32} (hx : zI σ 122 5 = x) (h0 : zI σ 124 0 = y0) (h1 : zI σ 124 1 = y1) (h2 : zI σ 124 2 = y2) : fX7_carryOut n 4 σ = (if x = 97 then zck σ 8 4 (zb2 (fX7_tryOrder n 4 y0 y1 y2 σ) fun x12 σ13 => some (x12, σ13)) else if x = 98 then zck σ 8 4 (zb2 (fX7_tryBid n 4 y0 y1 y2 σ) fun x14 σ15 => some (x14, σ15)) else if x = 104 then zck σ 8 4 (zb2 (fX7_tryClose n 4 y0 σ) fun x16 σ17 => some (x16, σ17)) else if x = 111 then zck σ 8 4 (zb2 (fX7_tryOpen n 4 y0 σ) fun x18 σ19 => some (x18, σ19)) else if x = 119 then zck σ 8 4 (zb2 (fX7_tryWithdraw n 4 y0 σ) fun x20 σ21 => some (x20, σ21)) else zck σ 8 4 (zb2 (fX7_tryCancel n 4 y0 y1 σ) fun x22 σ23 => some (x22, σ23))) := by
  obtain ⟨t0, t1, t2, t3, t4, t5⟩ := hJ.tk
  unfold fX7_carryOut
  refine (zgR_e hJ.x hJ.xt).trans ((zgR_e hJ.kt t1).trans ((zaK_e (j := 0) t4 t5 (by decide) (by decide) h0 rfl).trans ?_))
  refine (zgR_e hJ.x hJ.xt).trans ((zgR_e hJ.kt t1).trans ((zaK_e (j := 1) t4 t5 (by decide) (by decide) h1 rfl).trans ?_))
  refine (zgR_e hJ.x hJ.xt).trans ((zgR_e hJ.kt t1).trans ((zaK_e (j := 2) t4 t5 (by decide) (by decide) h2 rfl).trans ?_))
  exact (zgR_e hJ.x hJ.xt).trans (zgI_e hJ.kt hx)
theorem r_coh (hτ : JR τ S) {b : Nat} (hb : b + 4 ≤ 120) {x y0 y1 y2 : Int32} (hx : zI τ 130 b = x) (h0 : zI τ 130 (b + 1) = y0) (h1 : zI τ 130 (b + 2) = y1) (h2 : zI τ 130 (b + 3) = y2) : fX8_carryOut n 125 (Int32.ofNat b) τ = (if x = 97 then zck τ 9 125 (zb2 (fX8_order n 125 y0 y1 y2 τ) fun x9 σ10 => sX8_carryOut_152 n σ10) else if x = 98 then zck τ 9 125 (zb2 (fX8_bid n 125 y0 y1 y2 τ) fun x11 σ12 => sX8_carryOut_152 n σ12) else if x = 104 then zck τ 9 125 (zb2 (fX8_close n 125 y0 τ) fun x13 σ14 => sX8_carryOut_152 n σ14) else if x = 111 then zck τ 9 125 (zb2 (fX8_open n 125 y0 τ) fun x15 σ16 => sX8_carryOut_152 n σ16) else if x = 119 then zck τ 9 125 (zb2 (fX8_withdraw n 125 y0 τ) fun x17 σ18 => sX8_carryOut_152 n σ18) else zck τ 9 125 (zb2 (fX8_cancel n 125 y0 y1 τ) fun x19 σ20 => sX8_carryOut_152 n σ20)) := by
  have ck := hτ.ck
  unfold fX8_carryOut
  refine (zgR_e hτ.k ck.1).trans ((zaK_e (j := b + 1) ck.2.1 ck.2.2 (by omega) (by decide) h0 io_succ).trans ?_)
  refine (zgR_e hτ.k ck.1).trans ((zaK_e (j := b + 2) ck.2.1 ck.2.2 (by omega) (by decide) h1 (ixl (i := 2))).trans ?_)
  refine (zgR_e hτ.k ck.1).trans ((zaK_e (j := b + 3) ck.2.1 ck.2.2 (by omega) (by decide) h2 (ixl (i := 3))).trans ?_)
  exact (zgR_e hτ.k ck.1).trans (zaK_e (j := b) ck.2.1 ck.2.2 (by omega) (by decide) hx rfl)
/-- one command of a text, on both sides -/
def CX (n : Nat) (S : St) (B c : Nat) (x : Int32) (N : Nat → Int32) : Prop :=
  ∃ ans k S', (SI S' (B + 1) ∧ S'.2.2.2.2 = S.2.2.2.2) ∧ ((0 ≤ ans ∧ k = 0) ∨ (ans < 0 ∧ k ≠ 0)) ∧ (∀ σ, JC σ S c → zI σ 122 5 = x → (∀ j, j < nb x → zI σ 124 j = N j) → wp (fX7_carryOut n 4 σ) (fun r => r.1 = ans ∧ Cw σ S' c r.2)) ∧ ∀ τ b, JR τ S → b + 4 ≤ 120 → zI τ 130 b = x → (∀ j, j < nb x → zI τ 130 (b + 1 + j) = N j) → wp (fX8_carryOut n 125 (Int32.ofNat b) τ) (fun τ' => zI τ' 125 0 = k ∧ JR τ' S' ∧ Fr PR τ τ')
theorem cx_of {F G : zW → Option (Int32 × zW)} {lk : Int32 → Int32 → Prop} {x : Int32} {N : Nat → Int32} (hC : CMD F G S B c lk) (hlk : ∀ ans k, lk ans k → (0 ≤ ans ∧ k = 0) ∨ (ans < 0 ∧ k ≠ 0))
    (hF : ∀ σ, JC σ S c → zI σ 122 5 = x → (∀ j, j < nb x → zI σ 124 j = N j) → fX7_carryOut n 4 σ = zck σ 8 4 (zb2 (F σ) fun x12 σ13 => some (x12, σ13)))
    (hG : ∀ τ b, JR τ S → b + 4 ≤ 120 → zI τ 130 b = x → (∀ j, j < nb x → zI τ 130 (b + 1 + j) = N j) → fX8_carryOut n 125 (Int32.ofNat b) τ = zck τ 9 125 (zb2 (G τ) fun x9 σ10 => sX8_carryOut_152 n σ10)) : CX n S B c x N := by
  obtain ⟨ans, k, S', hS', hk, h1, h2⟩ := hC
  refine ⟨ans, k, S', hS', hlk ans k hk, fun σ hJ hx hN => ?_, fun τ b hτ hb hx hN => ?_⟩
  · obtain ⟨r, e, u, w⟩ := h1 σ hJ
    refine wpE (hF σ hJ hx hN) ?_
    refine wpE (zck_e hJ.x) ?_
    refine wpE (zb2_e (v := r.1) (s := r.2) e) ?_
    exact wp_some ⟨u, w⟩
  · obtain ⟨r, e, g1, g2, g3, g4⟩ := h2 τ hτ
    refine wpE (hG τ b hτ hb hx hN) ?_
    refine wpE (zck_e hτ.k) ?_
    refine wpE (zb2_e (v := r.1) (s := r.2) e) ?_
    unfold sX8_carryOut_152
    exact wp_some ⟨g1, g3, g4⟩
theorem lkO_d {ans k : Int32} (h : lkO ans k) : (0 ≤ ans ∧ k = 0) ∨ (ans < 0 ∧ k ≠ 0) := by
  rcases h with h | ⟨rfl, rfl⟩ | ⟨rfl, rfl⟩ | ⟨rfl, rfl⟩
  · exact Or.inl h
  · exact Or.inr ⟨by decide, by decide⟩
  · exact Or.inr ⟨by decide, by decide⟩
  · exact Or.inr ⟨by decide, by decide⟩
theorem lkC_d {ans k : Int32} (h : lkC ans k) : (0 ≤ ans ∧ k = 0) ∨ (ans < 0 ∧ k ≠ 0) := by
  rcases h with h | ⟨rfl, rfl⟩ | ⟨rfl, rfl⟩ | ⟨rfl, rfl⟩
  · exact Or.inl h
  · exact Or.inr ⟨by decide, by decide⟩
  · exact Or.inr ⟨by decide, by decide⟩
  · exact Or.inr ⟨by decide, by decide⟩
theorem lkS_d {ans k : Int32} (h : lkS ans k) : (0 ≤ ans ∧ k = 0) ∨ (ans < 0 ∧ k ≠ 0) := by
  rcases h with h | ⟨rfl, rfl⟩ | ⟨rfl, rfl⟩
  · exact Or.inl h
  · exact Or.inr ⟨by decide, by decide⟩
  · exact Or.inr ⟨by decide, by decide⟩
theorem carry (hS : SI S B) (hB : B < 100000000) (hn : 30000 < n) (hcc : c ≤ 100000) (x : Int32) (N : Nat → Int32) (hx : nb x ≠ 0) : CX n S B c x N := by
  by_cases h1 : x = 97
  · subst h1
    exact cx_of (cmd_order hS hB hn hcc (N 0) (N 1) (N 2)) (fun _ _ => lkO_d) (fun σ hJ hx hN => (c_coh hJ hx (hN 0 (by decide)) (hN 1 (by decide)) (hN 2 (by decide))).trans (if_pos rfl)) (fun τ b hτ hb hx hN => (r_coh hτ hb hx (hN 0 (by decide)) (hN 1 (by decide)) (hN 2 (by decide))).trans (if_pos rfl))
  · by_cases h2 : x = 98
    · subst h2
      exact cx_of (cmd_bid hS hB hn hcc (N 0) (N 1) (N 2)) (fun _ _ => lkO_d) (fun σ hJ hx hN => (c_coh hJ hx (hN 0 (by decide)) (hN 1 (by decide)) (hN 2 (by decide))).trans ((if_neg h1).trans (if_pos rfl))) (fun τ b hτ hb hx hN => (r_coh hτ hb hx (hN 0 (by decide)) (hN 1 (by decide)) (hN 2 (by decide))).trans ((if_neg h1).trans (if_pos rfl)))
    · by_cases h3 : x = 104
      · subst h3
        exact cx_of (cmd_close hS hn hcc (N 0)) (fun _ _ => lkS_d) (fun σ hJ hx hN => (c_coh hJ hx (hN 0 (by decide)) rfl rfl).trans ((if_neg h1).trans ((if_neg h2).trans (if_pos rfl)))) (fun τ b hτ hb hx hN => (r_coh hτ hb hx (hN 0 (by decide)) rfl rfl).trans ((if_neg h1).trans ((if_neg h2).trans (if_pos rfl))))
      · by_cases h4 : x = 111
        · subst h4
          exact cx_of (cmd_open hS hn hcc (N 0)) (fun _ _ => lkS_d) (fun σ hJ hx hN => (c_coh hJ hx (hN 0 (by decide)) rfl rfl).trans ((if_neg h1).trans ((if_neg h2).trans ((if_neg h3).trans (if_pos rfl))))) (fun τ b hτ hb hx hN => (r_coh hτ hb hx (hN 0 (by decide)) rfl rfl).trans ((if_neg h1).trans ((if_neg h2).trans ((if_neg h3).trans (if_pos rfl)))))
        · by_cases h5 : x = 119
          · subst h5
            exact cx_of (cmd_withdraw hS hn hcc (N 0)) (fun _ _ => lkS_d) (fun σ hJ hx hN => (c_coh hJ hx (hN 0 (by decide)) rfl rfl).trans ((if_neg h1).trans ((if_neg h2).trans ((if_neg h3).trans ((if_neg h4).trans (if_pos rfl)))))) (fun τ b hτ hb hx hN => (r_coh hτ hb hx (hN 0 (by decide)) rfl rfl).trans ((if_neg h1).trans ((if_neg h2).trans ((if_neg h3).trans ((if_neg h4).trans (if_pos rfl))))))
          · have h6 : x = 99 := by
              refine Classical.byContradiction fun h6 => hx ?_
              unfold nb
              rw [if_neg h1, if_neg h2, if_neg h6, if_neg h3, if_neg h4, if_neg h5]
            subst h6
            exact cx_of (cmd_cancel hS hn hcc (N 0) (N 1)) (fun _ _ => lkC_d) (fun σ hJ hx hN => (c_coh hJ hx (hN 0 (by decide)) (hN 1 (by decide)) rfl).trans ((if_neg h1).trans ((if_neg h2).trans ((if_neg h3).trans ((if_neg h4).trans (if_neg h5)))))) (fun τ b hτ hb hx hN => (r_coh hτ hb hx (hN 0 (by decide)) (hN 1 (by decide)) rfl).trans ((if_neg h1).trans ((if_neg h2).trans ((if_neg h3).trans ((if_neg h4).trans (if_neg h5))))))
/-- where the class's reading stands before a command -/
def Cu (T : Nat → Int32) (len : Nat) (σ : zW) (k p : Nat) : Prop := (k = 0 ∧ p = 0) ∨ (0 < k ∧ 1 ≤ p ∧ zI σ 122 3 = Int32.ofNat (p - 1) ∧ p - 1 < len ∧ T (p - 1) = 59)
theorem c_next (hJ : JC σ S c) (hS : sTl S ≤ 60 ∧ ∀ j, j < sTl S → 0 ≤ sTx S j ∧ sTx S j ≤ 65535) (hn : 1000 < n) {k p : Nat} (hk : k < 100000) (hpl : p ≤ sTl S) (hc : Cu (sTx S) (sTl S) σ k p) (ht : (pc (sTx S) (sTl S) p).1 = true) :
    wp (fX6_readNext n 122 (Int32.ofNat k) σ) (fun r => r.1 = 1 ∧ Na σ r.2 (pc (sTx S) (sTl S) p).2.1 ∧ zI r.2 122 5 = sTx S p ∧ ∀ j, j < nb (sTx S p) → zI r.2 124 j = (pc (sTx S) (sTl S) p).2.2 j) := by
  unfold fX6_readNext
  rcases hc with ⟨rfl, rfl⟩ | ⟨h1, h2, h3, h4, h5⟩
  · refine wpE (if_pos rfl) ?_
    refine wpE (zpI_e hJ.kt rfl) ?_
    have N1 : Nu σ (stI σ 122 3 (Int32.ofNat 0)) 0 := Nu.st
    have J1 := N1.jc hJ
    refine wpE (zck_e J1.kt) ?_
    obtain ⟨r, er, u, w1, w2⟩ := c_readCommand (n := n) J1 hS hn (p := 0) N1.2.2 hpl
    refine wpE (zb2_e (v := r.1) (s := r.2) er) ?_
    rw [if_pos ht] at u
    refine wpE (if_pos (Or.inr u)) ?_
    exact wp_some ⟨u, N1.na.tr w1, w2 ht⟩
  · refine wpE (if_neg (fun z => by rw [io_z (by omega)] at z; omega)) ?_
    refine wpE (zck_e hJ.kt) ?_
    have ps := (c_passes (n := n) hJ hS.1 h3 (by omega) 59).1 ⟨h4, h5⟩
    refine wpE (zb2_e ps) ?_
    refine wpE (if_neg one_ne) ?_
    have N1 : Nu σ (stI σ 122 3 (Int32.ofNat (p - 1 + 1))) (p - 1 + 1) := Nu.st
    have J1 := N1.jc hJ
    refine wpE (zck_e J1.kt) ?_
    have ep : p - 1 + 1 = p := by omega
    obtain ⟨r, er, u, w1, w2⟩ := c_readCommand (n := n) J1 hS hn (p := p) (by rw [← ep]; exact N1.2.2) hpl
    refine wpE (zb2_e (v := r.1) (s := r.2) er) ?_
    rw [if_pos ht] at u
    refine wpE (if_neg (by rw [u]; exact one_ne)) ?_
    unfold sX6_readNext_35
    refine wpE (if_pos (Or.inr rfl)) ?_
    exact wp_some ⟨rfl, N1.na.tr w1, w2 ht⟩
theorem c_read74 (hJ : JC σ S c) (v : Int32) : wp (sX7_read_74 n 4 v σ) (fun r => ∃ σ1, r = (.inl v, σ1) ∧ JC σ1 (uY S (sFl S) 0 0 (sTx S) (fun _ _ => True)) c ∧ FT σ σ1) := by
  unfold sX7_read_74
  refine wpE (zgR_e hJ.x hJ.xt) ?_
  refine wpE (zck_e hJ.kt) ?_
  have e : fX6_empty n 122 σ = some (stI σ 122 2 (Int32.ofNat 0)) := by
    unfold fX6_empty
    exact zpI_e hJ.kt rfl
  refine wpE (zb_e e) ?_
  have F : Fr (fun o => o = 4 ∨ o = 122 ∨ o = 123 ∨ o = 124) σ (stI σ 122 2 (Int32.ofNat 0)) := Fr.st (by decide)
  have e4 : zI (stI σ 122 2 (Int32.ofNat 0)) 4 = zI σ 4 := zI_st_ne (by decide)
  exact wp_some ⟨_, rfl, hJ.ty F (congrFun e4 5) ((congrFun e4 6).trans hJ.fl) (by rw [zI_st, if_pos ⟨rfl, rfl⟩]) (fun j hj => absurd hj (Nat.not_lt_zero j)), F.ft (fun o q => by omega)⟩
theorem runT (hn : 30000 < n) (hcc : c ≤ 100000) : ∀ (K k p : Nat) (S : St) (B : Nat) (T : Nat → Int32) (len : Nat), SI S B → B + K < 100000000 → rs T len K p → (K ≠ 0 → p ≤ len) → sTx S = T → sTl S = len → 3 * k ≤ p → p ≤ 70 → (∀ a Z, sQ S a Z → a = Int32.ofNat (k + K) ∧ rows T len Z K k p) →
    ∃ v S', SI S' (B + K) ∧ S'.2.2.2.2 = S.2.2.2.2 ∧
      (∀ f σ, K < f → JC σ S c → (K ≠ 0 → Cu T len σ k p) → zI σ 122 4 = Int32.ofNat (k + K) → wp (sX7_read_39 n f 4 (Int32.ofNat k) σ) (fun r => ∃ σ1, r = (.inl v, σ1) ∧ JC σ1 (uY S' (sFl S') 0 0 (sTx S') (fun _ _ => True)) c ∧ FT σ σ1)) ∧
      (∀ f τ, K + 1 < f → JR τ S → zI τ 125 0 = 0 → wp (sX8_read_84 n f 125 (Int32.ofNat k) τ) (fun r => r.1 = v ∧ zI r.2 125 0 = 0 ∧ JR r.2 S' ∧ Fr PR τ r.2))
  | 0, k, p, S, B, T, len, hS, hB, hr, hpl, eT, el, hk, hp70, hQ => by
    refine ⟨Int32.ofNat k, S, hS, rfl, fun f σ hf hJ hc h4 => ?_, fun f τ hf hτ h0 => ?_⟩
    · obtain ⟨f, rfl⟩ : ∃ f', f = f' + 1 := ⟨f - 1, by omega⟩
      rw [sX7_read_39]
      refine wpE (zgR_e hJ.x hJ.xt) ?_
      refine wpE (zgI_e hJ.kt h4) ?_
      refine wpE (if_neg Int32.lt_irrefl) ?_
      exact c_read74 hJ _
    · obtain ⟨f, rfl⟩ : ∃ f', f = f' + 1 := ⟨f - 1, by omega⟩
      rw [sX8_read_84]
      refine wpE (zgI_e hτ.k (hQ _ _ hτ.q).1) ?_
      refine wpE (if_neg Int32.lt_irrefl) ?_
      unfold sX8_read_124
      refine wpE (zpI_e hτ.k rfl) ?_
      exact wp_some ⟨rfl, by rw [zI_st, if_pos ⟨rfl, rfl⟩], hτ.i (Or.inl rfl), PR.i⟩
  | K + 1, k, p, S, B, T, len, hS, hB, hr, hpl, eT, el, hk, hp70, hQ => by
    subst eT
    subst el
    have hpl' := hpl (by omega)
    have hTX : sTl S ≤ 60 ∧ ∀ j, j < sTl S → 0 ≤ sTx S j ∧ sTx S j ≤ 65535 := hS.2.2.2
    have b := pc_b (T := sTx S) hpl'
    obtain ⟨ht, hrest⟩ := hr
    have b3 := b.2.2 ht
    have hnb : nb (sTx S p) ≠ 0 := by
      intro z
      have es : sg (sTx S) (sTl S) p = sTx S p := if_pos b3.2
      have : pc (sTx S) (sTl S) p = (false, p, fun _ => 0) := if_pos (by rw [es]; exact z)
      rw [this] at ht
      cases ht
    obtain ⟨ans, kk, S1, ⟨hS1, hE1⟩, hlk, hF, hG⟩ := carry (n := n) (c := c) hS (by omega) hn hcc (sTx S p) (pc (sTx S) (sTl S) p).2.2 hnb
    have hlt : (Int32.ofNat k < Int32.ofNat (k + (K + 1))) = (k < k + (K + 1)) := by
      by_cases hkk : k + (K + 1) < 2147483648
      · exact io_lt (by omega) hkk
      · omega
    have ex1 : sTx S1 = sTx S := by show S1.2.2.2.2.1.2 = S.2.2.2.2.1.2; rw [hE1]
    have el1 : sTl S1 = sTl S := by show S1.2.2.2.2.1.1.1 = S.2.2.2.2.1.1.1; rw [hE1]
    have eq1 : sQ S1 = sQ S := by show S1.2.2.2.2.2 = S.2.2.2.2.2; rw [hE1]
    -- the class's first step, and the reference's
    have stepC : ∀ f σ, K + 1 < f + 1 → JC σ S c → Cu (sTx S) (sTl S) σ k p → zI σ 122 4 = Int32.ofNat (k + (K + 1)) → ∀ Q : (Int32 ⊕ Nat) × zW → Prop, (∀ σ2, JC σ2 S1 c → FT σ σ2 → zI σ2 122 3 = Int32.ofNat (pc (sTx S) (sTl S) p).2.1 → zI σ2 122 4 = Int32.ofNat (k + (K + 1)) → wp (if ans < 0 then sX7_read_74 n 4 (Int32.ofNat k) σ2 else sX7_read_39 n f 4 (Int32.ofNat k + 1) σ2) Q) → wp (sX7_read_39 n (f + 1) 4 (Int32.ofNat k) σ) Q := by
      intro f σ hf hJ hc h4 Q hQ2
      rw [sX7_read_39]
      refine wpE (zgR_e hJ.x hJ.xt) ?_
      refine wpE (zgI_e hJ.kt h4) ?_
      refine wpE (if_pos (hlt.symm ▸ (show k < k + (K + 1) by omega))) ?_
      refine wpE (zgR_e hJ.x hJ.xt) ?_
      refine wpE (zck_e hJ.kt) ?_
      obtain ⟨r, er, u, w1, w2, w3⟩ := c_next (n := n) hJ hTX (by omega) (k := k) (by omega) hpl' hc ht
      refine wpE (zb2_e (v := r.1) (s := r.2) er) ?_
      have J1 := w1.jc hJ
      refine wpE (if_neg (by rw [u]; exact one_ne)) ?_
      refine wpE (zck_e J1.x) ?_
      obtain ⟨r2, er2, u2, J2, F2⟩ := hF r.2 J1 w2 w3
      refine wpE (zb2_e (v := r2.1) (s := r2.2) er2) ?_
      rw [u2]
      have e122 := (F2 122 (by omega)).2.2.2
      refine hQ2 r2.2 J2 ((w1.1.ft (fun o q => by omega)).trans F2.ft) ?_ ?_
      · rw [e122]; exact w1.2.2
      · rw [e122, w1.2.1 4 (by decide) (by decide)]; exact h4
    have stepR : ∀ f τ, JR τ S → zI τ 125 0 = 0 → ∀ Q : Int32 × zW → Prop, (∀ τ2, JR τ2 S1 → Fr PR τ τ2 → zI τ2 125 0 = kk → wp (if kk = 0 then sX8_read_119 n (sX8_read_84 n f) 125 (Int32.ofNat k) 1 τ2 else sX8_read_119 n (sX8_read_84 n f) 125 (Int32.ofNat k) 0 τ2) Q) → wp (sX8_read_84 n (f + 1) 125 (Int32.ofNat k) τ) Q := by
      intro f τ hτ h0 Q hQ2
      obtain ⟨q1, q2, q3, q4⟩ := hQ _ _ hτ.q
      rw [sX8_read_84]
      refine wpE (zgI_e hτ.k q1) ?_
      refine wpE (if_pos (hlt.symm ▸ (show k < k + (K + 1) by omega))) ?_
      refine wpE (zgI_e hτ.k h0) ?_
      refine wpE (if_pos rfl) ?_
      refine wpE (zck_e hτ.k) ?_
      rw [ix4]
      obtain ⟨τ2, e2, g1, g2, g3⟩ := hG τ (4 * k) hτ (by omega) q2 q3
      refine wpE (zb_e e2) ?_
      refine wpE (zgI_e g2.k g1) ?_
      exact hQ2 τ2 g2 g3 g1
    rcases hlk with ⟨ha, hk0⟩ | ⟨ha, hk0⟩
    · -- the command is carried out: the rest
      obtain ⟨v, S2, hS2, hE2, hC2, hR2⟩ := runT hn hcc K (k + 1) ((pc (sTx S) (sTl S) p).2.1 + 1) S1 (B + 1) (sTx S) (sTl S) hS1 (by omega) (by
        rcases hrest with rfl | h
        · exact trivial
        · exact h.2.2) (fun hK => by
        rcases hrest with rfl | h
        · exact absurd rfl hK
        · omega) ex1 el1 (by omega) (by omega) (fun a Z q => by
        rw [eq1] at q
        obtain ⟨q1, q2, q3, q4⟩ := hQ a Z q
        exact ⟨by rw [q1]; congr 1; omega, q4⟩)
      refine ⟨v, S2, by rw [show B + (K + 1) = B + 1 + K by omega]; exact hS2, hE2.trans hE1, fun f σ hf hJ hc h4 => ?_, fun f τ hf hτ h0 => ?_⟩
      · obtain ⟨f, rfl⟩ : ∃ f', f = f' + 1 := ⟨f - 1, by omega⟩
        refine stepC f σ hf hJ (hc (by omega)) h4 _ (fun σ2 J2 F2 p3 p4 => ?_)
        refine wpE (if_neg (Int32.not_lt.mpr ha)) ?_
        rw [io_succ]
        refine wp_mono (hC2 f σ2 (by omega) J2 (fun hK => ?_) (by rw [p4]; congr 1; omega)) (fun r q => ?_)
        · rcases hrest with rfl | h
          · exact absurd rfl hK
          · exact Or.inr ⟨by omega, by omega, p3, h.1, h.2.1⟩
        · obtain ⟨σ3, q1, q2, q3⟩ := q
          exact ⟨σ3, q1, q2, F2.trans q3⟩
      · obtain ⟨f, rfl⟩ : ∃ f', f = f' + 1 := ⟨f - 1, by omega⟩
        refine stepR f τ hτ h0 _ (fun τ2 t2 F2 z2 => ?_)
        refine wpE (if_pos hk0) ?_
        unfold sX8_read_119
        rw [io_succ]
        exact wp_mono (hR2 f τ2 (by omega) t2 (z2.trans hk0)) (fun r q => ⟨q.1, q.2.1, q.2.2.1, F2.trans q.2.2.2⟩)
    · -- it is refused: here the reading ends
      refine ⟨Int32.ofNat k, S1, hS1.mono (by omega), hE1, fun f σ hf hJ hc h4 => ?_, fun f τ hf hτ h0 => ?_⟩
      · obtain ⟨f, rfl⟩ : ∃ f', f = f' + 1 := ⟨f - 1, by omega⟩
        refine stepC f σ hf hJ (hc (by omega)) h4 _ (fun σ2 J2 F2 p3 p4 => ?_)
        refine wpE (if_pos ha) ?_
        refine wp_mono (c_read74 J2 _) (fun r q => ?_)
        obtain ⟨σ3, q1, q2, q3⟩ := q
        exact ⟨σ3, q1, q2, F2.trans q3⟩
      · obtain ⟨f, rfl⟩ : ∃ f', f = f' + 2 := ⟨f - 2, by omega⟩
        refine stepR (f + 1) τ hτ h0 _ (fun τ2 t2 F2 z2 => ?_)
        refine wpE (if_neg hk0) ?_
        unfold sX8_read_119
        rw [Int32.add_zero]
        have q1 := (hQ _ _ (show sQ S (zI τ2 125 17) (zI τ2 130) by rw [← eq1]; exact t2.q)).1
        rw [sX8_read_84]
        refine wpE (zgI_e t2.k q1) ?_
        refine wpE (if_pos (hlt.symm ▸ (show k < k + (K + 1) by omega))) ?_
        refine wpE (zgI_e t2.k z2) ?_
        refine wpE (if_neg hk0) ?_
        unfold sX8_read_124
        refine wpE (zpI_e t2.k rfl) ?_
        exact wp_some ⟨rfl, by rw [zI_st, if_pos ⟨rfl, rfl⟩], t2.i (Or.inl rfl), F2.trans PR.i⟩
end
