/-! LOTS ARE SPLIT -/
section
variable {σ τ : zW} {S S' : St} {c n B i b t : Nat} {M : Nat → Nat} {Q R p : Nat} {sl : Int32}
theorem c_part22 (hit : i ≠ t) (ht : t < 20) (h1 : 1 ≤ Q) (h2 : Q ≤ 20) {q : Nat} (hq : q ≤ 20) : ∀ (m k b : Nat) (σ : zW) (S : St), JC σ S c → Spl (sA S) i M Q R sl → b + m = 10 → m < k →
    wp (sX3_makePart_22 n k 5 (lo 5 i) (Int32.ofNat q) (Int32.ofNat t) (Int32.ofNat b) σ) (Cw σ (uA S (pg (sF M Q q) t m b (sA S))) c)
  | m, 0, _, _, _, _, _, _, hk => absurd hk (by omega)
  | 0, k + 1, b, σ, S, hJ, h, hb, hk => by
    rw [sX3_makePart_22]
    exact wpE (if_neg (fun z => by have := (ctb hb) ▸ z; omega)) (wp_some (Cw.refl hJ))
  | m + 1, k + 1, b, σ, S, hJ, h, hb, hk => by
    have hR := hJ.rep
    have hb10 : b < 10 := by omega
    have hi20 : i < 20 := by have := h.2.2.2.2.1; have := h.2.2.2.2.2.2.1; omega
    obtain ⟨m1, m2⟩ := h.1 b hb10
    have bd : M b * q ≤ 90000 * 20 := Nat.mul_le_mul m2 hq
    have bd2 : M b * q / Q ≤ M b * q := Nat.div_le_self _ _
    have i1 : Int32.ofNat b + 1 = Int32.ofNat (b + 1) := io_succ
    rw [sX3_makePart_22]
    refine wpE (if_pos (Eq.mpr (ctb hb) (by omega))) ?_
    refine wpE (zgR_e (hR.1.kL hi20) (hR.1.rL0 hi20)) ?_
    refine wpE (zaN_e (hR.1.kL0 hi20) (hR.1.lL0 hi20) hb10 (by decide) ((hR.p0 hi20 hb10 h.2.2.2.2.1).trans m1)) ?_
    refine wpE (zck_e (hR.1.kL hi20)) ?_
    refine wpE (zb_e (sh_c hJ h h1 h2 m2 hq)) ?_
    by_cases g : 0 < M b * q / Q
    · have es : pgs (sF M Q q) t b (sA S) = put (rNum (sA S)) 184 t b (Int32.ofNat (M b * q / Q)) (sA S 984 + 1) := if_pos g
      refine wpE (if_pos (Eq.mpr (io_pos (by omega)) g)) ?_
      refine wpE (zgR_e hR.1.kS hR.1.r3) ?_
      refine wpE (zaRN_e hR.1.kO hR.1.lO ht (by decide) (hR.1.rL ht)) ?_
      refine cw_pn hJ ht hb10 (fun σ' w => ?_)
      rw [← es] at w
      unfold sX3_makePart_65
      rw [i1]
      exact wp_mono (c_part22 hit ht h1 h2 hq m k (b + 1) σ' _ w.1 (h.pgs hb10 ht hit) (by omega) (by omega)) (fun p q => w.tr q)
    · have e : pg (sF M Q q) t (m + 1) b (sA S) = pg (sF M Q q) t m (b + 1) (sA S) := by
        show pg (sF M Q q) t m (b + 1) (pgs (sF M Q q) t b (sA S)) = _
        have : pgs (sF M Q q) t b (sA S) = sA S := if_neg g
        rw [this]
      refine wpE (if_neg (fun z => g (Eq.mp (io_pos (by omega)) z))) ?_
      unfold sX3_makePart_65
      rw [i1, e]
      exact c_part22 hit ht h1 h2 hq m k (b + 1) σ S hJ h (by omega) (by omega)
theorem c_makePart (hJ : JC σ S c) (h : Spl (sA S) i M Q R sl) (hm : mk (sA S) < 20) (h1 : 1 ≤ Q) (h2 : Q ≤ 20) {q : Nat} (hq : q ≤ 20) (hn : 1000 < n) : wp (fX3_makePart n 5 (lo 5 i) (Int32.ofNat q) σ) (Cw σ (uA S (prow M Q R sl q (sA S))) c) := by
  have hR := hJ.rep
  have him := h.2.2.2.2.1
  have hi20 : i < 20 := by omega
  unfold fX3_makePart
  refine wpE (zgI_e (hR.1.kL hi20) ((hR.l0 hi20 him).trans h.2.2.1)) ?_
  refine wpE (zgI_e (hR.1.kL hi20) ((hR.l2 hi20 him).trans h.2.2.2.1.1)) ?_
  refine wpE (zck_e (hR.1.kL hi20)) ?_
  refine wpE (zb_e (sh_c hJ h h1 h2 h.2.2.2.1.2 hq)) ?_
  refine wpE (zck_e hR.1.kS) ?_
  obtain ⟨p2, e2, u2, w2⟩ := cw_mk (n := n) (sl := sl) (q := Int32.ofNat q) (r := Int32.ofNat (R * q / Q)) hJ h.2.2.2.2.2 hn hm
  refine wpE (zb2_e (v := p2.1) (s := p2.2) e2) ?_
  rw [u2]
  exact wp_mono (c_part22 (M := M) (Q := Q) (R := R) (sl := sl) (show i ≠ mk (sA S) by omega) hm h1 h2 hq 10 n 0 p2.2 _ w2.1 (h.mk' hm) (by omega) (by omega)) (fun p q => w2.tr q)
theorem c_split97 {v4 : Int32} {Q' : (Int32 ⊕ Nat) × zW → Prop} (hp : 2 ≤ p) (hp4 : p ≤ 4) (hQ : p ≤ Q) (h2 : Q ≤ 20) (hn : 1000 < n) : ∀ (m k part : Nat) (σ : zW) (S : St), JC σ S c → Spl (sA S) i M Q R sl → mk (sA S) + m ≤ 20 → part + m = p → m < k →
    (∀ σ', Cw σ (uA S (ps M Q R sl p m part (sA S))) c σ' → wp (zpI σ' 3 (lo 5 i) 4 5 fun σ1 => zck σ1 3 (lo 5 i) (zb (fX2_removeOrders n (lo 5 i) σ1) fun σ2 => zgR σ2 8 4 0 fun x3 => zgR σ2 4 x3 4 fun x4 => zck σ2 2 x4 (zb (fX1_note n x4 6 (Int32.ofNat i) (-1) v4 σ2) fun σ5 => some (.inl v4, σ5)))) Q') →
    wp (sX7_split_97 n k 4 (Int32.ofNat i) (Int32.ofNat p) (lo 5 i) v4 (Int32.ofNat part) σ) Q'
  | m, 0, _, _, _, _, _, _, _, hk, _ => absurd hk (by omega)
  | 0, k + 1, part, σ, S, hJ, h, hm, hb, hk, hQ' => by
    have hl : (Int32.ofNat part < Int32.ofNat p) = (part < p) := io_lt (by omega) (by omega)
    rw [sX7_split_97]
    exact wpE (if_neg (fun z => by have := hl ▸ z; omega)) (hQ' σ (Cw.refl hJ))
  | m + 1, k + 1, part, σ, S, hJ, h, hm, hb, hk, hQ' => by
    have hl : (Int32.ofNat part < Int32.ofNat p) = (part < p) := io_lt (by omega) (by omega)
    have hi20 : i < 20 := by have := h.2.2.2.2.1; omega
    obtain ⟨b1, b2⟩ := qpt_b (k := part) hp hQ
    have i1 : Int32.ofNat part + 1 = Int32.ofNat (part + 1) := io_succ
    rw [sX7_split_97]
    refine wpE (if_pos (hl.symm ▸ (show part < p by omega))) ?_
    refine wpE (zgR_e hJ.x hJ.xs) ?_
    refine wpE (zck_e (hJ.rep.1.kL hi20)) ?_
    refine wpE (zb_e (qp_c hJ h h2 (by omega) (by omega) (by omega))) ?_
    refine wpE (zck_e hJ.rep.1.kS) ?_
    obtain ⟨σ1, e1, w1⟩ := c_makePart (n := n) hJ h (by omega) (by omega) h2 (show qpt Q p part ≤ 20 by omega) hn
    refine wpE (zb_e e1) ?_
    rw [i1]
    have g := h.prow (q := qpt Q p part) (s := sl) (by omega)
    exact c_split97 hp hp4 hQ h2 hn m k (part + 1) σ1 _ w1.1 g.1 (by
      show mk (prow M Q R sl (qpt Q p part) (sA S)) + m ≤ 20
      rw [g.2]; omega) (by omega) (by omega) (fun σ' w => hQ' σ' (w1.tr w))
theorem j_split157 {v4 : Int32} {Q' : Int32 × zW → Prop} {r113 : Nat → Nat → Int32 → Int32 → Int32 → Int32 → Int32 → zW → Option (Int32 × zW)} {q part K : Nat} (hit : i ≠ t) (ht : t < 20) (h1 : 1 ≤ Q) (h2 : Q ≤ 20) (hq : q ≤ 20) : ∀ (m k b : Nat) (τ : zW) (S : St), JR τ S → Spl (sA S) i M Q R sl → b + m = 10 → m < k →
    (∀ τ', Sm τ (uA S (pg (sF M Q q) t m b (sA S))) τ' → wp (r113 K 125 (Int32.ofNat i) (Int32.ofNat p) (Int32.ofNat Q) v4 (Int32.ofNat (part + 1)) τ') Q') →
    wp (sX8_split_157 n (r113 K) k 125 (Int32.ofNat i) (Int32.ofNat p) (Int32.ofNat Q) v4 (Int32.ofNat part) (Int32.ofNat q) (Int32.ofNat t) (Int32.ofNat b) τ) Q'
  | m, 0, _, _, _, _, _, _, hk, _ => absurd hk (by omega)
  | 0, k + 1, b, τ, S, hτ, h, hb, hk, hQ' => by
    have i1 : Int32.ofNat part + 1 = Int32.ofNat (part + 1) := io_succ
    rw [sX8_split_157]
    refine wpE (if_neg (fun z => by have := (ctb hb) ▸ z; omega)) ?_
    rw [i1]
    exact hQ' τ ⟨hτ, Fr.refl, rfl⟩
  | m + 1, k + 1, b, τ, S, hτ, h, hb, hk, hQ' => by
    have hb10 : b < 10 := by omega
    have hi20 : i < 20 := by have := h.2.2.2.2.1; have := h.2.2.2.2.2.2.1; omega
    obtain ⟨m1, m2⟩ := h.1 b hb10
    have bd : M b * q ≤ 90000 * 20 := Nat.mul_le_mul m2 hq
    have bd2 : M b * q / Q ≤ M b * q := Nat.div_le_self _ _
    have i1 : Int32.ofNat b + 1 = Int32.ofNat (b + 1) := io_succ
    rw [sX8_split_157]
    refine wpE (if_pos (Eq.mpr (ctb hb) (by omega))) ?_
    refine wpE (zck_e hτ.k) ?_
    refine wpE (zb_e ((j_orderOf hτ hi20 hb10).trans (congrArg some m1))) ?_
    refine wpE (zb_e (r_share m2 hq h1 h2)) ?_
    by_cases g : 0 < M b * q / Q
    · have es : pgs (sF M Q q) t b (sA S) = put (rNum (sA S)) 184 t b (Int32.ofNat (M b * q / Q)) (sA S 984 + 1) := if_pos g
      refine wpE (if_pos (Eq.mpr (io_pos (by omega)) g)) ?_
      refine jw_pn hτ ht hb10 (fun τ' w => ?_)
      rw [← es] at w
      unfold sX8_split_198
      rw [i1]
      exact j_split157 hit ht h1 h2 hq m k (b + 1) τ' _ w.1 (h.pgs hb10 ht hit) (by omega) (by omega) (fun τ2 w2 => hQ' τ2 (w.tr w2))
    · have e : pg (sF M Q q) t (m + 1) b (sA S) = pg (sF M Q q) t m (b + 1) (sA S) := by
        show pg (sF M Q q) t m (b + 1) (pgs (sF M Q q) t b (sA S)) = _
        have : pgs (sF M Q q) t b (sA S) = sA S := if_neg g
        rw [this]
      refine wpE (if_neg (fun z => g (Eq.mp (io_pos (by omega)) z))) ?_
      unfold sX8_split_198
      rw [i1]
      rw [e] at hQ'
      exact j_split157 hit ht h1 h2 hq m k (b + 1) τ S hτ h (by omega) (by omega) hQ'
theorem j_split113 {v4 : Int32} {Q' : Int32 × zW → Prop} (hp : 2 ≤ p) (hp4 : p ≤ 4) (hQ : p ≤ Q) (h2 : Q ≤ 20) (hn : 1000 < n) : ∀ (m k part : Nat) (τ : zW) (S : St), JR τ S → Spl (sA S) i M Q R sl → mk (sA S) + m ≤ 20 → part + m = p → m < k →
    (∀ τ', Sm τ (uA S (ps M Q R sl p m part (sA S))) τ' → wp (zck τ' 9 125 (zb2 (fX8_removeOrders n 125 (Int32.ofNat i) τ') fun x10 σ11 => zck σ11 9 125 (zb (fX8_set n 125 (Int32.ofNat i) 3 5 σ11) fun σ12 => zck σ12 9 125 (zb (fX8_note n 125 6 (Int32.ofNat i) (-1) v4 σ12) fun σ13 => some (v4, σ13))))) Q') →
    wp (sX8_split_113 n k 125 (Int32.ofNat i) (Int32.ofNat p) (Int32.ofNat Q) v4 (Int32.ofNat part) τ) Q'
  | m, 0, _, _, _, _, _, _, _, hk, _ => absurd hk (by omega)
  | 0, k + 1, part, τ, S, hτ, h, hm, hb, hk, hQ' => by
    have hl : (Int32.ofNat part < Int32.ofNat p) = (part < p) := io_lt (by omega) (by omega)
    rw [sX8_split_113]
    exact wpE (if_neg (fun z => by have := hl ▸ z; omega)) (hQ' τ ⟨hτ, Fr.refl, rfl⟩)
  | m + 1, k + 1, part, τ, S, hτ, h, hm, hb, hk, hQ' => by
    have hl : (Int32.ofNat part < Int32.ofNat p) = (part < p) := io_lt (by omega) (by omega)
    have hi20 : i < 20 := by have := h.2.2.2.2.1; omega
    have hm20 : mk (sA S) < 20 := by omega
    obtain ⟨b1, b2⟩ := qpt_b (k := part) hp hQ
    rw [sX8_split_113]
    refine wpE (if_pos (hl.symm ▸ (show part < p by omega))) ?_
    refine wpE (zb_e (r_quantityOf h2 (by omega) (by omega) (by omega))) ?_
    refine wpE (zck_e hτ.k) ?_
    refine wpE (zb_e ((j_at0 hτ hi20).trans (congrArg some h.2.2.1))) ?_
    refine wpE (zck_e hτ.k) ?_
    refine wpE (zb_e ((j_at2 hτ hi20).trans (congrArg some h.2.2.2.1.1))) ?_
    refine wpE (zb_e (r_share h.2.2.2.1.2 (by omega) (by omega) h2)) ?_
    refine wpE (zck_e hτ.k) ?_
    obtain ⟨p2, e2, u2, w2⟩ := jw_mk (n := n) (sl := sl) (q := Int32.ofNat (qpt Q p part)) (r := Int32.ofNat (R * qpt Q p part / Q)) hτ h.2.2.2.2.2 hn hm20
    refine wpE (zb2_e (v := p2.1) (s := p2.2) e2) ?_
    rw [u2]
    have g := h.prow (q := qpt Q p part) (s := sl) hm20
    have him := h.2.2.2.2.1
    refine j_split157 (r113 := sX8_split_113 n) (M := M) (R := R) (sl := sl) (show i ≠ mk (sA S) by omega) hm20 (by omega) h2 (show qpt Q p part ≤ 20 by omega) 10 n 0 p2.2 _ w2.1 (h.mk' hm20) (by omega) (by omega) (fun τ2 x2 => ?_)
    exact j_split113 hp hp4 hQ h2 hn m k (part + 1) τ2 (uA S (prow M Q R sl (qpt Q p part) (sA S))) x2.1 g.1 (by
      show mk (prow M Q R sl (qpt Q p part) (sA S)) + m ≤ 20
      rw [g.2]; omega) (by omega) (by omega) (fun τ' w => hQ' τ' ((w2.tr x2).tr w))
theorem ps_mk {s : Int32} : ∀ (m k : Nat) (a : Nat → Int32), Cn a → mk a + m ≤ 20 → mk (ps M Q R s p m k a) = mk a + m
  | 0, _, _, _, _ => rfl
  | m + 1, k, a, hc, hm => by
    have kc := rMk_cn (sl := s) (q := Int32.ofNat (qpt Q p k)) (r := Int32.ofNat (R * qpt Q p k / Q)) hc (by omega)
    have k2 : mk (prow M Q R s (qpt Q p k) a) = mk a + 1 := (mk_pg (by omega)).trans kc.2
    have g := ps_mk (s := s) m (k + 1) (prow M Q R s (qpt Q p k) a) (kc.1.cong (pg_old (by omega) (by omega) 10 0 _ (by omega)) (pg_old (by omega) (by omega) 10 0 _ (by omega))) (by rw [k2]; omega)
    rw [k2] at g
    exact g.trans (by omega)
def srow (a : Nat → Int32) (i p : Nat) : Nat → Int32 := rNote (up (rmK (ps (qM a i) (qQ a i) (qR a i) (Int32.ofNat (qS a i)) p p 0 a) 184 i 10) (24 + 8 * i + 3) 5) 6 (Int32.ofNat i) (-1) (Int32.ofNat (mk a))
theorem spl_of {a : Nat → Int32} (hI : Inv a B) (hi : i < mk a) : Spl a i (qM a i) (qQ a i) (qR a i) (Int32.ofNat (qS a i)) := by
  obtain ⟨hL, ⟨q1, q2, q3⟩, ⟨s1, s2⟩, -⟩ := hI.2.2.1 i hi
  exact ⟨src_lt hL, q1, s1, hL.1, hi, hI.1⟩
theorem srow_inv {a : Nat → Int32} (hI : Inv a B) (hB : B + 40 < 100000000) (hi : i < mk a) (hp : 2 ≤ p) (hp4 : p ≤ 4) (hQ : p ≤ qQ a i) (hm : mk a + p ≤ 20) (hT : tot a - onm a i + nac (pcn (qM a i) (qQ a i) p) 0 p ≤ 40) : Inv (srow a i p) (B + 40) := by
  obtain ⟨hL, ⟨q1, q2, q3⟩, ⟨s1, s2⟩, -⟩ := hI.2.2.1 i hi
  have m1 : mk (rmK a 184 i 10) = mk a := mk_rm (by omega)
  have I1 := hI.rm hi (c := 184) (Or.inl rfl)
  have t1 := tot_rm hi (by omega) (by omega)
  have I2 := ps_inv (M := qM a i) (Q := qQ a i) (R := qR a i) (p := p) (q0 := qS a i) (fun b hb => (hL.2.1 b hb).1.2) hL.1.2 hp hQ q3 s2 p 0 (rmK a 184 i 10) B I1 (by rw [m1]; exact hm) (by omega) (by omega)
  unfold srow
  rw [ps_rm p 0 a hI.1 hi hm]
  have k2 : mk (ps (qM a i) (qQ a i) (qR a i) (Int32.ofNat (qS a i)) p p 0 (rmK a 184 i 10)) = mk a + p := by
    have g := ps_mk (M := qM a i) (Q := qQ a i) (R := qR a i) (p := p) (s := Int32.ofNat (qS a i)) p 0 (rmK a 184 i 10) I1.1 (by rw [m1]; exact hm)
    rw [g, m1]
  exact (((I2.free (Or.inr (Or.inr ⟨i, by omega, Or.inr (Or.inr ⟨rfl, by decide⟩)⟩))).note (κ := 6) (l := Int32.ofNat i) (β := -1) (x := Int32.ofNat (mk a)) rfl (by rw [mk_up (by omega), k2]; omega))).mono (by omega)
end
