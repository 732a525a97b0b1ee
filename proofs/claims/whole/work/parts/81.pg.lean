/-! ORDERS PUT ONE AFTER ANOTHER ON A NEW LOT -/
def pgs (f : Nat → Nat) (t b : Nat) (a : Nat → Int32) : Nat → Int32 := if 0 < f b then put (rNum a) 184 t b (Int32.ofNat (f b)) (a 984 + 1) else a
def pg (f : Nat → Nat) (t : Nat) : Nat → Nat → (Nat → Int32) → Nat → Int32
  | 0, _, a => a
  | m + 1, b, a => pg f t m (b + 1) (pgs f t b a)
def pos1 (f : Nat → Nat) (c : Nat) : Nat := if 0 < f c then 1 else 0
theorem pgs_old {f : Nat → Nat} {t b j : Nat} {a : Nat → Int32} (hb : b < 10) (h1 : j ≠ 984) (h2 : ¬ ((184 + 10 * t ≤ j ∧ j < 194 + 10 * t) ∨ (384 + 10 * t ≤ j ∧ j < 394 + 10 * t))) : pgs f t b a j = a j := by
  unfold pgs
  by_cases h : 0 < f b
  · rw [if_pos h]
    unfold put rNum
    rw [up_ne (by omega), up_ne (by omega), up_ne h1]
  · rw [if_neg h]
theorem pg_old {f : Nat → Nat} {t j : Nat} (h1 : j ≠ 984) (h2 : ¬ ((184 + 10 * t ≤ j ∧ j < 194 + 10 * t) ∨ (384 + 10 * t ≤ j ∧ j < 394 + 10 * t))) : ∀ (m b : Nat) (a : Nat → Int32), b + m ≤ 10 → pg f t m b a j = a j
  | 0, _, _, _ => rfl
  | m + 1, b, a, h => (pg_old h1 h2 m (b + 1) (pgs f t b a) (by omega)).trans (pgs_old (by omega) h1 h2)
theorem mk_pgs {f : Nat → Nat} {t b : Nat} {a : Nat → Int32} (hb : b < 10) : mk (pgs f t b a) = mk a := by
  unfold mk
  rw [pgs_old hb (by omega) (by omega)]
theorem mk_pg {f : Nat → Nat} {t m b : Nat} {a : Nat → Int32} (hb : b + m ≤ 10) : mk (pg f t m b a) = mk a := by
  unfold mk
  rw [pg_old (by omega) (by omega) m b a hb]
theorem Cn.cong {a a' : Nat → Int32} (h : Cn a) (h1 : a' 23 = a 23) (h2 : a' 991 = a 991) : Cn a' := by
  obtain ⟨c1, c2, c3, c4⟩ := h
  have e1 : mk a' = mk a := by unfold mk; rw [h1]
  have e2 : kp a' = kp a := by unfold kp; rw [h2]
  exact ⟨by rw [h1, e1]; exact c1, by omega, by rw [h2, e2]; exact c3, by omega⟩
theorem pgs_rm {f : Nat → Nat} {t b i : Nat} {a : Nat → Int32} (hb : b < 10) (hi : i < 20) (ht : t < 20) (hit : i ≠ t) : rmK (pgs f t b a) 184 i 10 = pgs f t b (rmK a 184 i 10) := by
  unfold pgs
  by_cases h : 0 < f b
  · rw [if_pos h, if_pos h]
    unfold put rNum
    have e : rmK a 184 i 10 984 = a 984 := rm_old (by omega)
    rw [up_rm (by omega), up_rm (by omega), up_rm (by omega), e]
  · rw [if_neg h, if_neg h]
theorem pg_rm {f : Nat → Nat} {t i : Nat} (hi : i < 20) (ht : t < 20) (hit : i ≠ t) : ∀ (m b : Nat) (a : Nat → Int32), b + m ≤ 10 → rmK (pg f t m b a) 184 i 10 = pg f t m b (rmK a 184 i 10)
  | 0, _, _, _ => rfl
  | m + 1, b, a, h => by
    show rmK (pg f t m (b + 1) (pgs f t b a)) 184 i 10 = pg f t m (b + 1) (pgs f t b (rmK a 184 i 10))
    rw [pg_rm hi ht hit m (b + 1) _ (by omega), pgs_rm (by omega) hi ht hit]
theorem rMk_rm {a : Nat → Int32} {i : Nat} {sl q r : Int32} (hi : i < mk a) (hm : mk a < 20) : rmK (rMk a sl q r) 184 i 10 = rMk (rmK a 184 i 10) sl q r := by
  have em : mk (rmK a 184 i 10) = mk a := mk_rm (by omega)
  funext j
  by_cases h : (184 + 10 * i ≤ j ∧ j < 184 + 10 * i + 10) ∨ (184 + 200 + 10 * i ≤ j ∧ j < 184 + 200 + 10 * i + 10)
  · have e1 : rmK (rMk a sl q r) 184 i 10 j = 0 := if_pos h
    have e2 : rmK a 184 i 10 j = 0 := if_pos h
    rw [e1, rMk_old (by omega) (by omega) (by omega), e2]
  · have e1 : rmK (rMk a sl q r) 184 i 10 j = rMk a sl q r j := if_neg h
    have e2 : rmK a 184 i 10 j = a j := if_neg h
    rw [e1]
    unfold rMk bgn up
    simp only [em, e2]
theorem tot_rm {a : Nat → Int32} {i : Nat} (hi : i < mk a) (hi20 : i < 20) (hm : mk a ≤ 20) : tot (rmK a 184 i 10) + onm a i = tot a := by
  have em : mk (rmK a 184 i 10) = mk a := mk_rm (by omega)
  have z : onm (rmK a 184 i 10) i = 0 := by
    unfold onm
    have := nac_le (g := fun b => if 0 < rmK a 184 i 10 (184 + 10 * i + b) then 1 else 0) (M := 0) 10 0 (fun b _ hb => by
      have e : rmK a 184 i 10 (184 + 10 * i + b) = 0 := if_pos (by omega)
      show (if 0 < rmK a 184 i 10 (184 + 10 * i + b) then 1 else 0) ≤ 0
      rw [e, if_neg (by decide)]
      omega)
    omega
  have := nac_set (g := onm a) (g' := onm (rmK a 184 i 10)) (i0 := i) (mk a) 0 (by omega) (by omega) (fun j _ hj hne => by
    unfold onm
    refine nac_congr 10 0 (fun b _ hb => ?_)
    show (if 0 < rmK a 184 i 10 (184 + 10 * j + b) then 1 else 0) = if 0 < a (184 + 10 * j + b) then 1 else 0
    rw [rm_old (by omega)])
  unfold tot
  rw [em]
  omega
theorem tot_pgs {f : Nat → Nat} {t b : Nat} {a : Nat → Int32} (hb : b < 10) (ht : t < mk a) (hm : mk a ≤ 20) : tot (pgs f t b a) ≤ tot a + pos1 f b := by
  unfold pos1
  by_cases h : 0 < f b
  · have em := mk_pgs (f := f) (t := t) (a := a) hb
    have e1 := nac_set (g := fun c => if 0 < a (184 + 10 * t + c) then 1 else 0) (g' := fun c => if 0 < pgs f t b a (184 + 10 * t + c) then 1 else 0) (i0 := b) 10 0 (by omega) (by omega) (fun c _ hc hne => by
      show (if 0 < pgs f t b a (184 + 10 * t + c) then 1 else 0) = if 0 < a (184 + 10 * t + c) then 1 else 0
      have : pgs f t b a (184 + 10 * t + c) = a (184 + 10 * t + c) := by
        unfold pgs
        rw [if_pos h]
        unfold put rNum
        rw [up_ne (by omega), up_ne (by omega), up_ne (by omega)]
      rw [this])
    have e2 : onm (pgs f t b a) t ≤ onm a t + 1 := by
      have b1 : (if 0 < pgs f t b a (184 + 10 * t + b) then 1 else 0) ≤ 1 := by split <;> omega
      unfold onm
      omega
    have e3 := nac_set (g := onm a) (g' := onm (pgs f t b a)) (i0 := t) (mk a) 0 (by omega) (by omega) (fun j _ hj hne => by
      unfold onm
      refine nac_congr 10 0 (fun c _ hc => ?_)
      show (if 0 < pgs f t b a (184 + 10 * j + c) then 1 else 0) = if 0 < a (184 + 10 * j + c) then 1 else 0
      rw [pgs_old hb (by omega) (by omega)])
    rw [if_pos h]
    unfold tot
    rw [em]
    omega
  · unfold pgs
    rw [if_neg h, if_neg h]
    omega
theorem pgs_inv {f : Nat → Nat} {t b B : Nat} {a : Nat → Int32} (hf : f b ≤ 90000) (h : Inv a B) (ht : t < mk a) (hb : b < 10) (hB : B < 100000000) (hT : tot a + pos1 f b ≤ 40) : Inv (pgs f t b a) (B + 1) := by
  unfold pos1 at hT
  unfold pgs
  by_cases g : 0 < f b
  · rw [if_pos g] at hT ⊢
    exact h.order ht hb hf hB (Or.inl (by omega))
  · rw [if_neg g]
    exact h.mono (by omega)
theorem pg_inv {f : Nat → Nat} {t : Nat} (hf : ∀ b, b < 10 → f b ≤ 90000) : ∀ (m b : Nat) (a : Nat → Int32) (B : Nat), Inv a B → t < mk a → b + m ≤ 10 → B + m < 100000000 → tot a + nac (pos1 f) b m ≤ 40 → Inv (pg f t m b a) (B + m) ∧ tot (pg f t m b a) ≤ tot a + nac (pos1 f) b m
  | 0, _, a, B, h, _, _, _, _ => ⟨h, by show tot a ≤ tot a + 0; omega⟩
  | m + 1, b, a, B, h, ht, hb, hB, hT => by
    have e : nac (pos1 f) b (m + 1) = pos1 f b + nac (pos1 f) (b + 1) m := rfl
    have t1 := tot_pgs (f := f) (b := b) (by omega) ht h.1.2.1
    have i1 := pgs_inv (hf b (by omega)) h ht (by omega) (by omega) (by omega)
    have g := pg_inv hf m (b + 1) (pgs f t b a) (B + 1) i1 (by rw [mk_pgs (by omega)]; exact ht) (by omega) (by omega) (by omega)
    rw [show B + 1 + m = B + (m + 1) by omega] at g
    refine ⟨g.1, ?_⟩
    have := g.2
    show tot (pg f t m (b + 1) (pgs f t b a)) ≤ _
    omega
theorem rMk_cn {a : Nat → Int32} {sl q r : Int32} (hc : Cn a) (hm : mk a < 20) : Cn (rMk a sl q r) ∧ mk (rMk a sl q r) = mk a + 1 := by
  obtain ⟨c1, c2, c3, c4⟩ := hc
  have e : mk (rMk a sl q r) = mk a + 1 := by
    unfold mk
    rw [rMk_23]
    exact io_nat (by omega)
  have e2 : rMk a sl q r 991 = a 991 := rMk_old hm (by omega) (by omega)
  have e3 : kp (rMk a sl q r) = kp a := by unfold kp; rw [e2]
  exact ⟨⟨by rw [rMk_23, e], by omega, by rw [e2, e3]; exact c3, by omega⟩, e⟩
section
variable {σ τ : zW} {S S' : St} {c n B i b t : Nat}
theorem cw_pn {α : Type} {X : Int32} {K : zW → Option α} {Q : α → Prop} (hJ : JC σ S c) (ht : t < 20) (hb : b < 10) (hK : ∀ σ', Cw σ (uA S (put (rNum (sA S)) 184 t b X (sA S 984 + 1))) c σ' → wp (K σ') Q) : wp (zck σ 4 5 (zb2 (fX3_nextNumber n 5 σ) fun x11 σ12 => zck σ12 3 (lo 5 t) (zb (fX2_putOrder n (lo 5 t) (Int32.ofNat b) X x11 σ12) K))) Q := by
  refine wpE (zck_e hJ.rep.1.kS) ?_
  obtain ⟨p2, e2, u2, w2⟩ := cw_num (n := n) hJ
  refine wpE (zb2_e (v := p2.1) (s := p2.2) e2) ?_
  rw [u2]
  refine wpE (zck_e (w2.1.rep.1.kL ht)) ?_
  obtain ⟨σ3, e3, w3⟩ := cw_putO (n := n) (x := X) (y := sA S 984 + 1) w2.1 ht hb
  exact wpE (zb_e e3) (hK σ3 (w2.tr w3))
theorem jw_pn {α : Type} {X : Int32} {K : zW → Option α} {Q : α → Prop} (hτ : JR τ S) (ht : t < 20) (hb : b < 10) (hK : ∀ τ', Sm τ (uA S (put (rNum (sA S)) 184 t b X (sA S 984 + 1))) τ' → wp (K τ') Q) : wp (zck τ 9 125 (zb2 (fX8_nextNumber n 125 τ) fun x11 σ12 => zck σ12 9 125 (zb (fX8_putOrder n 125 (Int32.ofNat t) (Int32.ofNat b) X x11 σ12) K))) Q := by
  refine wpE (zck_e hτ.k) ?_
  obtain ⟨p2, e2, u2, w2⟩ := jw_num (n := n) hτ
  refine wpE (zb2_e (v := p2.1) (s := p2.2) e2) ?_
  rw [u2]
  refine wpE (zck_e w2.1.k) ?_
  obtain ⟨σ3, e3, w3⟩ := jw_putO (n := n) (x := X) (y := sA S 984 + 1) w2.1 ht hb
  exact wpE (zb_e e3) (hK σ3 (w2.tr w3))
/-- a lot's orders are these -/
def Src (a : Nat → Int32) (i : Nat) (M : Nat → Nat) : Prop := ∀ b, b < 10 → a (184 + 10 * i + b) = Int32.ofNat (M b) ∧ M b ≤ 90000
theorem Src.pgs {a : Nat → Int32} {M f : Nat → Nat} (h : Src a i M) (hb : b < 10) (hi : i < 20) (ht : t < 20) (hit : i ≠ t) : Src (pgs f t b a) i M := fun c hc => by
  rw [pgs_old hb (by omega) (by omega)]
  exact h c hc
theorem Src.mk' {a : Nat → Int32} {M : Nat → Nat} {sl q r : Int32} (h : Src a i M) (hi : i < mk a) (hm : mk a < 20) : Src (rMk a sl q r) i M := fun c hc => by
  rw [rMk_old hm (by omega) (by omega)]
  exact h c hc
def gF (M N : Nat → Nat) (b : Nat) : Nat := if 0 < M b ∧ 0 < N b then min (M b + N b) 90000 else 0
theorem c_grp {M N : Nat → Nat} {j : Nat} (hi : i < 20) (hj : j < 20) (ht : t < 20) (hit : i ≠ t) (hjt : j ≠ t) : ∀ (m k b : Nat) (σ : zW) (S : St), JC σ S c → Src (sA S) i M → Src (sA S) j N → i < mk (sA S) → j < mk (sA S) → b + m = 10 → m < k →
    wp (sX3_makeGroup_30 n k 5 (lo 5 i) (lo 5 j) (Int32.ofNat t) (Int32.ofNat b) σ) (fun p => p.1 = Int32.ofNat t ∧ Cw σ (uA S (pg (gF M N) t m b (sA S))) c p.2)
  | m, 0, _, _, _, _, _, _, _, _, _, hk => absurd hk (by omega)
  | 0, k + 1, b, σ, S, hJ, hM, hN, him, hjm, hb, hk => by
    have hlt : ¬ Int32.ofNat b < 10 := by
      have : (Int32.ofNat b < Int32.ofNat 10) = (b < 10) := io_lt (by omega) (by decide)
      intro z
      have := this ▸ z
      omega
    rw [sX3_makeGroup_30]
    exact wpE (if_neg hlt) (wp_some ⟨rfl, Cw.refl hJ⟩)
  | m + 1, k + 1, b, σ, S, hJ, hM, hN, him, hjm, hb, hk => by
    have hR := hJ.rep
    have hb10 : b < 10 := by omega
    have hlt : Int32.ofNat b < 10 := by
      have : (Int32.ofNat b < Int32.ofNat 10) = (b < 10) := io_lt (by omega) (by decide)
      exact this.symm ▸ hb10
    obtain ⟨m1, m2⟩ := hM b hb10
    obtain ⟨n1, n2⟩ := hN b hb10
    have i1 : Int32.ofNat b + 1 = Int32.ofNat (b + 1) := io_succ
    have rec0 : gF M N b = 0 → wp (sX3_makeGroup_96 n (sX3_makeGroup_30 n k) 5 (lo 5 i) (lo 5 j) (Int32.ofNat t) (Int32.ofNat b) σ) (fun p => p.1 = Int32.ofNat t ∧ Cw σ (uA S (pg (gF M N) t (m + 1) b (sA S))) c p.2) := fun h => by
      have e : pg (gF M N) t (m + 1) b (sA S) = pg (gF M N) t m (b + 1) (sA S) := by
        show pg (gF M N) t m (b + 1) (pgs (gF M N) t b (sA S)) = _
        unfold pgs
        rw [if_neg (by omega)]
      unfold sX3_makeGroup_96
      rw [i1, e]
      exact c_grp hi hj ht hit hjt m k (b + 1) σ S hJ hM hN him hjm (by omega) (by omega)
    rw [sX3_makeGroup_30]
    refine wpE (if_pos hlt) ?_
    refine wpE (zgR_e (hR.1.kL hi) (hR.1.rL0 hi)) ?_
    refine wpE (zaN_e (hR.1.kL0 hi) (hR.1.lL0 hi) hb10 (by decide) ((hR.p0 hi hb10 him).trans m1)) ?_
    by_cases g1 : 0 < M b
    · refine wpE (if_pos (Eq.mpr (io_pos (by omega)) g1)) ?_
      refine wpE (zgR_e (hR.1.kL hj) (hR.1.rL0 hj)) ?_
      refine wpE (zaN_e (hR.1.kL0 hj) (hR.1.lL0 hj) hb10 (by decide) ((hR.p0 hj hb10 hjm).trans n1)) ?_
      by_cases g2 : 0 < N b
      · have ef : gF M N b = min (M b + N b) 90000 := if_pos ⟨g1, g2⟩
        have es : pgs (gF M N) t b (sA S) = put (rNum (sA S)) 184 t b (Int32.ofNat (gF M N b)) (sA S 984 + 1) := if_pos (by omega)
        refine wpE (if_pos (Eq.mpr (io_pos (by omega)) g2)) ?_
        refine wpE (zgR_e (hR.1.kL hi) (hR.1.rL0 hi)) ?_
        refine wpE (zaN_e (hR.1.kL0 hi) (hR.1.lL0 hi) hb10 (by decide) ((hR.p0 hi hb10 him).trans m1)) ?_
        refine wpE (zgR_e (hR.1.kL hj) (hR.1.rL0 hj)) ?_
        refine wpE (zaN_e (hR.1.kL0 hj) (hR.1.lL0 hj) hb10 (by decide) ((hR.p0 hj hb10 hjm).trans n1)) ?_
        refine wpE (zgR_e hR.1.kS hR.1.r3) ?_
        refine wpE (zaRN_e hR.1.kO hR.1.lO ht (by decide) (hR.1.rL ht)) ?_
        have ex : (if (90000 : Int32) < Int32.ofNat (M b) + Int32.ofNat (N b) then (90000 : Int32) else Int32.ofNat (M b) + Int32.ofNat (N b)) = Int32.ofNat (gF M N b) := by
          have l : ((90000 : Int32) < Int32.ofNat (M b + N b)) = (90000 < M b + N b) := io_lt (a := 90000) (by decide) (by omega)
          rw [ef, ixl]
          by_cases z : 90000 < M b + N b
          · rw [if_pos (l.symm ▸ z), Nat.min_eq_right (by omega)]
            rfl
          · rw [if_neg (fun y => z (l ▸ y)), Nat.min_eq_left (by omega)]
        rw [ex]
        refine cw_pn hJ ht hb10 (fun σ' w => ?_)
        rw [← es] at w
        unfold sX3_makeGroup_96
        rw [i1]
        refine wp_mono (c_grp hi hj ht hit hjt m k (b + 1) σ' _ w.1 (hM.pgs hb10 hi ht hit) (hN.pgs hb10 hj ht hjt) ?_ ?_ (by omega) (by omega)) (fun p q => ⟨q.1, w.tr q.2⟩)
        · show i < mk (pgs _ t b (sA S))
          rw [mk_pgs hb10]
          exact him
        · show j < mk (pgs _ t b (sA S))
          rw [mk_pgs hb10]
          exact hjm
      · refine wpE (if_neg (fun z => g2 (Eq.mp (io_pos (by omega)) z))) ?_
        exact rec0 (if_neg (fun z => g2 z.2))
    · refine wpE (if_neg (fun z => g1 (Eq.mp (io_pos (by omega)) z))) ?_
      exact rec0 (if_neg (fun z => g1 z.1))
theorem ctb {b m : Nat} (h : b + m = 10) : (Int32.ofNat b < 10) = (0 < m) := by
  have : (Int32.ofNat b < 10) = (b < 10) := io_lt (b := 10) (by omega) (by decide)
  rw [this]
  exact propext ⟨fun _ => by omega, fun _ => by omega⟩
/-- the reference's loop, up to what follows it -/
theorem j_grp {M N : Nat → Nat} {i j : Nat} {Q : Int32 × zW → Prop} (hi : i < 20) (hj : j < 20) (ht : t < 20) (hit : i ≠ t) (hjt : j ≠ t) : ∀ (m k b : Nat) (τ : zW) (S : St), JR τ S → Src (sA S) i M → Src (sA S) j N → b + m = 10 → m < k →
    (∀ τ', Sm τ (uA S (pg (gF M N) t m b (sA S))) τ' → wp (zck τ' 9 125 (zb2 (fX8_removeOrders n 125 (Int32.ofNat i) τ') fun x7 σ8 => zck σ8 9 125 (zb2 (fX8_removeOrders n 125 (Int32.ofNat j) σ8) fun x9 σ10 => zck σ10 9 125 (zb (fX8_set n 125 (Int32.ofNat i) 3 6 σ10) fun σ11 => zck σ11 9 125 (zb (fX8_set n 125 (Int32.ofNat j) 3 6 σ11) fun σ12 => zck σ12 9 125 (zb (fX8_note n 125 7 (Int32.ofNat i) (-1) (Int32.ofNat t) σ12) fun σ13 => some (Int32.ofNat t, σ13))))))) Q) →
    wp (sX8_group_169 n k 125 (Int32.ofNat i) (Int32.ofNat j) (Int32.ofNat t) (Int32.ofNat b) τ) Q
  | m, 0, _, _, _, _, _, _, _, hk, _ => absurd hk (by omega)
  | 0, k + 1, b, τ, S, hτ, hM, hN, hb, hk, hQ => by
    rw [sX8_group_169]
    exact wpE (if_neg (fun z => by have := (ctb hb) ▸ z; omega)) (hQ τ ⟨hτ, Fr.refl, rfl⟩)
  | m + 1, k + 1, b, τ, S, hτ, hM, hN, hb, hk, hQ => by
    have hb10 : b < 10 := by omega
    obtain ⟨m1, m2⟩ := hM b hb10
    obtain ⟨n1, n2⟩ := hN b hb10
    have i1 : Int32.ofNat b + 1 = Int32.ofNat (b + 1) := io_succ
    have rec0 : gF M N b = 0 → wp (sX8_group_227 n (sX8_group_169 n k) 125 (Int32.ofNat i) (Int32.ofNat j) (Int32.ofNat t) (Int32.ofNat b) τ) Q := fun h => by
      have e : pg (gF M N) t (m + 1) b (sA S) = pg (gF M N) t m (b + 1) (sA S) := by
        show pg (gF M N) t m (b + 1) (pgs (gF M N) t b (sA S)) = _
        unfold pgs
        rw [if_neg (by omega)]
      unfold sX8_group_227
      rw [i1]
      rw [e] at hQ
      exact j_grp hi hj ht hit hjt m k (b + 1) τ S hτ hM hN (by omega) (by omega) hQ
    rw [sX8_group_169]
    refine wpE (if_pos (Eq.mpr (ctb hb) (by omega))) ?_
    refine wpE (zck_e hτ.k) ?_
    refine wpE (zb_e ((j_orderOf hτ hi hb10).trans (congrArg some m1))) ?_
    by_cases g1 : 0 < M b
    · refine wpE (if_pos (Eq.mpr (io_pos (by omega)) g1)) ?_
      refine wpE (zck_e hτ.k) ?_
      refine wpE (zb_e ((j_orderOf hτ hj hb10).trans (congrArg some n1))) ?_
      by_cases g2 : 0 < N b
      · have ef : gF M N b = min (M b + N b) 90000 := if_pos ⟨g1, g2⟩
        have es : pgs (gF M N) t b (sA S) = put (rNum (sA S)) 184 t b (Int32.ofNat (gF M N b)) (sA S 984 + 1) := if_pos (by omega)
        refine wpE (if_pos (Eq.mpr (io_pos (by omega)) g2)) ?_
        refine wpE (zck_e hτ.k) ?_
        refine wpE (zb_e ((j_orderOf hτ hi hb10).trans (congrArg some m1))) ?_
        refine wpE (zck_e hτ.k) ?_
        refine wpE (zb_e ((j_orderOf hτ hj hb10).trans (congrArg some n1))) ?_
        have ex : (if Int32.ofNat (M b) + Int32.ofNat (N b) < (90000 : Int32) then Int32.ofNat (M b) + Int32.ofNat (N b) else (90000 : Int32)) = Int32.ofNat (gF M N b) := by
          have l : (Int32.ofNat (M b + N b) < (90000 : Int32)) = (M b + N b < 90000) := io_lt (b := 90000) (by omega) (by decide)
          rw [ef, ixl]
          by_cases z : M b + N b < 90000
          · rw [if_pos (l.symm ▸ z), Nat.min_eq_left (by omega)]
          · rw [if_neg (fun y => z (l ▸ y)), Nat.min_eq_right (by omega)]
            rfl
        rw [ex]
        refine jw_pn hτ ht hb10 (fun τ' w => ?_)
        rw [← es] at w
        unfold sX8_group_227
        rw [i1]
        exact j_grp hi hj ht hit hjt m k (b + 1) τ' _ w.1 (hM.pgs hb10 hi ht hit) (hN.pgs hb10 hj ht hjt) (by omega) (by omega) (fun τ2 w2 => hQ τ2 (w.tr w2))
      · refine wpE (if_neg (fun z => g2 (Eq.mp (io_pos (by omega)) z))) ?_
        exact rec0 (if_neg (fun z => g2 z.2))
    · refine wpE (if_neg (fun z => g1 (Eq.mp (io_pos (by omega)) z))) ?_
      exact rec0 (if_neg (fun z => g1 z.1))
end
