/-! EVENTS ARE NOTED, NUMBERS TAKEN, A LOT'S NUMBERS SET -/
def rNote (a : Nat → Int32) (κ l b x : Int32) : Nat → Int32 := fun j => if kp a < 250 then (if j = 991 then Int32.ofNat (kp a + 1) else if j = 992 + 4 * kp a + 3 then x else if j = 992 + 4 * kp a + 2 then b else if j = 992 + 4 * kp a + 1 then l else if j = 992 + 4 * kp a + 0 then κ else a j) else a j
theorem kp_lt {a : Nat → Int32} (hc : Cn a) : (a 991 < 250) = (kp a < 250) := by
  obtain ⟨-, -, h991, hkp⟩ := hc
  rw [h991, show (250 : Int32) = Int32.ofNat 250 from rfl, io_lt (by omega) (by omega)]
section
variable {σ : zW} {s n i b m w : Nat} {a : Nat → Int32} {x y κ l β : Int32}
theorem c_note (h : Rep σ s a) (hc : Cn a) : wp (fX1_note n (s + 7) κ l β x σ) (Wr σ s (rNote a κ l β x)) := by
  have hlt := kp_lt hc
  obtain ⟨h23, hm, h991, hkp⟩ := hc
  have hkk : (a 991).toNatClampNeg = kp a := rfl
  have e0 := h.kept
  have hS := h.1
  unfold fX1_note
  refine wpE (zgI_e hS.kG e0) ?_
  by_cases hq : kp a < 250
  · refine wpE (if_pos (hlt.symm ▸ hq)) ?_
    have h1 : Sh (stI σ (s + 8) (kp a) κ) s := hS
    have h2 : Sh (stI (stI σ (s + 8) (kp a) κ) (s + 9) (kp a) l) s := hS
    have h3 : Sh (stI (stI (stI σ (s + 8) (kp a) κ) (s + 9) (kp a) l) (s + 10) (kp a) β) s := hS
    have h4 : Sh (stI (stI (stI (stI σ (s + 8) (kp a) κ) (s + 9) (kp a) l) (s + 10) (kp a) β) (s + 11) (kp a) x) s := hS
    have n1 : zI (stI σ (s + 8) (kp a) κ) (s + 7) 4 = Int32.ofNat (kp a) := by rw [zI_st_ne (by omega), e0, h991]
    have n2 : zI (stI (stI σ (s + 8) (kp a) κ) (s + 9) (kp a) l) (s + 7) 4 = Int32.ofNat (kp a) := by rw [zI_st_ne (by omega), n1]
    have n3 : zI (stI (stI (stI σ (s + 8) (kp a) κ) (s + 9) (kp a) l) (s + 10) (kp a) β) (s + 7) 4 = Int32.ofNat (kp a) := by rw [zI_st_ne (by omega), n2]
    have n4 : zI (stI (stI (stI (stI σ (s + 8) (kp a) κ) (s + 9) (kp a) l) (s + 10) (kp a) β) (s + 11) (kp a) x) (s + 7) 4 = Int32.ofNat (kp a) := by rw [zI_st_ne (by omega), n3]
    refine wpE (zgR_e hS.kG hS.rG0) ?_
    refine wpE (zgI_e hS.kG (e0.trans h991)) ?_
    refine wpE (zsN_e hS.kG0 hS.lG0 hq (by decide) rfl) ?_
    refine wpE (zgR_e h1.kG h1.rG1) ?_
    refine wpE (zgI_e h1.kG n1) ?_
    refine wpE (zsN_e h1.kG1 h1.lG1 hq (by decide) rfl) ?_
    refine wpE (zgR_e h2.kG h2.rG2) ?_
    refine wpE (zgI_e h2.kG n2) ?_
    refine wpE (zsN_e h2.kG2 h2.lG2 hq (by decide) rfl) ?_
    refine wpE (zgR_e h3.kG h3.rG3) ?_
    refine wpE (zgI_e h3.kG n3) ?_
    refine wpE (zsN_e h3.kG3 h3.lG3 hq (by decide) rfl) ?_
    refine wpE (zgI_e h4.kG n4) ?_
    refine wpE (zpI_e h4.kG io_succ) ?_
    refine wp_some ⟨((((Fr.st ⟨by omega, by omega⟩).trans (Fr.st ⟨by omega, by omega⟩)).trans (Fr.st ⟨by omega, by omega⟩)).trans (Fr.st ⟨by omega, by omega⟩)).trans (Fr.st ⟨by omega, by omega⟩), ?_⟩
    refine ⟨hS, fun j hj => ?_⟩
    have hj1 := hj.1
    rw [slst_kept hj1]
    unfold up rNote
    rw [if_pos hq]
    by_cases g1 : j = 991
    · rw [if_pos g1, if_pos g1]
    · rw [if_neg g1, if_neg g1, slst_ev3 hq hj1]
      unfold up
      by_cases g2 : j = 992 + 4 * kp a + 3
      · rw [if_pos g2, if_pos g2]
      · rw [if_neg g2, if_neg g2, slst_ev2 hq hj1]
        unfold up
        by_cases g3 : j = 992 + 4 * kp a + 2
        · rw [if_pos g3, if_pos g3]
        · rw [if_neg g3, if_neg g3, slst_ev1 hq hj1]
          unfold up
          by_cases g4 : j = 992 + 4 * kp a + 1
          · rw [if_pos g4, if_pos g4]
          · rw [if_neg g4, if_neg g4, slst_ev0 hq hj1]
            unfold up
            by_cases g5 : j = 992 + 4 * kp a + 0
            · rw [if_pos g5, if_pos g5]
            · rw [if_neg g5, if_neg g5]
              have f1 : rNote a κ l β x 23 = a 23 := by
                unfold rNote
                rw [if_pos hq, if_neg (by omega), if_neg (by omega), if_neg (by omega), if_neg (by omega), if_neg (by omega)]
              have f2 : (rNote a κ l β x 991).toNatClampNeg = kp a + 1 := by
                unfold rNote
                rw [if_pos hq, if_pos rfl, io_nat (by omega)]
              obtain ⟨v1, v2, v3, v4⟩ := hj
              rw [f1] at v2 v3
              rw [f2] at v4
              exact h.2 j ⟨v1, v2, v3, fun z => by have := v4 z; omega⟩
  · refine wpE (if_neg (fun z => hq (hlt ▸ z))) ?_
    have e : rNote a κ l β x = a := by
      funext j
      unfold rNote
      rw [if_neg hq]
    rw [e]
    exact wp_some ⟨Fr.refl, h⟩
theorem r_note (h : Rf σ m w) (hc : Cn (zI σ w)) : wp (fX8_note n m κ l β x σ) (Ww σ w (rNote (zI σ w) κ l β x)) := by
  have hlt := kp_lt hc
  obtain ⟨h23, hm, h991, hkp⟩ := hc
  have z91 : ∀ (τ : zW) (c : Int32 → Option zW), zK τ w = 20 → zL τ w = 1992 → zaI τ w 991 c = c (zI τ w 991) := fun τ c hk hl => zaN_e (j := 991) hk hl (by decide) (by decide) rfl
  unfold fX8_note
  refine wpE (zgR_e h.kM h.rW) ?_
  refine wpE (z91 _ _ h.kW h.lW) ?_
  by_cases hq : kp (zI σ w) < 250
  · refine wpE (if_pos (hlt.symm ▸ hq)) ?_
    refine wpE (zgR_e h.kM h.rW) ?_
    refine wpE (z91 _ _ h.kW h.lW) ?_
    rw [h991]
    refine wpE (zgR_e h.kM h.rW) ?_
    refine wpE (zsW_e h ixe (by omega)) ?_
    have h1 : Rf (stI σ w (992 + 4 * kp (zI σ w)) κ) m w := h
    refine wpE (zgR_e h1.kM h1.rW) ?_
    refine wpE (zsW_e h1 ((congrArg (· + 1) ixe).trans iz1) (by omega)) ?_
    have h2 : Rf (stI (stI σ w (992 + 4 * kp (zI σ w)) κ) w (992 + 4 * kp (zI σ w) + 1) l) m w := h
    refine wpE (zgR_e h2.kM h2.rW) ?_
    refine wpE (zsW_e h2 ((congrArg (· + 2) ixe).trans iz2) (by omega)) ?_
    have h3 : Rf (stI (stI (stI σ w (992 + 4 * kp (zI σ w)) κ) w (992 + 4 * kp (zI σ w) + 1) l) w (992 + 4 * kp (zI σ w) + 2) β) m w := h
    refine wpE (zgR_e h3.kM h3.rW) ?_
    refine wpE (zsW_e h3 ((congrArg (· + 3) ixe).trans iz3) (by omega)) ?_
    have h4 : Rf (stI (stI (stI (stI σ w (992 + 4 * kp (zI σ w)) κ) w (992 + 4 * kp (zI σ w) + 1) l) w (992 + 4 * kp (zI σ w) + 2) β) w (992 + 4 * kp (zI σ w) + 3) x) m w := h
    refine wpE (zgR_e h4.kM h4.rW) ?_
    refine wpE (z91 _ _ h4.kW h4.lW) ?_
    refine wpE (zsW_e (j := 991) h4 rfl (by omega)) ?_
    have hW := (((((Ww.refl (σ := σ) (w := w)).st (j := 992 + 4 * kp (zI σ w)) (v := κ)).st (j := 992 + 4 * kp (zI σ w) + 1) (v := l)).st (j := 992 + 4 * kp (zI σ w) + 2) (v := β)).st (j := 992 + 4 * kp (zI σ w) + 3) (v := x))
    refine wp_some ⟨(hW.st (j := 991)).1, ?_⟩
    rw [zI_stw, hW.2]
    funext j
    unfold rNote
    rw [if_pos hq]
    by_cases g1 : j = 991
    · rw [if_pos g1, g1, up_self, up_ne (by omega), up_ne (by omega), up_ne (by omega), up_ne (by omega), h991, io_succ]
    · rw [if_neg g1, up_ne g1]
      by_cases g2 : j = 992 + 4 * kp (zI σ w) + 3
      · rw [if_pos g2, g2, up_self]
      · rw [if_neg g2, up_ne g2]
        by_cases g3 : j = 992 + 4 * kp (zI σ w) + 2
        · rw [if_pos g3, g3, up_self]
        · rw [if_neg g3, up_ne g3]
          by_cases g4 : j = 992 + 4 * kp (zI σ w) + 1
          · rw [if_pos g4, g4, up_self]
          · rw [if_neg g4, up_ne g4]
            by_cases g5 : j = 992 + 4 * kp (zI σ w) + 0
            · rw [if_pos g5, g5]
              exact up_self
            · rw [if_neg g5]
              exact up_ne g5
  · refine wpE (if_neg (fun z => hq (hlt ▸ z))) ?_
    have e : rNote (zI σ w) κ l β x = zI σ w := by
      funext j
      unfold rNote
      rw [if_neg hq]
    rw [e]
    exact wp_some Ww.refl
def rNum (a : Nat → Int32) : Nat → Int32 := up a 984 (a 984 + 1)
theorem c_nextNumber (h : Rep σ s a) : wp (fX3_nextNumber n s σ) (fun p => p.1 = a 984 + 1 ∧ Wr σ s (rNum a) p.2) := by
  have h1 : Sh (stI σ s 6 (a 984 + 1)) s := h.1
  have hR : Rep (stI σ (s + 0) 6 (a 984 + 1)) s (up a 984 (a 984 + 1)) := h.at (by decide) slo_num (by decide) (by decide)
  unfold fX3_nextNumber
  refine wpE (zgI_e h.1.kS h.num) ?_
  refine wpE (zpI_e h.1.kS rfl) ?_
  refine wpE (zgI_e h1.kS (by rw [zI_st, if_pos ⟨rfl, rfl⟩])) ?_
  exact wp_some ⟨rfl, Fr.st ⟨by omega, by omega⟩, hR⟩
theorem r_nextNumber (h : Rf σ m w) : wp (fX8_nextNumber n m σ) (fun p => p.1 = zI σ w 984 + 1 ∧ Ww σ w (rNum (zI σ w)) p.2) := by
  have h1 : Rf (stI σ w 984 (zI σ w 984 + 1)) m w := h
  unfold fX8_nextNumber
  refine wpE (zgR_e h.kM h.rW) ?_
  refine wpE (zaN_e (j := 984) h.kW h.lW (by decide) (by decide) rfl) ?_
  refine wpE (zsW_e (j := 984) h rfl (by decide)) ?_
  refine wpE (zgR_e h1.kM h1.rW) ?_
  refine wpE (zaN_e (j := 984) h1.kW h1.lW (by decide) (by decide) (by rw [zI_st, if_pos ⟨rfl, rfl⟩])) ?_
  exact wp_some ⟨rfl, Ww.refl.st⟩
theorem r_set (h : Rf σ m w) {p : Nat} {v : Int32} (hi : i < 20) (hp : p < 8) : wp (fX8_set n m (Int32.ofNat i) (Int32.ofNat p) v σ) (Ww σ w (up (zI σ w) (24 + 8 * i + p) v)) := by
  unfold fX8_set
  refine wpE (zgR_e h.kM h.rW) ?_
  refine wpE (zsW_e h (ix8.trans ixl) (by omega)) ?_
  exact wp_some Ww.refl.st
/-! a lot begins -/
def bgn (a : Nat → Int32) (i : Nat) (sl q r : Int32) : Nat → Int32 := fun j =>
  if (184 + 10 * i ≤ j ∧ j < 194 + 10 * i) ∨ (384 + 10 * i ≤ j ∧ j < 394 + 10 * i) ∨ (584 + 10 * i ≤ j ∧ j < 594 + 10 * i) ∨ (784 + 10 * i ≤ j ∧ j < 794 + 10 * i) then 0
  else if j = 24 + 8 * i + 7 then 0 else if j = 24 + 8 * i + 6 then -1 else if j = 24 + 8 * i + 5 then -1 else if j = 24 + 8 * i + 4 then 0 else if j = 24 + 8 * i + 3 then 0 else if j = 24 + 8 * i + 2 then r else if j = 24 + 8 * i + 1 then q else if j = 24 + 8 * i + 0 then sl else a j
theorem rm2 {a : Nat → Int32} {i k : Nat} {j : Nat} : rmK (rmK a 184 i k) 584 i k j = if (184 + 10 * i ≤ j ∧ j < 184 + k + 10 * i) ∨ (384 + 10 * i ≤ j ∧ j < 384 + k + 10 * i) ∨ (584 + 10 * i ≤ j ∧ j < 584 + k + 10 * i) ∨ (784 + 10 * i ≤ j ∧ j < 784 + k + 10 * i) then 0 else a j := by
  unfold rmK
  by_cases h1 : (584 + 10 * i ≤ j ∧ j < 584 + 10 * i + k) ∨ (584 + 200 + 10 * i ≤ j ∧ j < 584 + 200 + 10 * i + k)
  · rw [if_pos h1, if_pos (by omega)]
  · rw [if_neg h1]
    by_cases h2 : (184 + 10 * i ≤ j ∧ j < 184 + 10 * i + k) ∨ (184 + 200 + 10 * i ≤ j ∧ j < 184 + 200 + 10 * i + k)
    · rw [if_pos h2, if_pos (by omega)]
    · rw [if_neg h2, if_neg (by omega)]
theorem rm2_succ {a : Nat → Int32} {i b : Nat} : put (put (rmK (rmK a 184 i b) 584 i b) 184 i b 0 0) 584 i b 0 0 = rmK (rmK a 184 i (b + 1)) 584 i (b + 1) := by
  have e : put (rmK (rmK a 184 i b) 584 i b) 184 i b 0 0 = rmK (put (rmK a 184 i b) 184 i b 0 0) 584 i b := by
    funext j
    have r1 : ∀ f : Nat → Int32, rmK f 584 i b j = if (584 + 10 * i ≤ j ∧ j < 584 + 10 * i + b) ∨ (584 + 200 + 10 * i ≤ j ∧ j < 584 + 200 + 10 * i + b) then 0 else f j := fun f => rfl
    have r2 : ∀ f : Nat → Int32, put f 184 i b 0 0 j = if j = 184 + 200 + 10 * i + b then 0 else if j = 184 + 10 * i + b then 0 else f j := fun f => rfl
    rw [r1, r2, r2, r1]
    by_cases hz : (584 + 10 * i ≤ j ∧ j < 584 + 10 * i + b) ∨ (584 + 200 + 10 * i ≤ j ∧ j < 584 + 200 + 10 * i + b)
    · simp only [if_pos hz, ite_self]
    · simp only [if_neg hz]
  rw [e, rmK_succ, rmK_succ]
theorem bgn_ref {a : Nat → Int32} {i : Nat} {sl q r : Int32} : rmK (rmK (up (up (up (up (up (up (up (up a (24 + 8 * i + 0) sl) (24 + 8 * i + 1) q) (24 + 8 * i + 2) r) (24 + 8 * i + 3) 0) (24 + 8 * i + 4) 0) (24 + 8 * i + 5) (-1)) (24 + 8 * i + 6) (-1)) (24 + 8 * i + 7) 0) 184 i 10) 584 i 10 = bgn a i sl q r := by
  funext j
  rw [rm2]
  unfold bgn
  by_cases h1 : (184 + 10 * i ≤ j ∧ j < 194 + 10 * i) ∨ (384 + 10 * i ≤ j ∧ j < 394 + 10 * i) ∨ (584 + 10 * i ≤ j ∧ j < 594 + 10 * i) ∨ (784 + 10 * i ≤ j ∧ j < 794 + 10 * i)
  · rw [if_pos h1, if_pos (by omega)]
  · rw [if_neg h1, if_neg (by omega)]
    rfl
theorem bgn_cls {a : Nat → Int32} {i : Nat} {sl q r : Int32} : rmK (rmK (up (up (up (up (up (up (up (up a (24 + 8 * i + 3) 0) (24 + 8 * i + 0) sl) (24 + 8 * i + 1) q) (24 + 8 * i + 2) r) (24 + 8 * i + 4) 0) (24 + 8 * i + 5) (-1)) (24 + 8 * i + 6) (-1)) (24 + 8 * i + 7) 0) 184 i 10) 584 i 10 = bgn a i sl q r := by
  rw [← bgn_ref]
  congr 2
  congr 4
  funext j
  unfold up
  by_cases h3 : j = 24 + 8 * i + 3
  · rw [if_neg (by omega), if_neg (by omega), if_neg (by omega), if_pos h3, if_pos h3]
  · simp only [if_neg h3]
theorem Wc.st {σ1 : zW} {f : Nat → Int32} {j0 o k : Nat} {v : Int32} (h : Wc σ s f σ1) (hj : j0 < 1992) (e : slo j0 = (o, k)) : Wc σ s (up f j0 v) (stI σ1 (s + o) k v) := by
  have h1 := slo_lt j0 hj
  rw [e] at h1
  exact ⟨h.1.trans (Fr.st ⟨by omega, by have : o < 112 := h1; omega⟩), by rw [cl_at hj e, h.2]⟩
theorem c_begin {sl q r : Int32} (h : Sh σ s) (hn : 1000 < n) (hi : i < 20) : wp (fX2_begin n (lo s i) sl q r σ) (Wc σ s (bgn (cl σ s) i sl q r)) := by
  have g0 : Wc σ s (cl σ s) σ := ⟨Fr.refl, rfl⟩
  have g1 := g0.st (v := 0) (by omega) (slo_l3 hi)
  have g2 := g1.st (v := sl) (by omega) (slo_l0 hi)
  have g3 := g2.st (v := q) (by omega) (slo_l1 hi)
  have g4 := g3.st (v := r) (by omega) (slo_l2 hi)
  have g5 := g4.st (v := 0) (by omega) (slo_l4 hi)
  have g6 := g5.st (v := -1) (by omega) (slo_l5 hi)
  have g7 := g6.st (v := -1) (by omega) (slo_l6 hi)
  have g8 := g7.st (v := 0) (by omega) (slo_l7 hi)
  have hk := h.kL hi
  unfold fX2_begin
  refine wpE (zpI_e hk rfl) ?_
  refine wpE (zpI_e hk rfl) ?_
  refine wpE (zpI_e hk rfl) ?_
  refine wpE (zpI_e hk rfl) ?_
  refine wpE (zpI_e hk rfl) ?_
  refine wpE (zpI_e hk rfl) ?_
  refine wpE (zpI_e hk rfl) ?_
  refine wpE (zpI_e hk rfl) ?_
  refine wpE (zck_e hk) ?_
  obtain ⟨σ1, e1, w1⟩ := c_removeOrdersS (n := n) (g8.1.sh h) hn hi
  refine wpE (zb_e e1) ?_
  have h1 := w1.1.sh (g8.1.sh h)
  refine wpE (zck_e (h1.kL hi)) ?_
  obtain ⟨σ2, e2, w2⟩ := c_removeBidsS (n := n) h1 hn hi
  refine wpE (zb_e e2) ?_
  refine wp_some ⟨(g8.1.trans w1.1).trans w2.1, ?_⟩
  rw [w2.2, w1.2, g8.2]
  exact bgn_cls
def rMk (a : Nat → Int32) (sl q r : Int32) : Nat → Int32 := up (bgn a (mk a) sl q r) 23 (Int32.ofNat (mk a + 1))
theorem bgn_23 {a : Nat → Int32} {i : Nat} {sl q r : Int32} {j : Nat} (hj : j < 24 ∨ 984 ≤ j) (hi : i < 20) : bgn a i sl q r j = a j := by
  unfold bgn
  rw [if_neg (by omega), if_neg (by omega), if_neg (by omega), if_neg (by omega), if_neg (by omega), if_neg (by omega), if_neg (by omega), if_neg (by omega), if_neg (by omega)]
theorem c_makeLot {sl q r : Int32} (h : Rep σ s a) (hc : Cn a) (hn : 1000 < n) (hm : mk a < 20) : wp (fX3_makeLot n s sl q r σ) (fun p => p.1 = Int32.ofNat (mk a) ∧ Wr σ s (rMk a sl q r) p.2) := by
  obtain ⟨h23, hm2, h991, hkp⟩ := hc
  have hS := h.1
  unfold fX3_makeLot
  refine wpE (zgI_e hS.kS (h.cnt.trans h23)) ?_
  refine wpE (zgR_e hS.kS hS.r3) ?_
  refine wpE (zaRN_e hS.kO hS.lO hm (by decide) (hS.rL hm)) ?_
  refine wpE (zck_e (hS.kL hm)) ?_
  obtain ⟨σ1, e1, w1⟩ := c_begin (n := n) (sl := sl) (q := q) (r := r) hS hn hm
  refine wpE (zb_e e1) ?_
  have h1 := w1.1.sh hS
  have e5 : zI σ1 s 5 = Int32.ofNat (mk a) := by
    have : cl σ1 s 23 = Int32.ofNat (mk a) := by rw [w1.2, bgn_23 (by omega) hm, h.cla ⟨by omega, fun _ _ => by omega, fun _ _ => by omega, fun _ => by omega⟩, h23]
    rw [← this, cl_lt (by omega)]
    rfl
  refine wpE (zgI_e h1.kS e5) ?_
  refine wpE (zpI_e h1.kS io_succ) ?_
  have w2 := w1.st (v := Int32.ofNat (mk a + 1)) (j0 := 23) (by decide) slo_cnt
  refine wp_some ⟨rfl, w2.1, Rep.of h1 w2.2 fun j hj => ?_⟩
  have f1 : (rMk a sl q r 23).toNatClampNeg = mk a + 1 := by
    unfold rMk
    rw [up_self, io_nat (by omega)]
  have f2 : rMk a sl q r 991 = a 991 := by
    unfold rMk
    rw [up_ne (by omega), bgn_23 (by omega) hm]
  obtain ⟨v1, v2, v3, v4⟩ := hj
  rw [f1] at v2 v3
  rw [f2] at v4
  unfold rMk up
  by_cases g1 : j = 23
  · rw [if_pos g1, if_pos g1]
  · rw [if_neg g1, if_neg g1]
    have hmk : (a 23).toNatClampNeg = mk a := rfl
    unfold bgn
    split
    · rfl
    · (repeat (split; · rfl))
      exact h.cla ⟨v1, fun z1 z2 => by have := v2 z1 z2; omega, fun z1 z2 => by have := v3 z1 z2; omega, v4⟩
theorem r_makeLot {sl q r : Int32} (h : Rf σ m w) (hc : Cn (zI σ w)) (hn : 1000 < n) (hm : mk (zI σ w) < 20) : wp (fX8_makeLot n m sl q r σ) (fun p => p.1 = Int32.ofNat (mk (zI σ w)) ∧ Ww σ w (rMk (zI σ w) sl q r) p.2) := by
  obtain ⟨h23, hm2, h991, hkp⟩ := hc
  generalize hM : mk (zI σ w) = M at *
  have key : ∀ (f : Nat → Int32) (d b k : Nat) (σ1 : zW), b + d = 10 → d < k → Ww σ w (rmK (rmK f 184 M b) 584 M b) σ1 → wp (sX8_makeLot_89 n k m (Int32.ofNat M) (Int32.ofNat b) σ1) (fun p => p.1 = Int32.ofNat M ∧ Ww σ w (rmK (rmK f 184 M 10) 584 M 10) p.2) := by
    intro f d
    induction d with
    | zero =>
      intro b k σ1 hb hk hW
      obtain ⟨k, rfl⟩ : ∃ k', k = k' + 1 := ⟨k - 1, by omega⟩
      have hb : b = 10 := by omega
      subst hb
      rw [sX8_makeLot_89]
      exact wp_some ⟨rfl, hW⟩
    | succ d ih =>
      intro b k σ1 hb hk hW
      obtain ⟨k, rfl⟩ : ∃ k', k = k' + 1 := ⟨k - 1, by omega⟩
      have h1 : Rf σ1 m w := hW.rf h
      have h2 : Rf (stI (stI σ1 w (184 + 10 * M + b) 0) w (384 + 10 * M + b) 0) m w := h1
      rw [sX8_makeLot_89]
      refine wpE (if_pos (io_10 (by omega))) ?_
      refine wpE (zck_e h1.kM) ?_
      refine wpE (zb_e (r_putOrder h1 hm (show b < 10 by omega))) ?_
      refine wpE (zck_e h2.kM) ?_
      refine wpE (zb_e (r_putBid h2 hm (show b < 10 by omega))) ?_
      rw [io_succ]
      refine ih (b + 1) k _ (by omega) (by omega) ?_
      rw [← rm2_succ]
      exact hW.st.st.st.st
  have z23 : ∀ (τ : zW) (c : Int32 → Option (Int32 × zW)), zK τ w = 20 → zL τ w = 1992 → zaI τ w 23 c = c (zI τ w 23) := fun τ c hk hl => zaN_e (j := 23) hk hl (by decide) (by decide) rfl
  unfold fX8_makeLot
  refine wpE (zgR_e h.kM h.rW) ?_
  refine wpE (z23 _ _ h.kW h.lW) ?_
  rw [h23]
  refine wpE (zgR_e h.kM h.rW) ?_
  refine wpE (z23 _ _ h.kW h.lW) ?_
  refine wpE (zsW_e (j := 23) h rfl (by decide)) ?_
  have w0 : Ww σ w (up (zI σ w) 23 (zI σ w 23 + 1)) (stI σ w 23 (zI σ w 23 + 1)) := Ww.refl.st
  have R0 := w0.rf h
  refine wpE (zck_e R0.kM) ?_
  obtain ⟨σ1, e1, w1⟩ := r_set (n := n) R0 (p := 0) (v := sl) hm (by decide)
  refine wpE (zb_e e1) ?_
  have R1 := w1.rf R0
  refine wpE (zck_e R1.kM) ?_
  obtain ⟨σ2, e2, w2⟩ := r_set (n := n) R1 (p := 1) (v := q) hm (by decide)
  refine wpE (zb_e e2) ?_
  have R2 := w2.rf R1
  refine wpE (zck_e R2.kM) ?_
  obtain ⟨σ3, e3, w3⟩ := r_set (n := n) R2 (p := 2) (v := r) hm (by decide)
  refine wpE (zb_e e3) ?_
  have R3 := w3.rf R2
  refine wpE (zck_e R3.kM) ?_
  obtain ⟨σ4, e4, w4⟩ := r_set (n := n) R3 (p := 3) (v := 0) hm (by decide)
  refine wpE (zb_e e4) ?_
  have R4 := w4.rf R3
  refine wpE (zck_e R4.kM) ?_
  obtain ⟨σ5, e5, w5⟩ := r_set (n := n) R4 (p := 4) (v := 0) hm (by decide)
  refine wpE (zb_e e5) ?_
  have R5 := w5.rf R4
  refine wpE (zck_e R5.kM) ?_
  obtain ⟨σ6, e6, w6⟩ := r_set (n := n) R5 (p := 5) (v := -1) hm (by decide)
  refine wpE (zb_e e6) ?_
  have R6 := w6.rf R5
  refine wpE (zck_e R6.kM) ?_
  obtain ⟨σ7, e7, w7⟩ := r_set (n := n) R6 (p := 6) (v := -1) hm (by decide)
  refine wpE (zb_e e7) ?_
  have R7 := w7.rf R6
  refine wpE (zck_e R7.kM) ?_
  obtain ⟨σ8, e8, w8⟩ := r_set (n := n) R7 (p := 7) (v := 0) hm (by decide)
  refine wpE (zb_e e8) ?_
  have wA := (((((((w0.trans w1).trans w2).trans w3).trans w4).trans w5).trans w6).trans w7).trans w8
  obtain ⟨p, e9, hp1, w9⟩ := key (zI σ8 w) 10 0 n σ8 (by omega) (by omega) (by rw [rmK_zero, rmK_zero]; exact ⟨wA.1, rfl⟩)
  refine ⟨p, e9, hp1, w9.1, ?_⟩
  rw [w9.2, w8.2, w7.2, w6.2, w5.2, w4.2, w3.2, w2.2, w1.2, w0.2, bgn_ref, h23, io_succ]
  unfold rMk
  rw [hM]
  funext j
  unfold bgn up
  by_cases g : j = 23
  · rw [if_pos g, if_neg (by omega), if_neg (by omega), if_neg (by omega), if_neg (by omega), if_neg (by omega), if_neg (by omega), if_neg (by omega), if_neg (by omega), if_neg (by omega), if_pos g]
  · rw [if_neg g]
    simp only [if_neg g]
end
