/-! LIMITS AND TIMES; THE REFERENCE'S STANDING -/
def qM (a : Nat → Int32) (i b : Nat) : Nat := (a (184 + 10 * i + b)).toNatClampNeg
def qO (a : Nat → Int32) (i b : Nat) : Nat := (a (384 + 10 * i + b)).toNatClampNeg
def qD (a : Nat → Int32) (i b : Nat) : Nat := (a (584 + 10 * i + b)).toNatClampNeg
def qN (a : Nat → Int32) (i b : Nat) : Nat := (a (784 + 10 * i + b)).toNatClampNeg
def qR (a : Nat → Int32) (i : Nat) : Nat := (a (24 + 8 * i + 2)).toNatClampNeg
/-- a lot's numbers -/
def Lt (a : Nat → Int32) (i : Nat) : Prop := (a (24 + 8 * i + 2) = Int32.ofNat (qR a i) ∧ qR a i ≤ 90000) ∧
  (∀ b, b < 10 → (a (184 + 10 * i + b) = Int32.ofNat (qM a i b) ∧ qM a i b ≤ 90000) ∧ (a (384 + 10 * i + b) = Int32.ofNat (qO a i b) ∧ qO a i b < 1000000000) ∧ (a (584 + 10 * i + b) = Int32.ofNat (qD a i b) ∧ qD a i b ≤ 99999) ∧ (a (784 + 10 * i + b) = Int32.ofNat (qN a i b) ∧ qN a i b < 1000000000)) ∧
  ∀ b c, b < 10 → c < 10 → b ≠ c → (0 < qM a i b → 0 < qM a i c → qO a i b ≠ qO a i c) ∧ (0 < qD a i b → 0 < qD a i c → qN a i b ≠ qN a i c) ∧ (0 < qM a i b → 0 < qD a i c → qO a i b ≠ qN a i c)
def lim (a : Nat → Int32) (i b : Nat) : Nat := max (stp a (qM a i b)) (qD a i b)
def tim (a : Nat → Int32) (i b : Nat) : Nat := if stp a (qM a i b) = qD a i b then min (qO a i b) (qN a i b) else if qD a i b < stp a (qM a i b) then qO a i b else qN a i b
def hou (a : Nat → Int32) (i : Nat) : Nat := if 0 < qR a i then stp a (qR a i - 1) else 0
theorem stp0 {a : Nat → Int32} : stp a 0 = 0 := Nat.le_zero.mp stp_le
theorem lim_le {a : Nat → Int32} {i b : Nat} (h : Lt a i) (hb : b < 10) : lim a i b ≤ 99999 := by
  have h1 := (h.2.1 b hb).1.2
  have h2 := (h.2.1 b hb).2.2.1.2
  have h3 := stp_le (a := a) (x := qM a i b)
  unfold lim
  omega
theorem tim_lt {a : Nat → Int32} {i b : Nat} (h : Lt a i) (hb : b < 10) : tim a i b < 1000000000 := by
  have h1 := (h.2.1 b hb).2.1.2
  have h2 := (h.2.1 b hb).2.2.2.2
  unfold tim
  split
  · omega
  · split <;> omega
theorem hou_le {a : Nat → Int32} {i : Nat} (h : Lt a i) : hou a i ≤ 90000 := by
  have h1 := stp_le (a := a) (x := qR a i - 1)
  have h2 := h.1.2
  unfold hou
  split <;> omega
theorem lt_dist {a : Nat → Int32} {i : Nat} (h : Lt a i) : ∀ b c, b < 10 → c < 10 → b ≠ c → 0 < lim a i b → lim a i b = lim a i c → tim a i b ≠ tim a i c := by
  intro b c hb hc hne h0 he
  have h1 := h.2.2 b c hb hc hne
  have h2 := h.2.2 c b hc hb (Ne.symm hne)
  have z : ∀ x : Nat, x = 0 → stp a x = 0 := fun x e => by rw [e]; exact stp0
  have s1 := z (qM a i b)
  have s2 := z (qM a i c)
  unfold lim at h0 he
  unfold tim
  generalize stp a (qM a i b) = u1 at *
  generalize stp a (qM a i c) = u2 at *
  generalize qM a i b = m1 at *
  generalize qM a i c = m2 at *
  generalize qD a i b = d1 at *
  generalize qD a i c = d2 at *
  generalize qO a i b = o1 at *
  generalize qO a i c = o2 at *
  generalize qN a i b = n1 at *
  generalize qN a i c = n2 at *
  have p1 : 0 < u1 → 0 < m1 := fun q => by
    by_cases e : m1 = 0
    · have := s1 e; omega
    · omega
  have p2 : 0 < u2 → 0 < m2 := fun q => by
    by_cases e : m2 = 0
    · have := s2 e; omega
    · omega
  obtain ⟨a1, a2, a3⟩ := h1
  obtain ⟨b1, b2, b3⟩ := h2
  (repeat' split) <;> omega
theorem mxi {x y : Nat} (hx : x < 2147483648) (hy : y < 2147483648) : (if Int32.ofNat x < Int32.ofNat y then Int32.ofNat y else Int32.ofNat x) = Int32.ofNat (max x y) := by
  by_cases h : x < y
  · rw [if_pos ((io_lt hx hy).symm ▸ h), show max x y = y by omega]
  · rw [if_neg (fun q => h (io_lt hx hy ▸ q)), show max x y = x by omega]
theorem mni {x y : Nat} (hx : x < 2147483648) (hy : y < 2147483648) : (if Int32.ofNat x < Int32.ofNat y then Int32.ofNat x else Int32.ofNat y) = Int32.ofNat (min x y) := by
  by_cases h : x < y
  · rw [if_pos ((io_lt hx hy).symm ▸ h), show min x y = x by omega]
  · rw [if_neg (fun q => h (io_lt hx hy ▸ q)), show min x y = y by omega]
theorem io_pos {x : Nat} (hx : x < 2147483648) : ((0 : Int32) < Int32.ofNat x) = (0 < x) := io_lt (a := 0) (by decide) hx
theorem io_z {x : Nat} (hx : x < 2147483648) : (Int32.ofNat x = 0) = (x = 0) := io_eq (b := 0) hx (by decide)
section
variable {σ : zW} {m w n i : Nat}
theorem r_limitOf (h : Rf σ m w) (ht : Tb (zI σ w)) (hl : Lt (zI σ w) i) (hn : 1000 < n) (hi : i < 20) {b : Nat} (hb : b < 10) : fX8_limitOf n m (Int32.ofNat i) (Int32.ofNat b) σ = some (Int32.ofNat (lim (zI σ w) i b)) := by
  obtain ⟨⟨m1, m2⟩, -, ⟨d1, d2⟩, -⟩ := hl.2.1 b hb
  have h2 := stp_le (a := zI σ w) (x := qM (zI σ w) i b)
  have hz : zix (Int32.ofNat (584 + 10 * i + b)) 1992 = True := io_zx (by omega) (by omega)
  simp (disch := omega) only [fX8_limitOf, r_orderOf h hi hb, zgI, zgR, zaI, zaR, zaC, zck, zb_some, zb2_some, zbx_inl, zbx_inr, zdv, true_or, or_true, true_and, and_true, if_true, ↓reduceIte, h.kM, h.rW, h.kW, h.lW, m1, io_pos, sX8_limitOf_20, ix584, ixl, hz, io_nat, d1]
  unfold lim
  by_cases hq : 0 < qM (zI σ w) i b
  · simp (disch := omega) only [if_pos hq, r_stepBelow h ht hn, zgI, zgR, zaI, zaR, zaC, zck, zb_some, zb2_some, zbx_inl, zbx_inr, zdv, true_or, or_true, true_and, and_true, if_true, ↓reduceIte, mxi]
  · rw [if_neg hq, show qM (zI σ w) i b = 0 by omega, stp0]
    by_cases hq2 : 0 < qD (zI σ w) i b
    · rw [if_pos hq2, show max 0 (qD (zI σ w) i b) = qD (zI σ w) i b by omega]
    · rw [if_neg hq2, show max 0 (qD (zI σ w) i b) = 0 by omega]
      rfl
theorem r_timeOf (h : Rf σ m w) (ht : Tb (zI σ w)) (hl : Lt (zI σ w) i) (hn : 1000 < n) (hi : i < 20) {b : Nat} (hb : b < 10) (h0 : 0 < lim (zI σ w) i b) : fX8_timeOf n m (Int32.ofNat i) (Int32.ofNat b) σ = some (Int32.ofNat (tim (zI σ w) i b)) := by
  obtain ⟨⟨m1, m2⟩, ⟨o1, o2⟩, ⟨d1, d2⟩, ⟨n1, n2⟩⟩ := hl.2.1 b hb
  have h2 := stp_le (a := zI σ w) (x := qM (zI σ w) i b)
  have h3 := lim_le hl hb
  have z1 : zix (Int32.ofNat (184 + (10 * i + b))) 1992 = True := io_zx (by omega) (by omega)
  have z2 : zix (Int32.ofNat (384 + (10 * i + b))) 1992 = True := io_zx (by omega) (by omega)
  have z3 : zix (Int32.ofNat (584 + (10 * i + b))) 1992 = True := io_zx (by omega) (by omega)
  have z4 : zix (Int32.ofNat (784 + (10 * i + b))) 1992 = True := io_zx (by omega) (by omega)
  have m1' : zI σ w (184 + (10 * i + b)) = Int32.ofNat (qM (zI σ w) i b) := by rw [← m1, Nat.add_assoc]
  have o1' : zI σ w (384 + (10 * i + b)) = Int32.ofNat (qO (zI σ w) i b) := by rw [← o1, Nat.add_assoc]
  have d1' : zI σ w (584 + (10 * i + b)) = Int32.ofNat (qD (zI σ w) i b) := by rw [← d1, Nat.add_assoc]
  have n1' : zI σ w (784 + (10 * i + b)) = Int32.ofNat (qN (zI σ w) i b) := by rw [← n1, Nat.add_assoc]
  have one0 : ((1 : Int32) = 0) = False := eq_false (by decide)
  simp (disch := omega) only [fX8_timeOf, r_limitOf h ht hl hn hi hb, zgI, zgR, zaI, zaR, zaC, zck, zb_some, zb2_some, zbx_inl, zbx_inr, zdv, true_or, or_true, true_and, and_true, if_true, ↓reduceIte, h.kM, h.rW, h.kW, h.lW, ix10, iy184, iy384, iy584, iy784, ixl, z1, z2, z3, z4, io_nat, m1', o1', d1', n1', io_pos, r_stepBelow h ht hn, io_eq, sX8_timeOf_51, sX8_timeOf_52, sX8_timeOf_86, sX8_timeOf_87, sX8_timeOf_125, sX8_timeOf_153, one0, if_false]
  have s0 : qM (zI σ w) i b = 0 → stp (zI σ w) (qM (zI σ w) i b) = 0 := fun e => by rw [e]; exact stp0
  unfold lim at h0 ⊢
  unfold tim
  generalize stp (zI σ w) (qM (zI σ w) i b) = u at *
  generalize qM (zI σ w) i b = mm at *
  generalize qD (zI σ w) i b = dd at *
  generalize hoo : qO (zI σ w) i b = oo at *
  generalize hnn : qN (zI σ w) i b = nn at *
  have e9 : (Int32.ofNat nn < Int32.ofNat oo) = (nn < oo) := io_lt (by omega) (by omega)
  simp only [e9]
  by_cases c1 : u = dd
  · rw [if_pos (by omega), if_pos (by omega), if_pos (by omega), if_pos (by omega), if_pos c1]
    split
    · rw [show min oo nn = nn by omega]
    · rw [show min oo nn = oo by omega]
  · rw [if_neg c1]
    by_cases c2 : dd < u
    · have c3 : ¬ dd = max u dd := by omega
      rw [if_pos (by omega), if_pos (by omega), if_pos c2]
      simp only [if_neg c3, ite_self]
    · have c3 : ¬ u = max u dd := by omega
      have c4 : 0 < dd := by omega
      have c5 : dd = max u dd := by omega
      rw [if_neg c2]
      simp only [if_neg c3, ite_self]
theorem r_isAhead (h : Rf σ m w) (ht : Tb (zI σ w)) (hl : Lt (zI σ w) i) (hn : 1000 < n) (hi : i < 20) {b c : Nat} (hb : b < 10) (hc : c < 10) (h0 : 0 < lim (zI σ w) i b) : fX8_isAhead n m (Int32.ofNat i) (Int32.ofNat b) (Int32.ofNat c) σ = some (@ite _ (ahd (lim (zI σ w) i) (tim (zI σ w) i) b c) (Classical.propDecidable _) 1 0) := by
  have l1 := lim_le hl hb
  have l2 := lim_le hl hc
  have t1 := tim_lt hl hb
  have t2 := tim_lt hl hc
  simp (disch := omega) only [fX8_isAhead, r_limitOf h ht hl hn hi hb, r_limitOf h ht hl hn hi hc, zgI, zgR, zaI, zaR, zaC, zck, zb_some, zb2_some, zbx_inl, zbx_inr, zdv, true_or, or_true, true_and, and_true, if_true, ↓reduceIte, h.kM, h.rW, h.kW, h.lW, io_lt, io_eq, sX8_isAhead_45, sX8_isAhead_49, sX8_isAhead_50]
  by_cases c1 : lim (zI σ w) i c < lim (zI σ w) i b
  · have c9 : ahd (lim (zI σ w) i) (tim (zI σ w) i) b c := Or.inl c1
    rw [if_pos c1, if_pos c9]
  · rw [if_neg c1]
    by_cases c2 : lim (zI σ w) i b = lim (zI σ w) i c
    · rw [if_pos c2]
      simp (disch := omega) only [r_timeOf h ht hl hn hi hb h0, r_timeOf h ht hl hn hi hc (by omega), zgI, zgR, zaI, zaR, zaC, zck, zb_some, zb2_some, zbx_inl, zbx_inr, zdv, true_or, or_true, true_and, and_true, if_true, ↓reduceIte, io_lt]
      by_cases c3 : tim (zI σ w) i b < tim (zI σ w) i c
      · have c9 : ahd (lim (zI σ w) i) (tim (zI σ w) i) b c := Or.inr ⟨c2, c3⟩
        rw [if_pos c3, if_pos c9]
      · have c9 : ¬ ahd (lim (zI σ w) i) (tim (zI σ w) i) b c := by
          rintro (q | ⟨-, q⟩)
          · exact c1 q
          · exact c3 q
        rw [if_neg c3, if_neg c9]
    · have c9 : ¬ ahd (lim (zI σ w) i) (tim (zI σ w) i) b c := by
        rintro (q | ⟨q, -⟩)
        · exact c1 q
        · exact c2 q
      rw [if_neg c2, if_neg c9]
end
