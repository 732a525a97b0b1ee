/-! EVERY WRITE KEEPS IT, THE REST -/
theorem nac_mono {g g' : Nat → Nat} : ∀ (m i : Nat), (∀ j, i ≤ j → j < i + m → g' j ≤ g j) → nac g' i m ≤ nac g i m
  | 0, _, _ => Nat.le_refl _
  | m + 1, i, h => by
    have h1 := nac_mono (g := g) (g' := g') m (i + 1) (fun j h1 h2 => h j (by omega) (by omega))
    have h2 := h i (Nat.le_refl _) (by omega)
    unfold nac
    omega
section
variable {a a' : Nat → Int32} {B i b : Nat}
/-- orders or bids of a lot are removed -/
theorem Inv.clr (h : Inv a B) (hi : i < mk a) (ho : ∀ j, ¬ ((184 + 10 * i ≤ j ∧ j < 194 + 10 * i) ∨ (384 + 10 * i ≤ j ∧ j < 394 + 10 * i) ∨ (584 + 10 * i ≤ j ∧ j < 594 + 10 * i) ∨ (784 + 10 * i ≤ j ∧ j < 794 + 10 * i)) → a' j = a j)
    (hc : ∀ b, b < 10 → ((a' (184 + 10 * i + b) = a (184 + 10 * i + b) ∧ a' (384 + 10 * i + b) = a (384 + 10 * i + b)) ∨ (a' (184 + 10 * i + b) = 0 ∧ a' (384 + 10 * i + b) = 0)) ∧ ((a' (584 + 10 * i + b) = a (584 + 10 * i + b) ∧ a' (784 + 10 * i + b) = a (784 + 10 * i + b)) ∨ (a' (584 + 10 * i + b) = 0 ∧ a' (784 + 10 * i + b) = 0))) : Inv a' B := by
  have hi20 : i < 20 := by have := h.1.2.1; omega
  have en : nm a' = nm a := by unfold nm; rw [ho _ (by omega)]
  have q1 : ∀ b, b < 10 → (qM a' i b = qM a i b ∧ qO a' i b = qO a i b ∧ a' (184 + 10 * i + b) = a (184 + 10 * i + b) ∧ a' (384 + 10 * i + b) = a (384 + 10 * i + b)) ∨ (qM a' i b = 0 ∧ qO a' i b = 0 ∧ a' (184 + 10 * i + b) = 0 ∧ a' (384 + 10 * i + b) = 0) := fun b hb => by
    unfold qM qO
    rcases (hc b hb).1 with ⟨g1, g2⟩ | ⟨g1, g2⟩
    · exact Or.inl ⟨by rw [g1], by rw [g2], g1, g2⟩
    · exact Or.inr ⟨by rw [g1]; rfl, by rw [g2]; rfl, g1, g2⟩
  have q2 : ∀ b, b < 10 → (qD a' i b = qD a i b ∧ qN a' i b = qN a i b ∧ a' (584 + 10 * i + b) = a (584 + 10 * i + b) ∧ a' (784 + 10 * i + b) = a (784 + 10 * i + b)) ∨ (qD a' i b = 0 ∧ qN a' i b = 0 ∧ a' (584 + 10 * i + b) = 0 ∧ a' (784 + 10 * i + b) = 0) := fun b hb => by
    unfold qD qN
    rcases (hc b hb).2 with ⟨g1, g2⟩ | ⟨g1, g2⟩
    · exact Or.inl ⟨by rw [g1], by rw [g2], g1, g2⟩
    · exact Or.inr ⟨by rw [g1]; rfl, by rw [g2]; rfl, g1, g2⟩
  have n := h.2.2.2.1
  refine h.upd (i0 := i) (fun j hj => ho j (by omega)) (fun i' hi' hne => smL_of hne hi20 (by have := h.1.2.1; omega) (fun j g1 g2 g3 => ho j (by omega))) (fun _ => ?_) ⟨by rw [en, ho _ (by omega)]; exact n.1, by omega, by omega⟩ (fun _ => ?_)
  · obtain ⟨⟨l1, l2, l3⟩, h2, h3, h4, h5⟩ := h.2.2.1 i hi
    have eR : qR a' i = qR a i := by unfold qR; rw [ho _ (by omega)]
    have eQ : qQ a' i = qQ a i := by unfold qQ; rw [ho _ (by omega)]
    have eS : qS a' i = qS a i := by unfold qS; rw [ho _ (by omega)]
    refine ⟨⟨?_, fun c hc => ?_, fun c d hc hd hcd => ?_⟩, ?_, ?_, ?_, fun c hc => ?_⟩
    · rw [eR, ho _ (by omega)]; exact l1
    · obtain ⟨m1, m2, m3, m4⟩ := l2 c hc
      have f1 : (a' (184 + 10 * i + c) = Int32.ofNat (qM a' i c) ∧ qM a' i c ≤ 90000) ∧ (a' (384 + 10 * i + c) = Int32.ofNat (qO a' i c) ∧ qO a' i c < 1000000000) := by
        rcases q1 c hc with ⟨e1, e2, e3, e4⟩ | ⟨e1, e2, e3, e4⟩
        · rw [e1, e2, e3, e4]; exact ⟨m1, m2⟩
        · rw [e1, e2, e3, e4]; exact ⟨⟨rfl, by omega⟩, ⟨rfl, by omega⟩⟩
      have f2 : (a' (584 + 10 * i + c) = Int32.ofNat (qD a' i c) ∧ qD a' i c ≤ 99999) ∧ (a' (784 + 10 * i + c) = Int32.ofNat (qN a' i c) ∧ qN a' i c < 1000000000) := by
        rcases q2 c hc with ⟨e1, e2, e3, e4⟩ | ⟨e1, e2, e3, e4⟩
        · rw [e1, e2, e3, e4]; exact ⟨m3, m4⟩
        · rw [e1, e2, e3, e4]; exact ⟨⟨rfl, by omega⟩, ⟨rfl, by omega⟩⟩
      exact ⟨f1.1, f1.2, f2.1, f2.2⟩
    · obtain ⟨k1, k2, k3⟩ := l3 c d hc hd hcd
      have u1 := q1 c hc
      have u2 := q1 d hd
      have u3 := q2 c hc
      have u4 := q2 d hd
      refine ⟨fun g1 g2 => ?_, fun g1 g2 => ?_, fun g1 g2 => ?_⟩
      · rcases u1 with ⟨e1, e2, -, -⟩ | ⟨e1, -, -, -⟩
        · rcases u2 with ⟨f1, f2, -, -⟩ | ⟨f1, -, -, -⟩
          · rw [e2, f2]; exact k1 (by omega) (by omega)
          · omega
        · omega
      · rcases u3 with ⟨e1, e2, -, -⟩ | ⟨e1, -, -, -⟩
        · rcases u4 with ⟨f1, f2, -, -⟩ | ⟨f1, -, -, -⟩
          · rw [e2, f2]; exact k2 (by omega) (by omega)
          · omega
        · omega
      · rcases u1 with ⟨e1, e2, -, -⟩ | ⟨e1, -, -, -⟩
        · rcases u4 with ⟨f1, f2, -, -⟩ | ⟨f1, -, -, -⟩
          · rw [e2, f2]; exact k3 (by omega) (by omega)
          · omega
        · omega
    · rw [eQ, ho _ (by omega)]; exact h2
    · rw [eS, ho _ (by omega)]; exact h3
    · rw [ho _ (by omega), ho _ (by omega), ho _ (by omega)]; exact h4
    · have := h5 c hc
      rw [en]
      have w1 : qO a' i c ≤ nm a := by rcases q1 c hc with ⟨-, e2, -, -⟩ | ⟨-, e2, -, -⟩ <;> omega
      have w2 : qN a' i c ≤ nm a := by rcases q2 c hc with ⟨-, e2, -, -⟩ | ⟨-, e2, -, -⟩ <;> omega
      exact ⟨w1, w2⟩
  · have : onm a' i ≤ onm a i := by
      unfold onm
      refine nac_mono 10 0 (fun c _ hc => ?_)
      show (if 0 < a' _ then 1 else 0) ≤ if 0 < a _ then 1 else 0
      rcases q1 c (by omega) with ⟨-, -, e3, -⟩ | ⟨-, -, e3, -⟩
      · rw [e3]; exact Nat.le_refl _
      · rw [e3, if_neg (by decide)]; exact Nat.zero_le _
    have := h.2.2.2.2.1
    omega
theorem Inv.rm (h : Inv a B) (hi : i < mk a) {c : Nat} (hc : c = 184 ∨ c = 584) : Inv (rmK a c i 10) B := by
  have hi20 : i < 20 := by have := h.1.2.1; omega
  refine h.clr hi (fun j hj => ?_) (fun b hb => ?_)
  · unfold rmK
    rw [if_neg (by omega)]
  · unfold rmK
    rcases hc with rfl | rfl
    · exact ⟨Or.inr ⟨if_pos (by omega), if_pos (by omega)⟩, Or.inl ⟨if_neg (by omega), if_neg (by omega)⟩⟩
    · exact ⟨Or.inl ⟨if_neg (by omega), if_neg (by omega)⟩, Or.inr ⟨if_pos (by omega), if_pos (by omega)⟩⟩
theorem Inv.cancel (h : Inv a B) (hi : i < mk a) (hb : b < 10) : Inv (put a 184 i b 0 0) B := by
  have hi20 : i < 20 := by have := h.1.2.1; omega
  refine h.clr hi (fun j hj => ?_) (fun c hc => ⟨?_, Or.inl ⟨?_, ?_⟩⟩)
  · unfold put
    rw [up_ne (by omega), up_ne (by omega)]
  · by_cases e : c = b
    · subst e
      unfold put
      exact Or.inr ⟨by rw [up_ne (by omega), up_self], up_self⟩
    · unfold put
      exact Or.inl ⟨by rw [up_ne (by omega), up_ne (by omega)], by rw [up_ne (by omega), up_ne (by omega)]⟩
  · unfold put
    rw [up_ne (by omega), up_ne (by omega)]
  · unfold put
    rw [up_ne (by omega), up_ne (by omega)]
/-- a lot's reserve, state, openings, reason, buyer, price -/
theorem Inv.flds (h : Inv a B) (hi : i < mk a) (ho : ∀ j, ¬ (24 + 8 * i + 2 ≤ j ∧ j < 24 + 8 * i + 8) → a' j = a j) (hr : ∃ r, r ≤ 90000 ∧ a' (24 + 8 * i + 2) = Int32.ofNat r)
    (hs : a' (24 + 8 * i + 3) = 2 → (∃ b, b < 10 ∧ a' (24 + 8 * i + 6) = Int32.ofNat b) ∧ ∃ p, p ≤ 99999 ∧ a' (24 + 8 * i + 7) = Int32.ofNat p) : Inv a' B := by
  have hi20 : i < 20 := by have := h.1.2.1; omega
  have en : nm a' = nm a := by unfold nm; rw [ho _ (by omega)]
  have n := h.2.2.2.1
  have hb : ∀ b, b < 10 → a' (184 + 10 * i + b) = a (184 + 10 * i + b) ∧ a' (384 + 10 * i + b) = a (384 + 10 * i + b) ∧ a' (584 + 10 * i + b) = a (584 + 10 * i + b) ∧ a' (784 + 10 * i + b) = a (784 + 10 * i + b) := fun b hb => ⟨ho _ (by omega), ho _ (by omega), ho _ (by omega), ho _ (by omega)⟩
  refine h.upd (i0 := i) (fun j hj => ho j (by omega)) (fun i' hi' hne => smL_of hne hi20 (by have := h.1.2.1; omega) (fun j g1 g2 g3 => ho j (by omega))) (fun _ => ?_) ⟨by rw [en, ho _ (by omega)]; exact n.1, by omega, by omega⟩ (fun _ => ?_)
  · obtain ⟨⟨l1, l2, l3⟩, h2, h3, h4, h5⟩ := h.2.2.1 i hi
    have eQ : qQ a' i = qQ a i := by unfold qQ; rw [ho _ (by omega)]
    have eS : qS a' i = qS a i := by unfold qS; rw [ho _ (by omega)]
    have q4 : ∀ b, b < 10 → qM a' i b = qM a i b ∧ qO a' i b = qO a i b ∧ qD a' i b = qD a i b ∧ qN a' i b = qN a i b := fun b hb' => by
      obtain ⟨e1, e2, e3, e4⟩ := hb b hb'
      unfold qM qO qD qN
      rw [e1, e2, e3, e4]
      exact ⟨rfl, rfl, rfl, rfl⟩
    refine ⟨⟨?_, fun c hc => ?_, fun c d hc hd hcd => ?_⟩, ?_, ?_, hs, fun c hc => ?_⟩
    · obtain ⟨r, r1, r2⟩ := hr
      have : qR a' i = r := by unfold qR; rw [r2, io_nat (by omega)]
      rw [this, r2]
      exact ⟨rfl, r1⟩
    · obtain ⟨e1, e2, e3, e4⟩ := q4 c hc
      obtain ⟨f1, f2, f3, f4⟩ := hb c hc
      rw [e1, e2, e3, e4, f1, f2, f3, f4]
      exact l2 c hc
    · obtain ⟨e1, e2, e3, e4⟩ := q4 c hc
      obtain ⟨f1, f2, f3, f4⟩ := q4 d hd
      rw [e1, e2, e3, e4, f1, f2, f3, f4]
      exact l3 c d hc hd hcd
    · rw [eQ, ho _ (by omega)]; exact h2
    · rw [eS, ho _ (by omega)]; exact h3
    · obtain ⟨e1, e2, e3, e4⟩ := q4 c hc
      rw [e2, e4, en]
      exact h5 c hc
  · have : onm a' i = onm a i := by
      unfold onm
      refine nac_congr 10 0 (fun c _ hc => ?_)
      show (if 0 < a' _ then 1 else 0) = if 0 < a _ then 1 else 0
      rw [(hb c (by omega)).1]
    have := h.2.2.2.2.1
    omega
/-- a row of the table is put -/
def rRow (a : Nat → Int32) (r : Nat) (x y : Int32) : Nat → Int32 := up (up (up a (1 + r) x) (7 + r) y) 0 (Int32.ofNat (r + 1))
theorem Inv.rows (h : Inv a B) {r x y : Nat} (hr : r ≤ 5) (hr2 : r ≤ tR a) (hx : x ≤ 90000) (hy1 : 1 ≤ y) (hy : y ≤ 5000) (hf : (r = 0 ∧ x = 0) ∨ (1 ≤ r ∧ tB a (r - 1) < x)) : Inv (rRow a r (Int32.ofNat x) (Int32.ofNat y)) B := by
  have eo : ∀ j, 13 ≤ j → rRow a r (Int32.ofNat x) (Int32.ofNat y) j = a j := fun j hj => by
    unfold rRow
    rw [up_ne (by omega), up_ne (by omega), up_ne (by omega)]
  have e0 : rRow a r (Int32.ofNat x) (Int32.ofNat y) 0 = Int32.ofNat (r + 1) := up_self
  have eB : ∀ k, k < 6 → rRow a r (Int32.ofNat x) (Int32.ofNat y) (1 + k) = if k = r then Int32.ofNat x else a (1 + k) := fun k hk => by
    unfold rRow
    rw [up_ne (by omega), up_ne (by omega)]
    by_cases e : k = r
    · rw [if_pos e, e, up_self]
    · rw [if_neg e, up_ne (by omega)]
  have eI : ∀ k, k < 6 → rRow a r (Int32.ofNat x) (Int32.ofNat y) (7 + k) = if k = r then Int32.ofNat y else a (7 + k) := fun k hk => by
    unfold rRow
    rw [up_ne (by omega)]
    by_cases e : k = r
    · rw [if_pos e, e, up_self]
    · rw [if_neg e, up_ne (by omega), up_ne (by omega)]
  generalize rRow a r (Int32.ofNat x) (Int32.ofNat y) = a' at *
  obtain ⟨⟨c1, c2, c3, c4⟩, ⟨⟨t1, t2, t3, t4⟩, t5, t6⟩, lI, n, o, e, z⟩ := h
  have em : mk a' = mk a := by unfold mk; rw [eo 23 (by omega)]
  have ek : kp a' = kp a := by unfold kp; rw [eo 991 (by omega)]
  have en : nm a' = nm a := by unfold nm; rw [eo 984 (by omega)]
  have eR : tR a' = r + 1 := by unfold tR; rw [e0, io_nat (by omega)]
  have fB : ∀ k, k < 6 → tB a' k = if k = r then x else tB a k := fun k hk => by
    unfold tB
    rw [eB k hk]
    by_cases q : k = r
    · rw [if_pos q, if_pos q, io_nat (by omega)]
    · rw [if_neg q, if_neg q]
  have fI : ∀ k, k < 6 → tI a' k = if k = r then y else tI a k := fun k hk => by
    unfold tI
    rw [eI k hk]
    by_cases q : k = r
    · rw [if_pos q, if_pos q, io_nat (by omega)]
    · rw [if_neg q, if_neg q]
  have sm : ∀ i, i < 20 → SmL a a' i := fun i hi => ⟨fun p hp => eo _ (by omega), fun b hb => ⟨eo _ (by omega), eo _ (by omega), eo _ (by omega), eo _ (by omega)⟩⟩
  refine ⟨⟨by rw [em, eo 23 (by omega)]; exact c1, by rw [em]; exact c2, by rw [ek, eo 991 (by omega)]; exact c3, by rw [ek]; exact c4⟩, ⟨⟨by rw [eR]; exact e0, by omega, by omega, ?_⟩, fun k hk => ?_, fun k hk => ?_⟩, fun i hi => ?_, ?_, ?_, fun k hk => ?_, fun j hj => ?_⟩
  · rw [fB 0 (by omega)]
    by_cases q : 0 = r
    · rw [if_pos q]; omega
    · rw [if_neg q]; exact t4
  · rw [eR] at hk
    rw [fB k (by omega), fI k (by omega), eB k (by omega), eI k (by omega)]
    by_cases q : k = r
    · rw [if_pos q, if_pos q, if_pos q, if_pos q]
      exact ⟨rfl, hx, rfl, hy1, hy⟩
    · rw [if_neg q, if_neg q, if_neg q, if_neg q]
      exact t5 k (by omega)
  · rw [eR] at hk
    rw [fB k (by omega), fB (k + 1) (by omega), if_neg (show k ≠ r by omega)]
    by_cases q : k + 1 = r
    · rw [if_pos q]
      rcases hf with hf | ⟨-, hf⟩
      · omega
      · rw [show r - 1 = k by omega] at hf
        exact hf
    · rw [if_neg q]
      exact t6 k (by omega)
  · rw [em] at hi
    exact (lI i hi).congr (sm i (by omega)) (by omega)
  · rw [en, eo 984 (by omega)]; exact n
  · unfold tot
    rw [em, nac_congr (g := onm a') (g' := onm a) (mk a) 0 (fun j _ hj => (sm j (by omega)).on)]
    exact o
  · rw [ek] at hk
    rw [em, eo _ (by omega)]
    exact e k hk
  · rw [eo j (by omega)]
    exact z j hj
/-- a lot is made -/
theorem rMk_old {sl q r : Int32} {j : Nat} (hm : mk a < 20) (hj : j ≠ 23) (h : ¬ ((24 + 8 * mk a ≤ j ∧ j < 32 + 8 * mk a) ∨ (184 + 10 * mk a ≤ j ∧ j < 194 + 10 * mk a) ∨ (384 + 10 * mk a ≤ j ∧ j < 394 + 10 * mk a) ∨ (584 + 10 * mk a ≤ j ∧ j < 594 + 10 * mk a) ∨ (784 + 10 * mk a ≤ j ∧ j < 794 + 10 * mk a))) : rMk a sl q r j = a j := by
  unfold rMk bgn
  rw [up_ne hj, if_neg (by omega), if_neg (by omega), if_neg (by omega), if_neg (by omega), if_neg (by omega), if_neg (by omega), if_neg (by omega), if_neg (by omega), if_neg (by omega)]
theorem rMk_zero {sl q r : Int32} {j : Nat} (hm : mk a < 20) (h : (184 + 10 * mk a ≤ j ∧ j < 194 + 10 * mk a) ∨ (384 + 10 * mk a ≤ j ∧ j < 394 + 10 * mk a) ∨ (584 + 10 * mk a ≤ j ∧ j < 594 + 10 * mk a) ∨ (784 + 10 * mk a ≤ j ∧ j < 794 + 10 * mk a)) : rMk a sl q r j = 0 := by
  unfold rMk bgn
  rw [up_ne (by omega), if_pos h]
theorem rMk_fld {sl q r : Int32} (hm : mk a < 20) : rMk a sl q r (24 + 8 * mk a + 0) = sl ∧ rMk a sl q r (24 + 8 * mk a + 1) = q ∧ rMk a sl q r (24 + 8 * mk a + 2) = r ∧ rMk a sl q r (24 + 8 * mk a + 3) = 0 := by
  unfold rMk bgn
  refine ⟨?_, ?_, ?_, ?_⟩
  · rw [up_ne (by omega), if_neg (by omega), if_neg (by omega), if_neg (by omega), if_neg (by omega), if_neg (by omega), if_neg (by omega), if_neg (by omega), if_neg (by omega), if_pos (by omega)]
  · rw [up_ne (by omega), if_neg (by omega), if_neg (by omega), if_neg (by omega), if_neg (by omega), if_neg (by omega), if_neg (by omega), if_neg (by omega), if_pos (by omega)]
  · rw [up_ne (by omega), if_neg (by omega), if_neg (by omega), if_neg (by omega), if_neg (by omega), if_neg (by omega), if_neg (by omega), if_pos (by omega)]
  · rw [up_ne (by omega), if_neg (by omega), if_neg (by omega), if_neg (by omega), if_neg (by omega), if_neg (by omega), if_pos (by omega)]
theorem rMk_23 {sl q r : Int32} : rMk a sl q r 23 = Int32.ofNat (mk a + 1) := up_self
theorem Inv.make (h : Inv a B) (hm : mk a < 20) {sl q r : Nat} (h1 : sl ≤ 5) (h2 : 1 ≤ q) (h3 : q ≤ 20) (h4 : r ≤ 90000) : Inv (rMk a (Int32.ofNat sl) (Int32.ofNat q) (Int32.ofNat r)) B ∧ tot (rMk a (Int32.ofNat sl) (Int32.ofNat q) (Int32.ofNat r)) = tot a := by
  have eo := fun j h1 h2 => rMk_old (a := a) (sl := Int32.ofNat sl) (q := Int32.ofNat q) (r := Int32.ofNat r) (j := j) hm h1 h2
  have ez := fun j h => rMk_zero (a := a) (sl := Int32.ofNat sl) (q := Int32.ofNat q) (r := Int32.ofNat r) (j := j) hm h
  obtain ⟨f0, f1, f2, f3⟩ := rMk_fld (a := a) (sl := Int32.ofNat sl) (q := Int32.ofNat q) (r := Int32.ofNat r) hm
  have e23 := rMk_23 (a := a) (sl := Int32.ofNat sl) (q := Int32.ofNat q) (r := Int32.ofNat r)
  generalize rMk a (Int32.ofNat sl) (Int32.ofNat q) (Int32.ofNat r) = a' at *
  obtain ⟨⟨c1, c2, c3, c4⟩, t, lI, n, o, e, z⟩ := h
  have em : mk a' = mk a + 1 := by
    unfold mk at e23 ⊢
    rw [e23]
    exact io_nat (by have : (a 23).toNatClampNeg < 20 := hm; omega)
  have ek : kp a' = kp a := by unfold kp; rw [eo 991 (by omega) (by omega)]
  have en : nm a' = nm a := by unfold nm; rw [eo 984 (by omega) (by omega)]
  have sm : ∀ i, i < mk a → SmL a a' i := fun i hi => ⟨fun p hp => eo _ (by omega) (by omega), fun b hb => ⟨eo _ (by omega) (by omega), eo _ (by omega) (by omega), eo _ (by omega) (by omega), eo _ (by omega) (by omega)⟩⟩
  have ht : tot a' = tot a := by
    unfold tot
    rw [em, nac_last, Nat.zero_add, nac_congr (g := onm a') (g' := onm a) (mk a) 0 (fun j _ hj => (sm j (by omega)).on)]
    have : onm a' (mk a) = 0 := by
      have h0 := nac_le (g := fun b => if 0 < a' (184 + 10 * mk a + b) then 1 else 0) (M := 0) 10 0 (fun j _ hj => by
        show (if 0 < a' _ then 1 else 0) ≤ 0
        rw [ez _ (by omega), if_neg (by decide)]
        exact Nat.le_refl _)
      unfold onm
      omega
    omega
  refine ⟨⟨⟨by rw [em]; exact e23, by omega, by rw [ek, eo 991 (by omega) (by omega)]; exact c3, by rw [ek]; exact c4⟩, t.congr (fun j hj => eo j (by omega) (by omega)), fun i hi => ?_, ?_, by omega, fun k hk => ?_, fun j hj => ?_⟩, ht⟩
  · by_cases hq : i < mk a
    · exact (lI i hq).congr (sm i hq) (by omega)
    · have hi' : i = mk a := by omega
      subst hi'
      have z4 : ∀ b, b < 10 → a' (184 + 10 * mk a + b) = 0 ∧ a' (384 + 10 * mk a + b) = 0 ∧ a' (584 + 10 * mk a + b) = 0 ∧ a' (784 + 10 * mk a + b) = 0 := fun b hb => ⟨ez _ (by omega), ez _ (by omega), ez _ (by omega), ez _ (by omega)⟩
      have q4 : ∀ b, b < 10 → qM a' (mk a) b = 0 ∧ qO a' (mk a) b = 0 ∧ qD a' (mk a) b = 0 ∧ qN a' (mk a) b = 0 := fun b hb => by
        obtain ⟨z1, z2, z3, z4⟩ := z4 b hb
        unfold qM qO qD qN
        rw [z1, z2, z3, z4]
        exact ⟨rfl, rfl, rfl, rfl⟩
      have eR : qR a' (mk a) = r := by unfold qR; rw [f2, io_nat (by omega)]
      have eQ : qQ a' (mk a) = q := by unfold qQ; rw [f1, io_nat (by omega)]
      have eS : qS a' (mk a) = sl := by unfold qS; rw [f0, io_nat (by omega)]
      refine ⟨⟨by rw [eR]; exact ⟨f2, h4⟩, fun c hc => ?_, fun c d hc hd hcd => ?_⟩, by rw [eQ]; exact ⟨f1, h2, h3⟩, by rw [eS]; exact ⟨f0, h1⟩, fun g => ?_, fun c hc => ?_⟩
      · obtain ⟨z1, z2, z3, z4⟩ := z4 c hc
        obtain ⟨y1, y2, y3, y4⟩ := q4 c hc
        rw [z1, z2, z3, z4, y1, y2, y3, y4]
        exact ⟨⟨rfl, by omega⟩, ⟨rfl, by omega⟩, ⟨rfl, by omega⟩, ⟨rfl, by omega⟩⟩
      · obtain ⟨y1, y2, y3, y4⟩ := q4 c hc
        rw [y1, y3]
        exact ⟨fun g => absurd g (Nat.lt_irrefl 0), fun g => absurd g (Nat.lt_irrefl 0), fun g => absurd g (Nat.lt_irrefl 0)⟩
      · rw [f3] at g
        exact absurd g (by decide)
      · obtain ⟨y1, y2, y3, y4⟩ := q4 c hc
        rw [y2, y4]
        exact ⟨Nat.zero_le _, Nat.zero_le _⟩
  · rw [en, eo 984 (by omega) (by omega)]; exact n
  · rw [ek] at hk
    rw [eo _ (by omega) (by omega), em]
    obtain ⟨e', g1, g2⟩ := e k hk
    exact ⟨e', by omega, g2⟩
  · rw [eo j (by omega) (by omega)]
    exact z j hj
end
