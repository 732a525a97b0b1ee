/-! EVERY WRITE KEEPS IT -/
theorem Inv.note {a : Nat → Int32} {B e : Nat} {κ l β x : Int32} (h : Inv a B) (hl : l = Int32.ofNat e) (he : e < mk a) : Inv (rNote a κ l β x) B := by
  by_cases hq : kp a < 250
  · have eo : ∀ j, (j < 991 ∨ (992 ≤ j ∧ (j < 992 + 4 * kp a ∨ 992 + 4 * kp a + 4 ≤ j))) → rNote a κ l β x j = a j := fun j hj => by
      unfold rNote
      rw [if_pos hq, if_neg (by omega), if_neg (by omega), if_neg (by omega), if_neg (by omega), if_neg (by omega)]
    have e1 : rNote a κ l β x 991 = Int32.ofNat (kp a + 1) := by
      unfold rNote
      rw [if_pos hq, if_pos rfl]
    have e2 : rNote a κ l β x (992 + 4 * kp a + 1) = l := by
      unfold rNote
      rw [if_pos hq, if_neg (by omega), if_neg (by omega), if_neg (by omega), if_pos rfl]
    generalize rNote a κ l β x = a' at *
    obtain ⟨⟨c1, c2, c3, c4⟩, t, lI, n, o, ev, z⟩ := h
    have em : mk a' = mk a := by unfold mk; rw [eo 23 (by omega)]
    have ek : kp a' = kp a + 1 := by unfold kp; rw [e1, io_nat (by omega)]; rfl
    have en : nm a' = nm a := by unfold nm; rw [eo 984 (by omega)]
    have sm : ∀ i, i < 20 → SmL a a' i := fun i hi => ⟨fun p hp => eo _ (by omega), fun b hb => ⟨eo _ (by omega), eo _ (by omega), eo _ (by omega), eo _ (by omega)⟩⟩
    refine ⟨⟨?_, ?_, ?_, ?_⟩, t.congr (fun j hj => eo j (by omega)), fun i hi => ?_, ?_, ?_, fun k hk => ?_, fun j hj => ?_⟩
    · rw [em, eo 23 (by omega)]; exact c1
    · rw [em]; exact c2
    · rw [e1, ek]
    · omega
    · rw [em] at hi
      exact (lI i hi).congr (sm i (by omega)) (by omega)
    · rw [en, eo 984 (by omega)]; exact n
    · unfold tot
      rw [em, nac_congr (g := onm a') (g' := onm a) (mk a) 0 (fun j _ hj => (sm j (by omega)).on)]
      exact o
    · rw [em]
      by_cases q : k = kp a
      · rw [q, e2]
        exact ⟨e, he, hl⟩
      · rw [eo _ (by omega)]
        exact ev k (by omega)
    · rw [eo j (by omega)]
      exact z j hj
  · have : rNote a κ l β x = a := by
      funext j
      unfold rNote
      rw [if_neg hq]
    rw [this]
    exact h
section
variable {a : Nat → Int32} {B i b : Nat}
theorem smL_of {a' : Nat → Int32} {i i' : Nat} (hne : i' ≠ i) (hi : i < 20) (hi' : i' < 20) (h : ∀ j, 24 ≤ j → j < 984 → ¬ ((24 + 8 * i ≤ j ∧ j < 32 + 8 * i) ∨ (184 + 10 * i ≤ j ∧ j < 194 + 10 * i) ∨ (384 + 10 * i ≤ j ∧ j < 394 + 10 * i) ∨ (584 + 10 * i ≤ j ∧ j < 594 + 10 * i) ∨ (784 + 10 * i ≤ j ∧ j < 794 + 10 * i)) → a' j = a j) : SmL a a' i' :=
  ⟨fun p hp => h _ (by omega) (by omega) (by omega), fun b hb => ⟨h _ (by omega) (by omega) (by omega), h _ (by omega) (by omega) (by omega), h _ (by omega) (by omega) (by omega), h _ (by omega) (by omega) (by omega)⟩⟩
/-- an order is put with a new number -/
theorem Inv.order (h : Inv a B) (hi : i < mk a) (hb : b < 10) {x : Nat} (hx : x ≤ 90000) (hB : B < 100000000) (ho : tot a < 40 ∨ 0 < a (184 + 10 * i + b) ∨ x = 0) : Inv (put (rNum a) 184 i b (Int32.ofNat x) (a 984 + 1)) (B + 1) := by
  have hi20 : i < 20 := by have := h.1.2.1; omega
  obtain ⟨lI, hn, htot⟩ := (⟨h.2.2.1, h.2.2.2.1, h.2.2.2.2.1⟩ : (∀ i, i < mk a → LI a i) ∧ (a 984 = Int32.ofNat (nm a) ∧ nm a ≤ B) ∧ tot a ≤ 40)
  have e9 : a 984 + 1 = Int32.ofNat (nm a + 1) := by rw [hn.1, io_succ]
  have eo : ∀ j, j ≠ 984 → j ≠ 184 + 10 * i + b → j ≠ 384 + 10 * i + b → put (rNum a) 184 i b (Int32.ofNat x) (a 984 + 1) j = a j := fun j h1 h2 h3 => by
    unfold put rNum
    rw [up_ne (by omega), up_ne h2, up_ne h1]
  have eM : put (rNum a) 184 i b (Int32.ofNat x) (a 984 + 1) (184 + 10 * i + b) = Int32.ofNat x := by
    unfold put rNum
    rw [up_ne (by omega), up_self]
  have eO : put (rNum a) 184 i b (Int32.ofNat x) (a 984 + 1) (384 + 10 * i + b) = Int32.ofNat (nm a + 1) := by
    unfold put
    rw [← e9]
    exact up_self
  have eN : put (rNum a) 184 i b (Int32.ofNat x) (a 984 + 1) 984 = Int32.ofNat (nm a + 1) := by
    unfold put rNum
    rw [up_ne (by omega), up_ne (by omega), up_self, e9]
  generalize put (rNum a) 184 i b (Int32.ofNat x) (a 984 + 1) = a' at *
  have en : nm a' = nm a + 1 := by unfold nm; rw [eN, io_nat (by omega)]; rfl
  have qm : ∀ c, c < 10 → qM a' i c = if c = b then x else qM a i c := fun c hc => by
    by_cases e : c = b
    · rw [if_pos e, e]; unfold qM; rw [eM, io_nat (by omega)]
    · rw [if_neg e]; unfold qM; rw [eo _ (by omega) (by omega) (by omega)]
  have qo : ∀ c, c < 10 → qO a' i c = if c = b then nm a + 1 else qO a i c := fun c hc => by
    by_cases e : c = b
    · rw [if_pos e, e]; unfold qO; rw [eO, io_nat (by omega)]
    · rw [if_neg e]; unfold qO; rw [eo _ (by omega) (by omega) (by omega)]
  have qd : ∀ c, c < 10 → qD a' i c = qD a i c := fun c hc => by unfold qD; rw [eo _ (by omega) (by omega) (by omega)]
  have qn : ∀ c, c < 10 → qN a' i c = qN a i c := fun c hc => by unfold qN; rw [eo _ (by omega) (by omega) (by omega)]
  refine h.upd (fun j hj => eo j (by omega) (by omega) (by omega)) (fun i' hi' hne => smL_of hne hi20 (by have := h.1.2.1; omega) (fun j g1 g2 g3 => eo j (by omega) (by omega) (by omega))) (fun _ => ?_) ⟨by rw [eN, en], by omega, by omega⟩ (fun _ => ?_)
  · obtain ⟨⟨l1, l2, l3⟩, h2, h3, h4, h5⟩ := lI i hi
    have eR : qR a' i = qR a i := by unfold qR; rw [eo _ (by omega) (by omega) (by omega)]
    have eQ : qQ a' i = qQ a i := by unfold qQ; rw [eo _ (by omega) (by omega) (by omega)]
    have eS : qS a' i = qS a i := by unfold qS; rw [eo _ (by omega) (by omega) (by omega)]
    refine ⟨⟨?_, fun c hc => ?_, fun c d hc hd hcd => ?_⟩, ?_, ?_, ?_, fun c hc => ?_⟩
    · rw [eR, eo _ (by omega) (by omega) (by omega)]; exact l1
    · obtain ⟨m1, m2, m3, m4⟩ := l2 c hc
      have m5 := (h5 c hc).1
      rw [qm c hc, qo c hc, qd c hc, qn c hc, eo (584 + 10 * i + c) (by omega) (by omega) (by omega), eo (784 + 10 * i + c) (by omega) (by omega) (by omega)]
      by_cases e : c = b
      · rw [if_pos e, if_pos e, e, eM, eO]
        rw [e] at m3 m4
        exact ⟨⟨rfl, hx⟩, ⟨rfl, by omega⟩, m3, m4⟩
      · rw [if_neg e, if_neg e, eo _ (by omega) (by omega) (by omega), eo _ (by omega) (by omega) (by omega)]
        exact ⟨m1, m2, m3, m4⟩
    · obtain ⟨k1, k2, k3⟩ := l3 c d hc hd hcd
      have n1 := h5 c hc
      have n2 := h5 d hd
      rw [qm c hc, qo c hc, qd c hc, qn c hc, qm d hd, qo d hd, qd d hd, qn d hd]
      by_cases e : c = b
      · have e2 : d ≠ b := fun q => hcd (e.trans q.symm)
        rw [if_pos e, if_pos e, if_neg e2, if_neg e2]
        exact ⟨fun _ _ => by omega, k2, fun _ _ => by omega⟩
      · rw [if_neg e, if_neg e]
        by_cases e2 : d = b
        · rw [if_pos e2, if_pos e2]
          exact ⟨fun _ _ => by omega, k2, k3⟩
        · rw [if_neg e2, if_neg e2]
          exact ⟨k1, k2, k3⟩
    · rw [eQ, eo _ (by omega) (by omega) (by omega)]; exact h2
    · rw [eS, eo _ (by omega) (by omega) (by omega)]; exact h3
    · rw [eo _ (by omega) (by omega) (by omega), eo _ (by omega) (by omega) (by omega), eo _ (by omega) (by omega) (by omega)]; exact h4
    · have n1 := h5 c hc
      rw [qo c hc, qn c hc, en]
      split <;> omega
  · have hset := nac_set (g := fun c => if 0 < a (184 + 10 * i + c) then 1 else 0) (g' := fun c => if 0 < a' (184 + 10 * i + c) then 1 else 0) (i0 := b) 10 0 (Nat.zero_le _) (by omega) (fun c _ hc hne => by
      show (if 0 < a' _ then 1 else 0) = if 0 < a _ then 1 else 0
      rw [eo _ (by omega) (by omega) (by omega)])
    have hset : onm a' i + (if 0 < a (184 + 10 * i + b) then 1 else 0) = onm a i + (if 0 < a' (184 + 10 * i + b) then 1 else 0) := hset
    rw [eM] at hset
    rcases ho with ho | ho | ho
    · have : (if (0 : Int32) < Int32.ofNat x then 1 else 0) ≤ 1 := by split <;> omega
      omega
    · rw [if_pos ho] at hset
      have : (if (0 : Int32) < Int32.ofNat x then 1 else 0) ≤ 1 := by split <;> omega
      omega
    · rw [ho] at hset
      have : (if (0 : Int32) < Int32.ofNat 0 then 1 else 0) = 0 := rfl
      omega
/-- a bid is put with a new number -/
theorem Inv.bid (h : Inv a B) (hi : i < mk a) (hb : b < 10) {x : Nat} (hx : x ≤ 99999) (hB : B < 100000000) : Inv (put (rNum a) 584 i b (Int32.ofNat x) (a 984 + 1)) (B + 1) := by
  have hi20 : i < 20 := by have := h.1.2.1; omega
  obtain ⟨lI, hn, htot⟩ := (⟨h.2.2.1, h.2.2.2.1, h.2.2.2.2.1⟩ : (∀ i, i < mk a → LI a i) ∧ (a 984 = Int32.ofNat (nm a) ∧ nm a ≤ B) ∧ tot a ≤ 40)
  have e9 : a 984 + 1 = Int32.ofNat (nm a + 1) := by rw [hn.1, io_succ]
  have eo : ∀ j, j ≠ 984 → j ≠ 584 + 10 * i + b → j ≠ 784 + 10 * i + b → put (rNum a) 584 i b (Int32.ofNat x) (a 984 + 1) j = a j := fun j h1 h2 h3 => by
    unfold put rNum
    rw [up_ne (by omega), up_ne h2, up_ne h1]
  have eM : put (rNum a) 584 i b (Int32.ofNat x) (a 984 + 1) (584 + 10 * i + b) = Int32.ofNat x := by
    unfold put rNum
    rw [up_ne (by omega), up_self]
  have eO : put (rNum a) 584 i b (Int32.ofNat x) (a 984 + 1) (784 + 10 * i + b) = Int32.ofNat (nm a + 1) := by
    unfold put
    rw [← e9]
    exact up_self
  have eN : put (rNum a) 584 i b (Int32.ofNat x) (a 984 + 1) 984 = Int32.ofNat (nm a + 1) := by
    unfold put rNum
    rw [up_ne (by omega), up_ne (by omega), up_self, e9]
  generalize put (rNum a) 584 i b (Int32.ofNat x) (a 984 + 1) = a' at *
  have en : nm a' = nm a + 1 := by unfold nm; rw [eN, io_nat (by omega)]; rfl
  have qd : ∀ c, c < 10 → qD a' i c = if c = b then x else qD a i c := fun c hc => by
    by_cases e : c = b
    · rw [if_pos e, e]; unfold qD; rw [eM, io_nat (by omega)]
    · rw [if_neg e]; unfold qD; rw [eo _ (by omega) (by omega) (by omega)]
  have qn : ∀ c, c < 10 → qN a' i c = if c = b then nm a + 1 else qN a i c := fun c hc => by
    by_cases e : c = b
    · rw [if_pos e, e]; unfold qN; rw [eO, io_nat (by omega)]
    · rw [if_neg e]; unfold qN; rw [eo _ (by omega) (by omega) (by omega)]
  have qm : ∀ c, c < 10 → qM a' i c = qM a i c := fun c hc => by unfold qM; rw [eo _ (by omega) (by omega) (by omega)]
  have qo : ∀ c, c < 10 → qO a' i c = qO a i c := fun c hc => by unfold qO; rw [eo _ (by omega) (by omega) (by omega)]
  refine h.upd (fun j hj => eo j (by omega) (by omega) (by omega)) (fun i' hi' hne => smL_of hne hi20 (by have := h.1.2.1; omega) (fun j g1 g2 g3 => eo j (by omega) (by omega) (by omega))) (fun _ => ?_) ⟨by rw [eN, en], by omega, by omega⟩ (fun _ => ?_)
  · obtain ⟨⟨l1, l2, l3⟩, h2, h3, h4, h5⟩ := lI i hi
    have eR : qR a' i = qR a i := by unfold qR; rw [eo _ (by omega) (by omega) (by omega)]
    have eQ : qQ a' i = qQ a i := by unfold qQ; rw [eo _ (by omega) (by omega) (by omega)]
    have eS : qS a' i = qS a i := by unfold qS; rw [eo _ (by omega) (by omega) (by omega)]
    refine ⟨⟨?_, fun c hc => ?_, fun c d hc hd hcd => ?_⟩, ?_, ?_, ?_, fun c hc => ?_⟩
    · rw [eR, eo _ (by omega) (by omega) (by omega)]; exact l1
    · obtain ⟨m1, m2, m3, m4⟩ := l2 c hc
      have m5 := (h5 c hc).1
      rw [qm c hc, qo c hc, qd c hc, qn c hc, eo (184 + 10 * i + c) (by omega) (by omega) (by omega), eo (384 + 10 * i + c) (by omega) (by omega) (by omega)]
      by_cases e : c = b
      · rw [if_pos e, if_pos e, e, eM, eO]
        rw [e] at m1 m2
        exact ⟨m1, m2, ⟨rfl, hx⟩, ⟨rfl, by omega⟩⟩
      · rw [if_neg e, if_neg e, eo _ (by omega) (by omega) (by omega), eo _ (by omega) (by omega) (by omega)]
        exact ⟨m1, m2, m3, m4⟩
    · obtain ⟨k1, k2, k3⟩ := l3 c d hc hd hcd
      have n1 := h5 c hc
      have n2 := h5 d hd
      rw [qm c hc, qo c hc, qd c hc, qn c hc, qm d hd, qo d hd, qd d hd, qn d hd]
      by_cases e : c = b
      · have e2 : d ≠ b := fun q => hcd (e.trans q.symm)
        rw [if_pos e, if_pos e, if_neg e2, if_neg e2]
        exact ⟨k1, fun _ _ => by omega, k3⟩
      · rw [if_neg e, if_neg e]
        by_cases e2 : d = b
        · rw [if_pos e2, if_pos e2]
          exact ⟨k1, fun _ _ => by omega, fun _ _ => by omega⟩
        · rw [if_neg e2, if_neg e2]
          exact ⟨k1, k2, k3⟩
    · rw [eQ, eo _ (by omega) (by omega) (by omega)]; exact h2
    · rw [eS, eo _ (by omega) (by omega) (by omega)]; exact h3
    · rw [eo _ (by omega) (by omega) (by omega), eo _ (by omega) (by omega) (by omega), eo _ (by omega) (by omega) (by omega)]; exact h4
    · have n1 := h5 c hc
      rw [qo c hc, qn c hc, en]
      split <;> omega
  · have : onm a' i = onm a i := by
      unfold onm
      refine nac_congr 10 0 (fun c _ hc => ?_)
      show (if 0 < a' _ then 1 else 0) = if 0 < a _ then 1 else 0
      rw [eo _ (by omega) (by omega) (by omega)]
    omega
/-- numbers at which nothing hangs: a lot's openings and reason, a state other than sold, credits, fees -/
theorem Inv.free (h : Inv a B) {j0 : Nat} {v : Int32} (hj : (13 ≤ j0 ∧ j0 < 23) ∨ (985 ≤ j0 ∧ j0 < 991) ∨ ∃ i, i < 20 ∧ (j0 = 24 + 8 * i + 4 ∨ j0 = 24 + 8 * i + 5 ∨ (j0 = 24 + 8 * i + 3 ∧ v ≠ 2))) : Inv (up a j0 v) B := by
  have en : nm (up a j0 v) = nm a := by unfold nm; rw [up_ne (by rcases hj with q | q | ⟨i, q, q2⟩ <;> omega)]
  have n := h.2.2.2.1
  have same : ∀ i, (∀ p, p < 8 → j0 ≠ 24 + 8 * i + p) → (j0 < 184 ∨ 984 ≤ j0) → i < 20 → SmL a (up a j0 v) i := fun i h1 h2 h3 => ⟨fun p hp => up_ne (fun q => h1 p hp q.symm), fun b hb => ⟨up_ne (by omega), up_ne (by omega), up_ne (by omega), up_ne (by omega)⟩⟩
  have n2 : up a j0 v 984 = Int32.ofNat (nm (up a j0 v)) ∧ nm a ≤ nm (up a j0 v) ∧ nm (up a j0 v) ≤ B := by
    rw [en]
    exact ⟨by rw [up_ne (by rcases hj with q | q | ⟨i, q, q2⟩ <;> omega)]; exact n.1, Nat.le_refl _, n.2⟩
  have hmk : mk a ≤ 20 := h.1.2.1
  rcases hj with q | q | ⟨i, q, q2⟩
  · exact h.upd (i0 := 20) (fun j hj => up_ne (by omega)) (fun i hi _ => same i (fun p hp => by omega) (by omega) (by omega)) (fun z => by omega) n2 (fun z => by omega)
  · exact h.upd (i0 := 20) (fun j hj => up_ne (by omega)) (fun i hi _ => same i (fun p hp => by omega) (by omega) (by omega)) (fun z => by omega) n2 (fun z => by omega)
  · have e : ∀ j, j ≠ j0 → up a j0 v j = a j := fun j hj => up_ne hj
    have hs : ∀ b, b < 10 → up a j0 v (184 + 10 * i + b) = a (184 + 10 * i + b) ∧ up a j0 v (384 + 10 * i + b) = a (384 + 10 * i + b) ∧ up a j0 v (584 + 10 * i + b) = a (584 + 10 * i + b) ∧ up a j0 v (784 + 10 * i + b) = a (784 + 10 * i + b) := fun b hb => ⟨up_ne (by omega), up_ne (by omega), up_ne (by omega), up_ne (by omega)⟩
    refine h.upd (i0 := i) (fun j hj => up_ne (by omega)) (fun i' hi' hne => same i' (fun p hp => by omega) (by omega) (by omega)) (fun hi => ?_) n2 (fun hi => ?_)
    · obtain ⟨⟨l1, l2, l3⟩, h2, h3, h4, h5⟩ := h.2.2.1 i hi
      have eR : qR (up a j0 v) i = qR a i := by unfold qR; rw [up_ne (by omega)]
      have eQ : qQ (up a j0 v) i = qQ a i := by unfold qQ; rw [up_ne (by omega)]
      have eS : qS (up a j0 v) i = qS a i := by unfold qS; rw [up_ne (by omega)]
      have q4 : ∀ b, b < 10 → qM (up a j0 v) i b = qM a i b ∧ qO (up a j0 v) i b = qO a i b ∧ qD (up a j0 v) i b = qD a i b ∧ qN (up a j0 v) i b = qN a i b := fun b hb => by
        obtain ⟨e1, e2, e3, e4⟩ := hs b hb
        unfold qM qO qD qN
        rw [e1, e2, e3, e4]
        exact ⟨rfl, rfl, rfl, rfl⟩
      refine ⟨⟨?_, fun b hb => ?_, fun b c hb hc hbc => ?_⟩, ?_, ?_, ?_, fun b hb => ?_⟩
      · rw [eR, up_ne (by omega)]; exact l1
      · obtain ⟨e1, e2, e3, e4⟩ := q4 b hb
        obtain ⟨f1, f2, f3, f4⟩ := hs b hb
        rw [e1, e2, e3, e4, f1, f2, f3, f4]
        exact l2 b hb
      · obtain ⟨e1, e2, e3, e4⟩ := q4 b hb
        obtain ⟨f1, f2, f3, f4⟩ := q4 c hc
        rw [e1, e2, e3, e4, f1, f2, f3, f4]
        exact l3 b c hb hc hbc
      · rw [eQ, up_ne (by omega)]; exact h2
      · rw [eS, up_ne (by omega)]; exact h3
      · intro g
        rw [up_ne (by omega), up_ne (by omega)]
        rcases q2 with q2 | q2 | ⟨q2, q3⟩
        · rw [up_ne (by omega)] at g; exact h4 g
        · rw [up_ne (by omega)] at g; exact h4 g
        · rw [q2, up_self] at g; exact absurd g q3
      · obtain ⟨e1, e2, e3, e4⟩ := q4 b hb
        rw [e2, e4, en]
        exact h5 b hb
    · have : onm (up a j0 v) i = onm a i := by
        unfold onm
        refine nac_congr 10 0 (fun c _ hc => ?_)
        show (if 0 < up a j0 v _ then 1 else 0) = if 0 < a _ then 1 else 0
        rw [(hs c (by omega)).1]
      have := h.2.2.2.2.1
      omega
end
