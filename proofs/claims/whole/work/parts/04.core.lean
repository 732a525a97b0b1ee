/-! THE WORLD: what the objects of the class, of the reference and of the law hold, by their numbers; 0 is null. Numbers 1 and 2 are the class's two static rows, 3 is the script: never written. From 4 on they count what was made since the law's start. -/
abbrev zW : Type := (Nat → Nat → Int32) × (Nat → Nat → Nat) × (Nat → Nat) × (Nat → Nat) × (Nat × Nat) × (Nat → UInt64)
def zI (σ : zW) : Nat → Nat → Int32 := σ.1
def zR (σ : zW) : Nat → Nat → Nat := σ.2.1
def zK (σ : zW) : Nat → Nat := σ.2.2.1
def zL (σ : zW) : Nat → Nat := σ.2.2.2.1
def zN (σ : zW) : Nat := σ.2.2.2.2.1.1
def zS (σ : zW) : Nat := σ.2.2.2.2.1.2
def zD (σ : zW) : Nat → UInt64 := σ.2.2.2.2.2
/-- a number is stored, a reference, a whole row, a double; an object or a row is made; an exception is made -/
def stI (σ : zW) (o k : Nat) (v : Int32) : zW := (va_up σ.1 o (va_up (σ.1 o) k v), σ.2)
def stR (σ : zW) (o k v : Nat) : zW := (σ.1, va_up σ.2.1 o (va_up (σ.2.1 o) k v), σ.2.2)
def stA (σ : zW) (o : Nat) (f : Nat → Int32) : zW := (va_up σ.1 o f, σ.2)
def stD (σ : zW) (o : Nat) (d : UInt64) : zW := (σ.1, σ.2.1, σ.2.2.1, σ.2.2.2.1, σ.2.2.2.2.1, va_up σ.2.2.2.2.2 o d)
def nw (σ : zW) (κ n : Nat) : zW := (va_up σ.1 (zN σ + 4) (fun _ => 0), va_up σ.2.1 (zN σ + 4) (fun _ => 0), va_up σ.2.2.1 (zN σ + 4) κ, va_up σ.2.2.2.1 (zN σ + 4) n, (zN σ + 1, zS σ + n), va_up σ.2.2.2.2.2 (zN σ + 4) 0)
def nwX (σ : zW) : zW := (σ.1, σ.2.1, σ.2.2.1, σ.2.2.2.1, (zN σ + 1, zS σ + 6), σ.2.2.2.2.2)
/-- what stays through a whole run: launch, the law's first state, the classes' numbers and slots, the rows' classes, the addresses -/
abbrev zE : Type := Launch × State × va_G × (Nat → ClassId) × (Nat → Nat)
def eL (E : zE) : Launch := E.1
def eS (E : zE) : State := E.2.1
def eD (E : zE) : va_G := E.2.2.1
def eC (E : zE) : Nat → ClassId := E.2.2.2.1
def eA (E : zE) : Nat → Nat := E.2.2.2.2
abbrev zB (E : zE) : Nat := (eS E).heap.size
def zro (E : zE) (r : Nat) : Option Nat := if r = 0 then none else some (eA E r)
def zrv (E : zE) (r : Nat) : Value := va_rf (zro E r)
theorem zrv_ref {E : zE} {r : Nat} (h : r ≠ 0) : zrv E r = .ref (eA E r) := by unfold zrv zro; rw [if_neg h]; rfl
theorem zrv_null {E : zE} : zrv E 0 = .null := rfl
/-- the classes, kind k is the one at k - 1; which fields are references -/
abbrev zcl : List vw_C := [(RX0, TX0, 3), (RX1, TX1, 5), (RX2, TX2, 12), (RX3, TX3, 7), (RX4, TX4, 6), (RX5, TX5, 3), (RX6, TX6, 6), (RX7, TX7, 7), (RX8, TX8, 18)]
def zft : Nat → List Bool
  | 1 => [true, false, false]
  | 2 => [true, true, true, true, false]
  | 3 => [true, true, true, true, false, false, false, false, false, false, false, false]
  | 4 => [true, true, true, true, true, false, false]
  | 5 => [true, true, false, false, false, false]
  | 6 => [true, true, false]
  | 7 => [true, true, false, false, false, false]
  | 8 => [true, true, true, true, true, false, false]
  | 9 => [false, true, true, false, true, false, false, false, false, false, false, true, false, false, false, false, true, false]
  | _ => []
def zfv (E : zE) (σ : zW) (o : Nat) (l : List Bool) : List Value := (List.range l.length).map (fun k => if l.getD k false = true then zrv E (zR σ o k) else .int (zI σ o k))
/-- rows: 20 ints, 21 ints that are never written, 22 chars, 23 longs (each an int's value), 24 doubles, 25 Lots, 26 Sales -/
def zent (E : zE) (σ : zW) (o : Nat) : va_E :=
  if zK σ o < 20 then .inr (zK σ o - 1, zfv E σ o (zft (zK σ o)))
  else if zK σ o = 23 then .inl (eC E 23, zL σ o, .inr (.inl (fun j => (zI σ o j).toInt64)))
  else if zK σ o = 24 then .inl (eC E 24, zL σ o, .inr (.inr (.inr (.inl (fun _ => zD σ o)))))
  else if 25 ≤ zK σ o then .inl (eC E (zK σ o), zL σ o, .inr (.inr (.inr (.inr (fun j => zro E (zR σ o j))))))
  else .inl (eC E (zK σ o), zL σ o, .inl (zI σ o))
/-- the slots of the cells from b on -/
def zsum (b : Nat) (H : Heap) : Nat := ((H.toList.drop b).map (fun (c : Cell) => c.slots.size)).sum
/-- what an object's cell is; a row of kind 21 was there before: of its cell only class, length and contents are known -/
def zat (E : zE) (σ : zW) (o : Nat) (H : Heap) : Prop := if zK σ o = 21 then va_T .int (eA E o) (zL σ o) (fun j => .int (zI σ o j)) (fun q => zB E ≤ q) (eS E) H else va_at (eD E) zcl (eA E o, zent E σ o) H
theorem zat.at {E : zE} {σ : zW} {o : Nat} {H : Heap} (h : zat E σ o H) (h21 : zK σ o ≠ 21) : va_at (eD E) zcl (eA E o, zent E σ o) H := by
  unfold zat at h
  rwa [if_neg h21] at h
theorem zat.x {E : zE} {σ : zW} {o : Nat} {H : Heap} (h : zat E σ o H) (h21 : zK σ o = 21) : va_T .int (eA E o) (zL σ o) (fun j => .int (zI σ o j)) (fun q => zB E ≤ q) (eS E) H := by
  unfold zat at h
  rwa [if_pos h21] at h
theorem zat.of {E : zE} {σ : zW} {o : Nat} {H : Heap} (h21 : zK σ o ≠ 21) (h : va_at (eD E) zcl (eA E o, zent E σ o) H) : zat E σ o H := by
  unfold zat
  rwa [if_neg h21]
theorem zat.kept {E : zE} {σ : zW} {o : Nat} {H H1 : Heap} (h : zat E σ o H) (hq : H1[eA E o]? = H[eA E o]?) : zat E σ o H1 := by
  unfold zat at h ⊢
  split
  · next e =>
    rw [if_pos e] at h
    obtain ⟨cell, h1, h2⟩ := h
    exact ⟨cell, by rw [hq]; exact h1, h2⟩
  · next e => rw [if_neg e] at h; exact h.kept hq
theorem zat.lt {E : zE} {σ : zW} {o : Nat} {H : Heap} (h : zat E σ o H) : eA E o < H.size := by
  unfold zat at h
  split at h
  · obtain ⟨scr, h1, -⟩ := h
    exact (Array.getElem?_eq_some_iff.mp h1).1
  · exact va_at.lt h
theorem zat_congr {E : zE} {σ σ1 : zW} {o : Nat} {H : Heap} (hK : zK σ1 o = zK σ o) (he : zent E σ1 o = zent E σ o) (h : zat E σ o H) : zat E σ1 o H := by
  unfold zat at h ⊢
  rw [hK, he]
  split
  · next e =>
    rw [if_pos e] at h
    have e1 : ∀ τ : zW, zK τ o = 21 → zent E τ o = .inl (eC E 21, zL τ o, .inl (zI τ o)) := by
      intro τ hτ
      unfold zent
      rw [hτ]
      rfl
    rw [e1 σ e, e1 σ1 (by rw [hK]; exact e)] at he
    have h1 := Sum.inl.inj he
    have h2 := (Prod.mk.inj (Prod.mk.inj h1).2)
    rw [h2.1, Sum.inl.inj h2.2]
    exact h
  · next e => rw [if_neg e] at h; exact h
/-- the heap holds the world -/
def zRp (E : zE) (σ : zW) (H : Heap) : Prop :=
  H.size = zB E + zN σ ∧ (∀ q : Nat, q < zB E → H[q]? = (eS E).heap[q]?) ∧ zsum (zB E) H = zS σ ∧ zN σ ≤ 603072 ∧ zS σ ≤ 7219305 ∧
  ∀ o : Nat, zK σ o ≠ 0 → o ≠ 0 ∧ o < zN σ + 4 ∧ (o < 4 → zK σ o = 21) ∧ zat E σ o H
theorem zsum_same {b : Nat} {H H1 : Heap} (hs : H1.size = H.size) (h : ∀ q : Nat, (H1[q]?).map (fun (c : Cell) => c.slots.size) = (H[q]?).map (fun (c : Cell) => c.slots.size)) : zsum b H1 = zsum b H := by
  unfold zsum
  congr 1
  apply List.ext_getElem?
  intro i
  simp only [List.getElem?_map, List.getElem?_drop, Array.getElem?_toList]
  exact h (b + i)
theorem zpush {H H1 : Heap} {x : Cell} (hs : H1.size = H.size + 1) (h : ∀ q : Nat, q < H.size → H1[q]? = H[q]?) (hx : H1[H.size]? = some x) : H1.toList = H.toList ++ [x] := by
  apply List.ext_getElem?
  intro i
  rw [Array.getElem?_toList]
  by_cases h1 : i < H.size
  · rw [List.getElem?_append_left (by simpa using h1), h i h1, Array.getElem?_toList]
  · by_cases h2 : i = H.size
    · subst h2
      rw [hx, List.getElem?_append_right (by simp)]
      simp
    · rw [List.getElem?_append_right (by simp; omega), Array.getElem?_eq_none (by omega)]
      rw [List.getElem?_eq_none]
      simp; omega
theorem zsum_push {b : Nat} {H H1 : Heap} {x : Cell} (hb : b ≤ H.size) (hs : H1.size = H.size + 1) (h : ∀ q : Nat, q < H.size → H1[q]? = H[q]?) (hx : H1[H.size]? = some x) : zsum b H1 = zsum b H + x.slots.size := by
  unfold zsum
  rw [zpush hs h hx, List.drop_append_of_le_length (by simpa using hb)]
  simp
theorem zsum_split {b c : Nat} {H : Heap} (hbc : b ≤ c) : zsum b H = (((H.toList.drop b).take (c - b)).map (fun (c : Cell) => c.slots.size)).sum + zsum c H := by
  unfold zsum
  rw [← List.sum_append, ← List.map_append]
  congr 2
  have h : H.toList.drop c = (H.toList.drop b).drop (c - b) := by rw [List.drop_drop]; congr 1; omega
  rw [h, List.take_append_drop]
/-- the room that a walk has used, read off the heap itself -/
theorem z_tight {p : Program} {l : Launch} {e : Env} {R : Room} {s : State} {m : MethodId} {args : Array Value} {below : List Frame} {meth : Method} {c : Code} {H : Heap} {locs : List Loc} {cells slots : Nat} {Q : State → Prop} {g : JFrame} {E : zE} {σ0 σ : zW} {k n : Nat}
    (h0 : zRp E σ0 s.heap) (h : zRp E σ H) (hk : zN σ ≤ zN σ0 + k) (hn : zS σ ≤ zS σ0 + n) (kk : W p l e R s m args below meth c H locs k n Q g) : W p l e R s m args below meth c H locs cells slots Q g := by
  intro T hT X
  refine kk T hT { X with same := ?_ }
  obtain ⟨e1, e2, e3, e4, e5, e6⟩ := X.same
  have hh : (T.setVm s.vm).heap = H := hT
  rw [hh] at e2 e3 e5 e6
  refine ⟨e1, by rw [hh]; exact e2, ?_, e4, ?_, by rw [hh]; exact e6⟩
  · rw [hh, h.1, h0.1]; omega
  · rw [hh]
    show zsum s.heap.size H ≤ n
    have hb : zB E ≤ s.heap.size := by rw [h0.1]; omega
    have s1 := zsum_split (H := H) hb
    have s2 := zsum_split (H := s.heap) hb
    have s3 : zsum s.heap.size s.heap = 0 := by
      unfold zsum
      rw [List.drop_eq_nil_of_le (by simp)]
      rfl
    have s4 : ((H.toList.drop (zB E)).take (s.heap.size - zB E)).map (fun (c : Cell) => c.slots.size) = ((s.heap.toList.drop (zB E)).take (s.heap.size - zB E)).map (fun (c : Cell) => c.slots.size) := by
      apply List.ext_getElem?
      intro i
      simp only [List.getElem?_map, List.getElem?_take, List.getElem?_drop, Array.getElem?_toList]
      by_cases hi : i < s.heap.size - zB E
      · rw [if_pos hi, if_pos hi]
        have hl : zB E + i < s.heap.size := by omega
        obtain ⟨c', g1, -, g3, -⟩ := e6 (zB E + i) _ (Array.getElem?_eq_getElem hl)
        rw [g1, Array.getElem?_eq_getElem hl]
        simp [g3]
      · rw [if_neg hi, if_neg hi]
    rw [s4] at s1
    have h3 : zsum (zB E) H = zS σ := h.2.2.1
    have h4 : zsum (zB E) s.heap = zS σ0 := h0.2.2.1
    omega
