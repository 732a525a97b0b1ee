/-! ROWS (ARRAYS) -/
abbrev zix (i : Int32) (n : Nat) : Prop := 0 ≤ i ∧ i.toNatClampNeg < n
def zaI {α : Type} (σ : zW) (r : Nat) (i : Int32) (c : Int32 → Option α) : Option α := if (zK σ r = 20 ∨ zK σ r = 21) ∧ zix i (zL σ r) then c (zI σ r i.toNatClampNeg) else none
def zaC {α : Type} (σ : zW) (r : Nat) (i : Int32) (c : Int32 → Option α) : Option α := if zK σ r = 22 ∧ zix i (zL σ r) then c (zI σ r i.toNatClampNeg) else none
def zaL {α : Type} (σ : zW) (r : Nat) (i : Int32) (c : Int32 → Option α) : Option α := if zK σ r = 23 ∧ zix i (zL σ r) then c (zI σ r i.toNatClampNeg) else none
def zaD {α : Type} (σ : zW) (r : Nat) (i : Int32) (c : UInt64 → Option α) : Option α := if zK σ r = 24 ∧ zix i (zL σ r) then c (zD σ r) else none
def zaR {α : Type} (σ : zW) (κ r : Nat) (i : Int32) (c : Nat → Option α) : Option α := if zK σ r = κ ∧ zix i (zL σ r) then c (zR σ r i.toNatClampNeg) else none
def zlen {α : Type} (σ : zW) (r : Nat) (c : Int32 → Option α) : Option α := if zK σ r = 20 ∨ zK σ r = 21 then c (Int32.ofNat (zL σ r)) else none
def zsI {α : Type} (σ : zW) (r : Nat) (i v : Int32) (c : zW → Option α) : Option α := if zK σ r = 20 ∧ zix i (zL σ r) then c (stI σ r i.toNatClampNeg v) else none
def zsC {α : Type} (σ : zW) (r : Nat) (i v : Int32) (c : zW → Option α) : Option α := if zK σ r = 22 ∧ zix i (zL σ r) then c (stI σ r i.toNatClampNeg (vp_nar .char v)) else none
def zsL {α : Type} (σ : zW) (r : Nat) (i v : Int32) (c : zW → Option α) : Option α := if zK σ r = 23 ∧ zix i (zL σ r) then c (stI σ r i.toNatClampNeg v) else none
def zsD {α : Type} (σ : zW) (r : Nat) (i : Int32) (v : UInt64) (c : zW → Option α) : Option α := if (zK σ r = 24 ∧ zL σ r = 1) ∧ zix i (zL σ r) then c (stD σ r v) else none
def zsR {α : Type} (σ : zW) (κ r : Nat) (i : Int32) (v : Nat) (c : zW → Option α) : Option α := if (zK σ r = κ ∧ zK σ v + 22 = κ) ∧ zix i (zL σ r) then c (stR σ r i.toNatClampNeg v) else none
def zcp {α : Type} (σ : zW) (r0 : Nat) (sp : Int32) (r1 : Nat) (dp n : Int32) (c : zW → Option α) : Option α :=
  if ((zK σ r0 = 20 ∨ zK σ r0 = 21) ∧ zK σ r1 = 20) ∧ (0 ≤ sp ∧ 0 ≤ dp ∧ 0 ≤ n) ∧ sp.toNatClampNeg + n.toNatClampNeg ≤ zL σ r0 ∧ dp.toNatClampNeg + n.toNatClampNeg ≤ zL σ r1 then c (stA σ r1 (va_cpy (zI σ r0) (zI σ r1) sp.toNatClampNeg dp.toNatClampNeg n.toNatClampNeg)) else none
def zdv {α : Type} (y : Int32) (X : Option α) : Option α := if y = 0 then none else X
def zdl {α : Type} (y : Int64) (X : Option α) : Option α := if y = 0 then none else X
def zdd {α : Type} (x y : UInt64) (c : UInt64 → Option α) : Option α := if (FP.ddiv x y) &&& 0x7fffffffffffffff ≤ 0x7ff0000000000000 then c (FP.ddiv x y) else none
section ZA
variable {E : zE} {K : zC} {own : String} {cc : ByteArray} {nL h : Nat} {α : Type} {fin : α → zO} {X A B : Option α} {σ σ1 : zW} {pc : Nat} {lv : zLV} {st : List zV} {H H1 : Heap}
theorem zix_in {i : Int32} {n : Nat} (h : zix i n) : vp_in i n := by
  rintro (g | g)
  · exact Int32.not_lt.mpr h.1 g
  · exact absurd h.2 (Nat.not_lt.mpr g)
theorem zent_i {o : Nat} (h : zK σ o = 20 ∨ zK σ o = 21 ∨ zK σ o = 22) : zent E σ o = .inl (eC E (zK σ o), zL σ o, .inl (zI σ o)) := by
  unfold zent
  rcases h with h | h | h <;> rw [h] <;> rfl
theorem zent_l {o : Nat} (h : zK σ o = 23) : zent E σ o = .inl (eC E 23, zL σ o, .inr (.inl (fun j => (zI σ o j).toInt64))) := by
  unfold zent
  rw [h]
  rfl
theorem zent_d {o : Nat} (h : zK σ o = 24) : zent E σ o = .inl (eC E 24, zL σ o, .inr (.inr (.inr (.inl (fun _ => zD σ o))))) := by
  unfold zent
  rw [h]
  rfl
theorem zent_q {o : Nat} (h : 25 ≤ zK σ o) : zent E σ o = .inl (eC E (zK σ o), zL σ o, .inr (.inr (.inr (.inr (fun j => zro E (zR σ o j)))))) := by
  unfold zent
  rw [if_neg (by omega), if_neg (by omega), if_neg (by omega), if_pos h]
/-- a row of ints, its own or one that was there before -/
theorem zsrc (hk : zk E K own cc nL h) {r : Nat} (hR : zRp E σ H) (hc : zK σ r = 20 ∨ zK σ r = 21) : ∃ scr : Cell, H[eA E r]? = some scr ∧ (cS K).isArrayOf scr .int ∧ scr.vm ≠ .unknown ∧ zL σ r ≤ scr.slots.size ∧ scr.slots.size.toInt32 = Int32.ofNat (zL σ r) ∧ ∀ j : Nat, j < zL σ r → scr.slots[j]? = some (.int (zI σ r j)) := by
  have h0 : zK σ r ≠ 0 := by rcases hc with e | e <;> rw [e] <;> decide
  rcases hc with e | e
  · have hP := zR_at hR h0 (by rw [e]; decide)
    rw [zent_i (by simp [e]), e] at hP
    refine ⟨_, hP 0 _ rfl, ((zK_of hk).2 0 _ rfl).1 _ _, (fun h => by cases h), ?_, ?_, fun j hj => ?_⟩
    · show _ ≤ (arrV _ _ _).slots.size
      rw [arrV_size]
      exact Nat.le_refl _
    · show (arrV _ _ _).slots.size.toInt32 = _
      rw [arrV_size]
    · exact arrV_read _ _ hj
  · obtain ⟨scr, g1, g2, g3, g4, g5, g6, -⟩ := ((zR_ob hR h0).2.2.2.x e).moved hk.2.2.2.2.2.1.alike
    exact ⟨scr, g1, g2, g3, g4, g5, g6⟩
theorem z_aI (hk : zk E K own cc nL h) {r : Nat} {i : Int32} {c : Int32 → Option α} (hd : decode cc pc = .ok (.iaload, 1)) (kk : ∀ x, zG E K fin (c x) σ (pc + 1) lv (.inl x :: st)) : zG E K fin (zaI σ r i c) σ pc lv (.inl i :: .inr (.inl r) :: st) := by
  intro hX w1 w2 w3 H locs ls hR ho hh
  unfold zaI at hX
  split at hX
  · next hc =>
    have h0 : zK σ r ≠ 0 := by rcases hc.1 with e | e <;> rw [e] <;> decide
    obtain ⟨scr, g1, g2, g3, g4, -, g5⟩ := zsrc hk hR hc.1
    show zWw E K H locs _ _ (F0 _ _ _ (.int i :: zrv E r :: _))
    rw [zrv_ref (zR_ob hR h0).1]
    have hlt : i.toNatClampNeg < zL σ r := hc.2.2
    exact W.iald (v := .int (zI σ r i.toNatClampNeg)) hk.1 hk.2.1 g1 g2 g3 (by rintro (q | q); exact zix_in hc.2 (Or.inl q); omega) (g5 _ hlt) rfl rfl hd (kk _ hX w1 w2 w3 H locs ls hR ho hh)
  · exact z_none hX
theorem z_aC (hk : zk E K own cc nL h) {r : Nat} {i : Int32} {c : Int32 → Option α} (hd : decode cc pc = .ok (.caload, 1)) (kk : ∀ x, zG E K fin (c x) σ (pc + 1) lv (.inl x :: st)) : zG E K fin (zaC σ r i c) σ pc lv (.inl i :: .inr (.inl r) :: st) := by
  intro hX w1 w2 w3 H locs ls hR ho hh
  unfold zaC at hX
  split at hX
  · next hc =>
    have h0 : zK σ r ≠ 0 := by rw [hc.1]; decide
    have hP := zR_at hR h0 (by rw [hc.1]; decide)
    rw [zent_i (by simp [hc.1]), hc.1] at hP
    show zWw E K H locs _ _ (F0 _ _ _ (.int i :: zrv E r :: _))
    rw [zrv_ref (zR_ob hR h0).1]
    exact va_cald hk.1 hk.2.1 (zK_of hk) hP 0 1 rfl rfl (zix_in hc.2) hd (kk _ hX w1 w2 w3 H locs ls hR ho hh)
  · exact z_none hX
theorem z_aL (hk : zk E K own cc nL h) {r : Nat} {i : Int32} {c : Int32 → Option α} (hd : decode cc pc = .ok (.laload, 1)) (kk : ∀ x : Int32, zG E K fin (c x) σ (pc + 1) lv (.inr (.inr (.inl x.toInt64)) :: st)) : zG E K fin (zaL σ r i c) σ pc lv (.inl i :: .inr (.inl r) :: st) := by
  intro hX w1 w2 w3 H locs ls hR ho hh
  unfold zaL at hX
  split at hX
  · next hc =>
    have h0 : zK σ r ≠ 0 := by rw [hc.1]; decide
    have hP := zR_at hR h0 (by rw [hc.1]; decide)
    rw [zent_l hc.1] at hP
    show zWw E K H locs _ _ (F0 _ _ _ (.int i :: zrv E r :: _))
    rw [zrv_ref (zR_ob hR h0).1]
    exact va_lald hk.1 hk.2.1 (zK_of hk) hP 0 2 rfl rfl (zix_in hc.2) hd (kk _ hX w1 w2 w3 H locs ls hR ho hh)
  · exact z_none hX
theorem z_aD (hk : zk E K own cc nL h) {r : Nat} {i : Int32} {c : UInt64 → Option α} (hd : decode cc pc = .ok (.daload, 1)) (kk : ∀ x, zG E K fin (c x) σ (pc + 1) lv (.inr (.inr (.inr (.inl x))) :: st)) : zG E K fin (zaD σ r i c) σ pc lv (.inl i :: .inr (.inl r) :: st) := by
  intro hX w1 w2 w3 H locs ls hR ho hh
  unfold zaD at hX
  split at hX
  · next hc =>
    have h0 : zK σ r ≠ 0 := by rw [hc.1]; decide
    have hP := zR_at hR h0 (by rw [hc.1]; decide)
    rw [zent_d hc.1] at hP
    show zWw E K H locs _ _ (F0 _ _ _ (.int i :: zrv E r :: _))
    rw [zrv_ref (zR_ob hR h0).1]
    exact va_dald hk.1 hk.2.1 (zK_of hk) hP 0 3 rfl rfl (zix_in hc.2) hd (kk _ hX w1 w2 w3 H locs ls hR ho hh)
  · exact z_none hX
theorem z_aR (hk : zk E K own cc nL h) {κ : Nat} (hκ : κ = 25 ∨ κ = 26) {r : Nat} {i : Int32} {c : Nat → Option α} (hd : decode cc pc = .ok (.aaload, 1)) (kk : ∀ x, zG E K fin (c x) σ (pc + 1) lv (.inr (.inl x) :: st)) : zG E K fin (zaR σ κ r i c) σ pc lv (.inl i :: .inr (.inl r) :: st) := by
  intro hX w1 w2 w3 H locs ls hR ho hh
  unfold zaR at hX
  split at hX
  · next hc =>
    have h0 : zK σ r ≠ 0 := by rw [hc.1]; omega
    have hP := zR_at hR h0 (by rw [hc.1]; omega)
    rw [zent_q (by rw [hc.1]; omega), hc.1] at hP
    show zWw E K H locs _ _ (F0 _ _ _ (.int i :: zrv E r :: _))
    rw [zrv_ref (zR_ob hR h0).1]
    rcases hκ with e | e
    · subst e
      exact va_aldq hk.1 hk.2.1 (zK_of hk) hP 0 4 rfl rfl (zix_in hc.2) hd (kk _ hX w1 w2 w3 H locs ls hR ho hh)
    · subst e
      exact va_aldq hk.1 hk.2.1 (zK_of hk) hP 0 5 rfl rfl (zix_in hc.2) hd (kk _ hX w1 w2 w3 H locs ls hR ho hh)
  · exact z_none hX
theorem z_len (hk : zk E K own cc nL h) {r : Nat} {c : Int32 → Option α} (hd : decode cc pc = .ok (.arraylength, 1)) (kk : ∀ x, zG E K fin (c x) σ (pc + 1) lv (.inl x :: st)) : zG E K fin (zlen σ r c) σ pc lv (.inr (.inl r) :: st) := by
  intro hX w1 w2 w3 H locs ls hR ho hh
  unfold zlen at hX
  split at hX
  · next hc =>
    have h0 : zK σ r ≠ 0 := by rcases hc with e | e <;> rw [e] <;> decide
    obtain ⟨scr, g1, g2, -, -, g4, -⟩ := zsrc hk hR hc
    show zWw E K H locs _ _ (F0 _ _ _ (zrv E r :: _))
    rw [zrv_ref (zR_ob hR h0).1]
    exact W.alen (n := Int32.ofNat (zL σ r)) hk.1 hk.2.1 g1 g2 g4 rfl rfl hd (kk _ hX w1 w2 w3 H locs ls hR ho hh)
  · exact z_none hX
theorem zlocs {hF : zFx E} {hR : zRp E σ H} {locs : List Loc} {r j : Nat} (ho : ∀ q ∈ locs, zB E ≤ q.base) (h0 : zK σ r ≠ 0) (h21 : zK σ r ≠ 21) : ∀ q ∈ locs ++ [(⟨eA E r, j⟩ : Loc)], zB E ≤ q.base := by
  intro z hz
  rcases List.mem_append.mp hz with h | h
  · exact ho z h
  · rw [List.mem_singleton.mp h]
    exact zA_new hF hR h0 h21
theorem z_sI (hk : zk E K own cc nL h) {r : Nat} {i v : Int32} {c : zW → Option α} (hd : decode cc pc = .ok (.iastore, 1)) (kk : ∀ σ1, zG E K fin (c σ1) σ1 (pc + 1) lv st) : zG E K fin (zsI σ r i v c) σ pc lv (.inl v :: .inl i :: .inr (.inl r) :: st) := by
  intro hX w1 w2 w3 H locs ls hR ho hh
  unfold zsI at hX
  split at hX
  · next hc =>
    have h0 : zK σ r ≠ 0 := by rw [hc.1]; decide
    have h21 : zK σ r ≠ 21 := by rw [hc.1]; decide
    have hP := zR_at hR h0 h21
    rw [zent_i (by simp [hc.1]), hc.1] at hP
    show zWw E K H locs _ _ (F0 _ _ _ (.int v :: .int i :: zrv E r :: _))
    rw [zrv_ref (zR_ob hR h0).1]
    refine W.iast hk.1 hk.2.1 (hP 0 _ rfl) (((zK_of hk).2 0 _ rfl).1 (zL σ r) (fun j => .int (zI σ r j))) (fun q => by cases q) (by show ¬ (i < 0 ∨ (arrV _ _ _).slots.size ≤ _); rw [arrV_size]; exact zix_in hc.2) rfl rfl hd fun H1 e z oq => ?_
    refine kk _ hX w1 w2 w3 H1 _ ls (zRp_upd (zk_F hk) hR h0 h21 rfl rfl rfl (fun o' h => zent_stI h) z oq ?_ ?_) (zlocs (hF := zk_F hk) (hR := hR) ho h0 h21) hh
    · have e0 : H[eA E r]? = some (vp_cell _ _) := hP 0 _ rfl
      rw [e, e0]
      simp [zset_size]
    · rw [zent_i (σ := stI σ r i.toNatClampNeg v) (by left; exact hc.1), show zK (stI σ r i.toNatClampNeg v) r = 20 from hc.1]
      show H1[eA E r]? = some (vp_cell _ _)
      rw [e, vp_cell_i, vp_cell_i, arrV_store]
      congr 2
      funext q
      by_cases hq : q = i.toNatClampNeg
      · subst hq
        simp [updV, stI, zI, va_up]
      · simp [updV, stI, zI, va_up, hq]
  · exact z_none hX
theorem z_sC (hk : zk E K own cc nL h) {r : Nat} {i v : Int32} {c : zW → Option α} (hd : decode cc pc = .ok (.castore, 1)) (kk : ∀ σ1, zG E K fin (c σ1) σ1 (pc + 1) lv st) : zG E K fin (zsC σ r i v c) σ pc lv (.inl v :: .inl i :: .inr (.inl r) :: st) := by
  intro hX w1 w2 w3 H locs ls hR ho hh
  unfold zsC at hX
  split at hX
  · next hc =>
    have h0 : zK σ r ≠ 0 := by rw [hc.1]; decide
    have h21 : zK σ r ≠ 21 := by rw [hc.1]; decide
    have hP := zR_at hR h0 h21
    rw [zent_i (by simp [hc.1]), hc.1] at hP
    show zWw E K H locs _ _ (F0 _ _ _ (.int v :: .int i :: zrv E r :: _))
    rw [zrv_ref (zR_ob hR h0).1]
    refine W.cast hk.1 hk.2.1 (hP 0 _ rfl) (((zK_of hk).2 1 _ rfl).1 (zL σ r) (fun j => .int (zI σ r j))) (fun q => by cases q) (by show ¬ (i < 0 ∨ (arrV _ _ _).slots.size ≤ _); rw [arrV_size]; exact zix_in hc.2) rfl rfl hd fun H1 e z oq => ?_
    refine kk _ hX w1 w2 w3 H1 _ ls (zRp_upd (zk_F hk) hR h0 h21 rfl rfl rfl (fun o' h => zent_stI h) z oq ?_ ?_) (zlocs (hF := zk_F hk) (hR := hR) ho h0 h21) hh
    · have e0 : H[eA E r]? = some (vp_cell _ _) := hP 0 _ rfl
      rw [e, e0]
      simp [zset_size]
    · rw [zent_i (σ := stI σ r i.toNatClampNeg (vp_nar .char v)) (by right; right; exact hc.1), show zK (stI σ r i.toNatClampNeg (vp_nar .char v)) r = 22 from hc.1]
      show H1[eA E r]? = some (vp_cell _ _)
      rw [e, vp_cell_i, vp_cell_i, arrV_store]
      congr 2
      funext q
      by_cases hq : q = i.toNatClampNeg
      · subst hq
        simp [updV, stI, zI, va_up, vp_nar]
        rfl
      · simp [updV, stI, zI, va_up, hq]
  · exact z_none hX
theorem z_sL (hk : zk E K own cc nL h) {r : Nat} {i v : Int32} {c : zW → Option α} (hd : decode cc pc = .ok (.lastore, 1)) (kk : ∀ σ1, zG E K fin (c σ1) σ1 (pc + 1) lv st) : zG E K fin (zsL σ r i v c) σ pc lv (.inr (.inr (.inl v.toInt64)) :: .inl i :: .inr (.inl r) :: st) := by
  intro hX w1 w2 w3 H locs ls hR ho hh
  unfold zsL at hX
  split at hX
  · next hc =>
    have h0 : zK σ r ≠ 0 := by rw [hc.1]; decide
    have h21 : zK σ r ≠ 21 := by rw [hc.1]; decide
    have hP := zR_at hR h0 h21
    rw [zent_l hc.1] at hP
    show zWw E K H locs _ _ (F0 _ _ _ (.long v.toInt64 :: .int i :: zrv E r :: _))
    rw [zrv_ref (zR_ob hR h0).1]
    refine W.last hk.1 hk.2.1 (hP 0 _ rfl) (((zK_of hk).2 2 _ rfl).1 (zL σ r) (fun j => .long (zI σ r j).toInt64)) (fun q => by cases q) (by show ¬ (i < 0 ∨ (arrV _ _ _).slots.size ≤ _); rw [arrV_size]; exact zix_in hc.2) rfl rfl hd fun H1 e z oq => ?_
    refine kk _ hX w1 w2 w3 H1 _ ls (zRp_upd (zk_F hk) hR h0 h21 rfl rfl rfl (fun o' h => zent_stI h) z oq ?_ ?_) (zlocs (hF := zk_F hk) (hR := hR) ho h0 h21) hh
    · have e0 : H[eA E r]? = some (vp_cell _ _) := hP 0 _ rfl
      rw [e, e0]
      simp [zset_size]
    · rw [zent_l (σ := stI σ r i.toNatClampNeg v) hc.1]
      show H1[eA E r]? = some (vp_cell _ _)
      rw [e, vp_cell_l, vp_cell_l, arrV_store]
      congr 2
      funext q
      by_cases hq : q = i.toNatClampNeg
      · subst hq
        simp [updV, stI, zI, va_up]
      · simp [updV, stI, zI, va_up, hq]
  · exact z_none hX
theorem z_sD (hk : zk E K own cc nL h) {r : Nat} {i : Int32} {v : UInt64} {c : zW → Option α} (hd : decode cc pc = .ok (.dastore, 1)) (kk : ∀ σ1, zG E K fin (c σ1) σ1 (pc + 1) lv st) : zG E K fin (zsD σ r i v c) σ pc lv (.inr (.inr (.inr (.inl v))) :: .inl i :: .inr (.inl r) :: st) := by
  intro hX w1 w2 w3 H locs ls hR ho hh
  unfold zsD at hX
  split at hX
  · next hc =>
    obtain ⟨⟨hc1, hL1⟩, hc2⟩ := hc
    have h0 : zK σ r ≠ 0 := by rw [hc1]; decide
    have h21 : zK σ r ≠ 21 := by rw [hc1]; decide
    have hP := zR_at hR h0 h21
    rw [zent_d hc1] at hP
    show zWw E K H locs _ _ (F0 _ _ _ (.double v :: .int i :: zrv E r :: _))
    rw [zrv_ref (zR_ob hR h0).1]
    refine W.dast hk.1 hk.2.1 (hP 0 _ rfl) (((zK_of hk).2 3 _ rfl).1 (zL σ r) (fun j => .double (zD σ r))) (fun q => by cases q) (by show ¬ (i < 0 ∨ (arrV _ _ _).slots.size ≤ _); rw [arrV_size]; exact zix_in hc2) rfl rfl hd fun H1 e z oq => ?_
    refine kk _ hX w1 w2 w3 H1 _ ls (zRp_upd (zk_F hk) hR h0 h21 rfl rfl rfl (fun o' h => zent_stD h) z oq ?_ ?_) (zlocs (hF := zk_F hk) (hR := hR) ho h0 h21) hh
    · have e0 : H[eA E r]? = some (vp_cell _ _) := hP 0 _ rfl
      rw [e, e0]
      simp [zset_size]
    · rw [zent_d (σ := stD σ r v) hc1]
      show H1[eA E r]? = some (vp_cell _ _)
      rw [e, vp_cell_d, vp_cell_d, arrV_store, show zL (stD σ r v) r = zL σ r from rfl]
      have hi : i.toNatClampNeg = 0 := by have := hc2.2; omega
      rw [hi, hL1]
      simp only [arrV, updV]
      congr 2
      simp [stD, zD, va_up]
  · exact z_none hX
theorem z_sR (hk : zk E K own cc nL h) {κ : Nat} (hκ : κ = 25 ∨ κ = 26) {r v : Nat} {i : Int32} {c : zW → Option α} (hd : decode cc pc = .ok (.aastore, 1)) (kk : ∀ σ1, zG E K fin (c σ1) σ1 (pc + 1) lv st) : zG E K fin (zsR σ κ r i v c) σ pc lv (.inr (.inl v) :: .inl i :: .inr (.inl r) :: st) := by
  intro hX w1 w2 w3 H locs ls hR ho hh
  unfold zsR at hX
  split at hX
  · next hc =>
    obtain ⟨⟨hc1, hv1⟩, hc2⟩ := hc
    have h0 : zK σ r ≠ 0 := by rw [hc1]; omega
    have h21 : zK σ r ≠ 21 := by rw [hc1]; omega
    have h0v : zK σ v ≠ 0 := by omega
    have hP := zR_at hR h0 h21
    rw [zent_q (by rw [hc1]; omega), hc1] at hP
    have hPv := zR_at hR h0v (by omega)
    have hlt : i.toNatClampNeg < zL σ r := hc2.2
    obtain ⟨ci, q, cn, hci, hq, hty, hlt9⟩ : ∃ (ci : Nat) (q : vw_C) (tn : Nat), zK σ v = ci + 1 ∧ zcl[ci]? = some q ∧ (zty E)[tn]? = some (eC E κ, .object q.1) ∧ ci < 9 := by
      rcases hκ with e | e
      · exact ⟨2, _, 4, by omega, rfl, by rw [e]; rfl, by decide⟩
      · exact ⟨3, _, 5, by omega, rfl, by rw [e]; rfl, by decide⟩
    rw [zent_ob hci hlt9] at hPv
    show zWw E K H locs _ _ (F0 _ _ _ (zrv E v :: .int i :: zrv E r :: _))
    rw [zrv_ref (zR_ob hR h0).1, zrv_ref (zR_ob hR h0v).1]
    obtain ⟨r', hr', cellV, g1, g2, g3, -⟩ := hPv 0 _ rfl
    have hKK := zK_of hk
    have hcls := (hKK.1 ci q hq).2
    obtain ⟨kA, comp, k1, k2, k3, -⟩ := (hKK.2 cn _ hty).2
    have hcomp : comp = (eD E).1 ci := Option.some.inj (k3.symm.trans hcls.1)
    subst hcomp
    obtain ⟨kC, hkC, -⟩ := id hcls.2
    refine W.aast hk.1 hk.2.1 (hP 0 _ rfl) (fun q h => by cases h) (fun h => by cases h) k1 k2 rfl hkC ⟨Int32.not_lt.mpr hc2.1, by show _ < (arrV _ _ _).slots.size; rw [arrV_size]; exact hlt⟩ g1 (fun q h => by rw [g3] at h; cases h) (by rw [g2]; exact hkC) (by rw [g2]; exact va_assign hcls) rfl rfl hd fun H1 e z oq => ?_
    refine kk _ hX w1 w2 w3 H1 _ ls (zRp_upd (zk_F hk) hR h0 h21 rfl rfl rfl (fun o' h => zent_stR h) z oq ?_ ?_) (zlocs (hF := zk_F hk) (hR := hR) ho h0 h21) hh
    · have e0 : H[eA E r]? = some (vp_cell _ _) := hP 0 _ rfl
      rw [e, e0]
      simp [zset_size]
    · rw [zent_q (σ := stR σ r i.toNatClampNeg v) (by show 25 ≤ zK σ r; rw [hc1]; omega), show zK (stR σ r i.toNatClampNeg v) r = κ from hc1]
      show H1[eA E r]? = some (vp_cell _ _)
      rw [e, vp_cell_q, vp_cell_q, arrV_store]
      congr 2
      funext q
      by_cases hq : q = i.toNatClampNeg
      · subst hq
        simp only [updV, if_true]
        have : zR (stR σ r i.toNatClampNeg v) r i.toNatClampNeg = v := by simp [stR, zR, va_up]
        rw [this, ← zrv_ref (zR_ob hR h0v).1]
        rfl
      · have : zR (stR σ r i.toNatClampNeg v) r q = zR σ r q := by simp [stR, zR, va_up, hq]
        simp only [updV, if_neg hq, this]
  · exact z_none hX
end ZA
