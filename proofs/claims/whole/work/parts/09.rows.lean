/-! BRANCHES AND FIELDS -/
def znth : List jI → Nat → Option jI
  | [], _ => none
  | a :: _, 0 => some a
  | _ :: t, k + 1 => znth t k
theorem znth_mem : ∀ (l : List jI) (i : Nat) (r : jI), znth l i = some r → r ∈ l
  | [], _, _, h => by cases h
  | a :: t, 0, r, h => by
    have h1 : some a = some r := h
    cases h1
    exact List.mem_cons_self
  | a :: t, i + 1, r, h => List.mem_cons_of_mem _ (znth_mem t i r h)
theorem z_row {cc : ByteArray} {l : List jI} (hb : jD cc l = true) (i : Nat) {pc len : Nat} {ins : Instr} (h : znth l i = some (pc, ins, len)) : decode cc pc = .ok (ins, len) := z_hd (r := (pc, ins, len)) hb (znth_mem l i _ h)
/-- the classes' field types -/
def ztyp : Nat → Nat → FieldType
  | 0 => tyX0
  | 1 => tyX1
  | 2 => tyX2
  | 3 => tyX3
  | 4 => tyX4
  | 5 => tyX5
  | 6 => tyX6
  | 7 => tyX7
  | _ => tyX8
theorem zlays : ∀ ci : Nat, ∀ q : vw_C, zcl[ci]? = some q → GoodIn lw_tbl (u_ws q.1 q.2.1 q.2.2) := by
  intro ci q hq
  match ci, hq with
  | 0, hq => cases hq; exact zlays_0
  | 1, hq => cases hq; exact zlays_1
  | 2, hq => cases hq; exact zlays_2
  | 3, hq => cases hq; exact zlays_3
  | 4, hq => cases hq; exact zlays_4
  | 5, hq => cases hq; exact zlays_5
  | 6, hq => cases hq; exact zlays_6
  | 7, hq => cases hq; exact zlays_7
  | 8, hq => cases hq; exact zlays_8
  | n + 9, hq => simp at hq
theorem ztyp_ok : ∀ ci : Nat, ∀ q : vw_C, zcl[ci]? = some q → (∀ k, k < q.2.2 → parseFieldDescriptor (q.2.1 k).2.2.1 = some (ztyp ci k)) ∧ (∀ a, a < q.2.2 → ∀ b, b < q.2.2 → a ≠ b → (q.2.1 a).2.1 ≠ (q.2.1 b).2.1) ∧ (zft (ci + 1)).length = q.2.2 := by
  intro ci q hq
  match ci, hq with
  | 0, hq => cases hq; exact ⟨tyX0_ok, nmX0, rfl⟩
  | 1, hq => cases hq; exact ⟨tyX1_ok, nmX1, rfl⟩
  | 2, hq => cases hq; exact ⟨tyX2_ok, nmX2, rfl⟩
  | 3, hq => cases hq; exact ⟨tyX3_ok, nmX3, rfl⟩
  | 4, hq => cases hq; exact ⟨tyX4_ok, nmX4, rfl⟩
  | 5, hq => cases hq; exact ⟨tyX5_ok, nmX5, rfl⟩
  | 6, hq => cases hq; exact ⟨tyX6_ok, nmX6, rfl⟩
  | 7, hq => cases hq; exact ⟨tyX7_ok, nmX7, rfl⟩
  | 8, hq => cases hq; exact ⟨tyX8_ok, nmX8, rfl⟩
  | n + 9, hq => simp at hq
section ZB
variable {E : zE} {K : zC} {own : String} {cc : ByteArray} {nL h : Nat} {α : Type} {fin : α → zO} {X A B : Option α} {σ : zW} {pc : Nat} {lv : zLV} {st : List zV}
theorem zk_F (hk : zk E K own cc nL h) : zFx E := hk.2.2.2.2.2.2.1
/-- a word of the tables -/
theorem z_wordg {s : State} {w : Cond} (hF : zFx E) (hW : (eS E).WarmedH s.vm) (hm : w ∈ lw_tbl ∧ ((w.onTables && w.keeps) = true ∨ ∃ ty, w = .arrayClass ty)) (args : Array Value) : w.before args s = true :=
  word_at hW hm.2 (hF.2.1 w hm.1)
theorem z_word {s : State} {w : Cond} (hF : zFx E) (hW : (eS E).WarmedH s.vm) (hm : w ∈ lw_tbl) (hg : goodWord w = true) (args : Array Value) : w.before args s = true :=
  word_at hW (good_of_word hg) (hF.2.1 w hm)
theorem zw (hk : zk E K own cc nL h) {w : Cond} (hm : w ∈ lw_tbl) (hg : goodWord w = true) : w.before (cA K) (cS K) = true := z_word (zk_F hk) hk.2.2.2.2.2.1 hm hg _
theorem zK_of (hk : zk E K own cc nL h) : va_K (eD E) zcl (zty E) (cS K) := va_K.moved hk.2.2.2.2.2.1.alike (zk_F hk).2.2.1
theorem zl_of (hk : zk E K own cc nL h) {ci : Nat} {q : vw_C} (hc : zcl[ci]? = some q) : ∀ w ∈ u_ws q.1 q.2.1 q.2.2, w.before (cA K) (cS K) = true :=
  fun w hw => z_wordg (zk_F hk) hk.2.2.2.2.2.1 (zlays ci q hc w hw) _
theorem z_ite {c : Prop} [d : Decidable c] {P Q : Prop} (ht : c → (∃ o, A = some o ∧ fin o = cO K) → P) (hf : ¬ c → (∃ o, B = some o ∧ fin o = cO K) → P) (h : ∃ o, (if c then A else B) = some o ∧ fin o = cO K) : P := by
  by_cases hc : c
  · rw [if_pos hc] at h; exact ht hc h
  · rw [if_neg hc] at h; exact hf hc h
theorem z_eq (hk : zk E K own cc nL h) {x : Int32} {off : Int} {tgt : Nat} (hd : decode cc pc = .ok (.ifCond .eq off, 3)) (ht : (pc : Int) + off = (tgt : Int)) (kt : zG E K fin A σ tgt lv st) (kf : zG E K fin B σ (pc + 3) lv st) : zG E K fin (if x = 0 then A else B) σ pc lv (.inl x :: st) := by
  intro hX w1 w2 w3 H locs ls hR ho hh
  exact lv_if_eq hk.1 hk.2.1 hd ht (fun hc => kt (by rw [if_pos hc] at hX; exact hX) w1 w2 w3 H locs ls hR ho hh) (fun hc => kf (by rw [if_neg hc] at hX; exact hX) w1 w2 w3 H locs ls hR ho hh)
theorem z_ne (hk : zk E K own cc nL h) {x : Int32} {off : Int} {tgt : Nat} (hd : decode cc pc = .ok (.ifCond .ne off, 3)) (ht : (pc : Int) + off = (tgt : Int)) (kt : zG E K fin A σ tgt lv st) (kf : zG E K fin B σ (pc + 3) lv st) : zG E K fin (if x = 0 then B else A) σ pc lv (.inl x :: st) := by
  intro hX w1 w2 w3 H locs ls hR ho hh
  exact lv_if_ne hk.1 hk.2.1 hd ht (fun hc => kt (by rw [if_neg hc] at hX; exact hX) w1 w2 w3 H locs ls hR ho hh) (fun hc => kf (by rw [if_pos (by first | exact hc | exact Decidable.not_not.mp hc)] at hX; exact hX) w1 w2 w3 H locs ls hR ho hh)
theorem z_lt (hk : zk E K own cc nL h) {x : Int32} {off : Int} {tgt : Nat} (hd : decode cc pc = .ok (.ifCond .lt off, 3)) (ht : (pc : Int) + off = (tgt : Int)) (kt : zG E K fin A σ tgt lv st) (kf : zG E K fin B σ (pc + 3) lv st) : zG E K fin (if x < 0 then A else B) σ pc lv (.inl x :: st) := by
  intro hX w1 w2 w3 H locs ls hR ho hh
  exact lv_if_lt hk.1 hk.2.1 hd ht (fun hc => kt (by rw [if_pos hc] at hX; exact hX) w1 w2 w3 H locs ls hR ho hh) (fun hc => kf (by rw [if_neg hc] at hX; exact hX) w1 w2 w3 H locs ls hR ho hh)
theorem z_ge (hk : zk E K own cc nL h) {x : Int32} {off : Int} {tgt : Nat} (hd : decode cc pc = .ok (.ifCond .ge off, 3)) (ht : (pc : Int) + off = (tgt : Int)) (kt : zG E K fin A σ tgt lv st) (kf : zG E K fin B σ (pc + 3) lv st) : zG E K fin (if x < 0 then B else A) σ pc lv (.inl x :: st) := by
  intro hX w1 w2 w3 H locs ls hR ho hh
  exact lv_if_ge hk.1 hk.2.1 hd ht (fun hc => kt (by rw [if_neg (Int32.not_lt.mpr hc)] at hX; exact hX) w1 w2 w3 H locs ls hR ho hh) (fun hc => kf (by rw [if_pos (Int32.not_le.mp hc)] at hX; exact hX) w1 w2 w3 H locs ls hR ho hh)
theorem z_gt (hk : zk E K own cc nL h) {x : Int32} {off : Int} {tgt : Nat} (hd : decode cc pc = .ok (.ifCond .gt off, 3)) (ht : (pc : Int) + off = (tgt : Int)) (kt : zG E K fin A σ tgt lv st) (kf : zG E K fin B σ (pc + 3) lv st) : zG E K fin (if 0 < x then A else B) σ pc lv (.inl x :: st) := by
  intro hX w1 w2 w3 H locs ls hR ho hh
  exact lv_if_gt hk.1 hk.2.1 hd ht (fun hc => kt (by rw [if_pos hc] at hX; exact hX) w1 w2 w3 H locs ls hR ho hh) (fun hc => kf (by rw [if_neg hc] at hX; exact hX) w1 w2 w3 H locs ls hR ho hh)
theorem z_le (hk : zk E K own cc nL h) {x : Int32} {off : Int} {tgt : Nat} (hd : decode cc pc = .ok (.ifCond .le off, 3)) (ht : (pc : Int) + off = (tgt : Int)) (kt : zG E K fin A σ tgt lv st) (kf : zG E K fin B σ (pc + 3) lv st) : zG E K fin (if 0 < x then B else A) σ pc lv (.inl x :: st) := by
  intro hX w1 w2 w3 H locs ls hR ho hh
  exact lv_if_le hk.1 hk.2.1 hd ht (fun hc => kt (by rw [if_neg (Int32.not_lt.mpr hc)] at hX; exact hX) w1 w2 w3 H locs ls hR ho hh) (fun hc => kf (by rw [if_pos (Int32.not_le.mp hc)] at hX; exact hX) w1 w2 w3 H locs ls hR ho hh)
theorem z_ceq (hk : zk E K own cc nL h) {x y : Int32} {off : Int} {tgt : Nat} (hd : decode cc pc = .ok (.if_icmp .eq off, 3)) (ht : (pc : Int) + off = (tgt : Int)) (kt : zG E K fin A σ tgt lv st) (kf : zG E K fin B σ (pc + 3) lv st) : zG E K fin (if x = y then A else B) σ pc lv (.inl y :: .inl x :: st) := by
  intro hX w1 w2 w3 H locs ls hR ho hh
  exact lv_icmp_eq hk.1 hk.2.1 hd ht (fun hc => kt (by rw [if_pos hc] at hX; exact hX) w1 w2 w3 H locs ls hR ho hh) (fun hc => kf (by rw [if_neg hc] at hX; exact hX) w1 w2 w3 H locs ls hR ho hh)
theorem z_cne (hk : zk E K own cc nL h) {x y : Int32} {off : Int} {tgt : Nat} (hd : decode cc pc = .ok (.if_icmp .ne off, 3)) (ht : (pc : Int) + off = (tgt : Int)) (kt : zG E K fin A σ tgt lv st) (kf : zG E K fin B σ (pc + 3) lv st) : zG E K fin (if x = y then B else A) σ pc lv (.inl y :: .inl x :: st) := by
  intro hX w1 w2 w3 H locs ls hR ho hh
  exact lv_icmp_ne hk.1 hk.2.1 hd ht (fun hc => kt (by rw [if_neg hc] at hX; exact hX) w1 w2 w3 H locs ls hR ho hh) (fun hc => kf (by rw [if_pos (by first | exact hc | exact Decidable.not_not.mp hc)] at hX; exact hX) w1 w2 w3 H locs ls hR ho hh)
theorem z_clt (hk : zk E K own cc nL h) {x y : Int32} {off : Int} {tgt : Nat} (hd : decode cc pc = .ok (.if_icmp .lt off, 3)) (ht : (pc : Int) + off = (tgt : Int)) (kt : zG E K fin A σ tgt lv st) (kf : zG E K fin B σ (pc + 3) lv st) : zG E K fin (if x < y then A else B) σ pc lv (.inl y :: .inl x :: st) := by
  intro hX w1 w2 w3 H locs ls hR ho hh
  exact lv_icmp_lt hk.1 hk.2.1 hd ht (fun hc => kt (by rw [if_pos hc] at hX; exact hX) w1 w2 w3 H locs ls hR ho hh) (fun hc => kf (by rw [if_neg hc] at hX; exact hX) w1 w2 w3 H locs ls hR ho hh)
theorem z_cge (hk : zk E K own cc nL h) {x y : Int32} {off : Int} {tgt : Nat} (hd : decode cc pc = .ok (.if_icmp .ge off, 3)) (ht : (pc : Int) + off = (tgt : Int)) (kt : zG E K fin A σ tgt lv st) (kf : zG E K fin B σ (pc + 3) lv st) : zG E K fin (if x < y then B else A) σ pc lv (.inl y :: .inl x :: st) := by
  intro hX w1 w2 w3 H locs ls hR ho hh
  exact lv_icmp_ge hk.1 hk.2.1 hd ht (fun hc => kt (by rw [if_neg (Int32.not_lt.mpr hc)] at hX; exact hX) w1 w2 w3 H locs ls hR ho hh) (fun hc => kf (by rw [if_pos (Int32.not_le.mp hc)] at hX; exact hX) w1 w2 w3 H locs ls hR ho hh)
theorem z_cgt (hk : zk E K own cc nL h) {x y : Int32} {off : Int} {tgt : Nat} (hd : decode cc pc = .ok (.if_icmp .gt off, 3)) (ht : (pc : Int) + off = (tgt : Int)) (kt : zG E K fin A σ tgt lv st) (kf : zG E K fin B σ (pc + 3) lv st) : zG E K fin (if y < x then A else B) σ pc lv (.inl y :: .inl x :: st) := by
  intro hX w1 w2 w3 H locs ls hR ho hh
  exact lv_icmp_gt hk.1 hk.2.1 hd ht (fun hc => kt (by rw [if_pos hc] at hX; exact hX) w1 w2 w3 H locs ls hR ho hh) (fun hc => kf (by rw [if_neg hc] at hX; exact hX) w1 w2 w3 H locs ls hR ho hh)
theorem z_cle (hk : zk E K own cc nL h) {x y : Int32} {off : Int} {tgt : Nat} (hd : decode cc pc = .ok (.if_icmp .le off, 3)) (ht : (pc : Int) + off = (tgt : Int)) (kt : zG E K fin A σ tgt lv st) (kf : zG E K fin B σ (pc + 3) lv st) : zG E K fin (if y < x then B else A) σ pc lv (.inl y :: .inl x :: st) := by
  intro hX w1 w2 w3 H locs ls hR ho hh
  exact lv_icmp_le hk.1 hk.2.1 hd ht (fun hc => kt (by rw [if_neg (Int32.not_lt.mpr hc)] at hX; exact hX) w1 w2 w3 H locs ls hR ho hh) (fun hc => kf (by rw [if_pos (Int32.not_le.mp hc)] at hX; exact hX) w1 w2 w3 H locs ls hR ho hh)
theorem z_nn (hk : zk E K own cc nL h) {r : Nat} {off : Int} {tgt : Nat} (hd : decode cc pc = .ok (.ifnonnull off, 3)) (ht : (pc : Int) + off = (tgt : Int)) (kt : zG E K fin A σ tgt lv st) (kf : zG E K fin B σ (pc + 3) lv st) : zG E K fin (if r = 0 then B else A) σ pc lv (.inr (.inl r) :: st) := by
  intro hX w1 w2 w3 H locs ls hR ho hh
  by_cases hr : r = 0
  · rw [if_pos hr] at hX
    subst hr
    exact lv_ifnonnullN hk.1 hk.2.1 hd (kf hX w1 w2 w3 H locs ls hR ho hh)
  · rw [if_neg hr] at hX
    show zWw E K H locs _ _ (F0 _ _ _ (zrv E r :: _))
    rw [zrv_ref hr]
    exact lv_ifnonnull hk.1 hk.2.1 hd ht (kt hX w1 w2 w3 H locs ls hR ho hh)
theorem z_goto (hk : zk E K own cc nL h) {off : Int} {tgt : Nat} (hd : decode cc pc = .ok (.goto off, 3)) (ht : (pc : Int) + off = (tgt : Int)) (k : zG E K fin X σ tgt lv st) : zG E K fin X σ pc lv st := by
  intro hX w1 w2 w3 H locs ls hR ho hh
  exact lv_goto hk.1 hk.2.1 hd ht (k hX w1 w2 w3 H locs ls hR ho hh)
end ZB
/-! the pieces of which a method's answer is made -/
def zgI {α : Type} (σ : zW) (κ r k : Nat) (c : Int32 → Option α) : Option α := if zK σ r = κ then c (zI σ r k) else none
def zgR {α : Type} (σ : zW) (κ r k : Nat) (c : Nat → Option α) : Option α := if zK σ r = κ then c (zR σ r k) else none
def zpI {α : Type} (σ : zW) (κ r k : Nat) (v : Int32) (c : zW → Option α) : Option α := if zK σ r = κ then c (stI σ r k v) else none
def zpR {α : Type} (σ : zW) (κ r k v : Nat) (c : zW → Option α) : Option α := if zK σ r = κ then c (stR σ r k v) else none
section ZC
variable {E : zE} {K : zC} {own : String} {cc : ByteArray} {nL h : Nat} {α : Type} {fin : α → zO} {X A B : Option α} {σ : zW} {pc : Nat} {lv : zLV} {st : List zV}
theorem zfv_get {l : List Bool} {o k : Nat} (hk : k < l.length) : (zfv E σ o l)[k]? = some (if l.getD k false = true then zrv E (zR σ o k) else .int (zI σ o k)) := by
  unfold zfv
  rw [List.getElem?_map, List.getElem?_range hk]
  rfl
theorem zfv_len {l : List Bool} {o : Nat} : (zfv E σ o l).length = l.length := by simp [zfv]
theorem zent_ob {o ci : Nat} (hκ : zK σ o = ci + 1) (hlt : ci < 9) : zent E σ o = .inr (ci, zfv E σ o (zft (ci + 1))) := by
  unfold zent
  rw [hκ, if_pos (by omega)]
  rfl
theorem zR_at {H : Heap} {o : Nat} (hR : zRp E σ H) (h0 : zK σ o ≠ 0) (h21 : zK σ o ≠ 21) : va_P (eD E) zcl [(eA E o, zent E σ o)] H := by
  intro k q hk
  have hz : k < 1 := (List.getElem?_eq_some_iff.mp hk).1
  rw [show k = 0 by omega] at hk
  cases hk
  exact (hR.2.2.2.2.2 o h0).2.2.2.at h21
theorem z_getf (hk : zk E K own cc nL h) {ci index : Nat} {q : vw_C} (k : Nat) (hc : zcl[ci]? = some q) (hkl : k < q.2.2) {H : Heap} {locs : List Loc} {ls : Array Slot} {cells slots : Nat} {rest : List Value} {r : Nat} (hR : zRp E σ H) (hκ : zK σ r = ci + 1)
    (hd : decode cc pc = .ok (.getfield index, 3)) (hl : (Cond.fieldLink own index (q.2.1 k).1 (q.2.1 k).2.1 (q.2.1 k).2.2.1) ∈ lw_tbl) {v : Value} (hv : (zfv E σ r (zft (ci + 1)))[k]? = some v)
    (kk : zWw E K H locs cells slots (F0 (cM K) (pc + 3) ls (v :: rest))) : zWw E K H locs cells slots (F0 (cM K) pc ls (.ref (eA E r) :: rest)) := by
  have hci : ci < 9 := (List.getElem?_eq_some_iff.mp hc).1
  obtain ⟨C, T, N⟩ := q
  have hP := zR_at hR (o := r) (by omega) (by omega)
  rw [zent_ob hκ hci] at hP
  exact va_get hk.1 hk.2.1 (zl_of hk hc) (fun _ h => h) hk.2.2.2.1 (zK_of hk) hP 0 rfl hc k hkl (zw hk hl rfl) (fun _ h => h) hv hd kk
theorem z_gI (hk : zk E K own cc nL h) {ci index : Nat} {q : vw_C} (k : Nat) {r : Nat} {c : Int32 → Option α} (hd : decode cc pc = .ok (.getfield index, 3)) (hc : zcl[ci]? = some q) (hb : (zft (ci + 1))[k]? = some false)
    (hl : (Cond.fieldLink own index (q.2.1 k).1 (q.2.1 k).2.1 (q.2.1 k).2.2.1) ∈ lw_tbl) (kk : ∀ x, zG E K fin (c x) σ (pc + 3) lv (.inl x :: st)) : zG E K fin (zgI σ (ci + 1) r k c) σ pc lv (.inr (.inl r) :: st) := by
  intro hX w1 w2 w3 H locs ls hR ho hh
  by_cases hκ : zK σ r = ci + 1
  · unfold zgI at hX
    rw [if_pos hκ] at hX
    have hr0 : r ≠ 0 := (hR.2.2.2.2.2 r (by omega)).1
    have hkl := (List.getElem?_eq_some_iff.mp hb).1
    have hv := zfv_get (E := E) (σ := σ) (o := r) hkl
    rw [List.getD_eq_getElem?_getD, hb] at hv
    show zWw E K H locs _ _ (F0 _ _ _ (zrv E r :: _))
    rw [zrv_ref hr0]
    exact z_getf hk k hc (by rw [← (ztyp_ok ci q hc).2.2]; exact hkl) hR hκ hd hl hv (kk _ hX w1 w2 w3 H locs ls hR ho hh)
  · unfold zgI at hX
    rw [if_neg hκ] at hX
    obtain ⟨o, h1, -⟩ := hX
    cases h1
theorem z_gR (hk : zk E K own cc nL h) {ci index : Nat} {q : vw_C} (k : Nat) {r : Nat} {c : Nat → Option α} (hd : decode cc pc = .ok (.getfield index, 3)) (hc : zcl[ci]? = some q) (hb : (zft (ci + 1))[k]? = some true)
    (hl : (Cond.fieldLink own index (q.2.1 k).1 (q.2.1 k).2.1 (q.2.1 k).2.2.1) ∈ lw_tbl) (kk : ∀ x, zG E K fin (c x) σ (pc + 3) lv (.inr (.inl x) :: st)) : zG E K fin (zgR σ (ci + 1) r k c) σ pc lv (.inr (.inl r) :: st) := by
  intro hX w1 w2 w3 H locs ls hR ho hh
  by_cases hκ : zK σ r = ci + 1
  · unfold zgR at hX
    rw [if_pos hκ] at hX
    have hr0 : r ≠ 0 := (hR.2.2.2.2.2 r (by omega)).1
    have hkl := (List.getElem?_eq_some_iff.mp hb).1
    have hv := zfv_get (E := E) (σ := σ) (o := r) hkl
    rw [List.getD_eq_getElem?_getD, hb] at hv
    show zWw E K H locs _ _ (F0 _ _ _ (zrv E r :: _))
    rw [zrv_ref hr0]
    exact z_getf hk k hc (by rw [← (ztyp_ok ci q hc).2.2]; exact hkl) hR hκ hd hl hv (kk _ hX w1 w2 w3 H locs ls hR ho hh)
  · unfold zgR at hX
    rw [if_neg hκ] at hX
    obtain ⟨o, h1, -⟩ := hX
    cases h1
end ZC
