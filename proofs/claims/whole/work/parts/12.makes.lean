/-! WHAT IS MADE, COPIED, COMPUTED -/
def znO {α : Type} (σ : zW) (κ n : Nat) (c : Nat → zW → Option α) : Option α := if zN σ + 1 ≤ 603072 ∧ zS σ + n ≤ 7219305 then c (zN σ + 4) (nw σ κ n) else none
def znA {α : Type} (σ : zW) (κ : Nat) (n : Int32) (c : Nat → zW → Option α) : Option α := if 0 ≤ n ∧ zN σ + 1 ≤ 603072 ∧ zS σ + n.toNatClampNeg ≤ 7219305 then c (zN σ + 4) (nw σ κ n.toNatClampNeg) else none
def zprim : FieldType → Bool
  | .object _ => false
  | _ => true
def zdef (l : List Bool) (k : Nat) : Value := if l.getD k false = true then .null else .int 0
theorem zdefs : ∀ ci : Nat, ∀ q : vw_C, zcl[ci]? = some q → ∀ j, j < q.2.2 → defaultValue (ztyp ci j) = zdef (zft (ci + 1)) j := by
  intro ci q hq
  match ci, hq with
  | 0, hq => cases hq; decide +kernel
  | 1, hq => cases hq; decide +kernel
  | 2, hq => cases hq; decide +kernel
  | 3, hq => cases hq; decide +kernel
  | 4, hq => cases hq; decide +kernel
  | 5, hq => cases hq; decide +kernel
  | 6, hq => cases hq; decide +kernel
  | 7, hq => cases hq; decide +kernel
  | 8, hq => cases hq; decide +kernel
  | n + 9, hq => simp at hq
section ZM
variable {E : zE} {K : zC} {own : String} {cc : ByteArray} {nL h : Nat} {α : Type} {fin : α → zO} {X A B : Option α} {σ σ1 : zW} {pc : Nat} {lv : zLV} {st : List zV} {H H1 : Heap}
theorem zent_nw {κ n o : Nat} (h : o ≠ zN σ + 4) : zent E (nw σ κ n) o = zent E σ o := zent_congr (by simp [nw, zI, va_up, h]) (by simp [nw, zR, va_up, h]) (by simp [nw, zK, va_up, h]) (by simp [nw, zL, va_up, h]) (by simp [nw, zD, va_up, h])
theorem zK_nw {κ n o : Nat} (h : o ≠ zN σ + 4) : zK (nw σ κ n) o = zK σ o := by simp [nw, zK, va_up, h]
theorem zK_nws {κ n : Nat} : zK (nw σ κ n) (zN σ + 4) = κ := by simp [nw, zK, va_up]
theorem zRp_push (hF : zFx E) (hR : zRp E σ H) {κ n : Nat} {x : Cell} (hs : H1.size = H.size + 1) (hq : ∀ q : Nat, q < H.size → H1[q]? = H[q]?) (hx : H1[H.size]? = some x) (hz : x.slots.size = n) (hn1 : zN σ + 1 ≤ 603072) (hn2 : zS σ + n ≤ 7219305)
    (hat : va_at (eD E) zcl (H.size, zent E (nw σ κ n) (zN σ + 4)) H1) (hκ21 : κ ≠ 21) : zRp E (nw σ κ n) H1 := by
  have hsz := hR.1
  refine ⟨by rw [hs, hsz]; rfl, fun q hlt => by rw [hq q (by omega)]; exact hR.2.1 q hlt, ?_, hn1, hn2, fun o h0 => ?_⟩
  · rw [zsum_push (by omega) hs hq hx, hR.2.2.1, hz]
    rfl
  · by_cases e : o = zN σ + 4
    · subst e
      refine ⟨by omega, by show _ < zN σ + 1 + 4; omega, fun h => by omega, ?_⟩
      have e2 : eA E (zN σ + 4) = H.size := by rw [zA_ge hF (by omega), hsz]; omega
      refine zat.of (by rw [zK_nws]; exact hκ21) ?_
      rw [e2]
      exact hat
    · rw [zK_nw e] at h0 ⊢
      obtain ⟨f1, f2, f3, f4⟩ := zR_ob hR h0
      refine ⟨f1, by show _ < zN σ + 1 + 4; omega, f3, ?_⟩
      refine zat_congr (zK_nw e) (zent_nw e) ?_
      exact f4.kept (hq _ f4.lt)
theorem zcR (hk : zk E K own cc nL h) : (cR K).cells = 603072 - zN (c0 K) ∧ (cR K).slots = 7219305 - zS (c0 K) ∧ zRp E (c0 K) (cS K).heap := ⟨hk.2.2.2.2.2.2.2.1, hk.2.2.2.2.2.2.2.2.1, hk.2.2.2.2.2.2.2.2.2.2.2⟩
theorem z_new (hk : zk E K own cc nL h) {ci index : Nat} {q : vw_C} {c : Nat → zW → Option α} (hd : decode cc pc = .ok (.new index, 3)) (hc : zcl[ci]? = some q) (hcl : Cond.classLink own index q.1 ∈ lw_tbl) (hins : Cond.instantiable q.1 q.2.2 ∈ lw_tbl) (hini : Cond.initialized q.1 ∈ lw_tbl)
    (kk : ∀ r σ1, zG E K fin (c r σ1) σ1 (pc + 3) lv (.inr (.inl r) :: st)) : zG E K fin (znO σ (ci + 1) q.2.2 c) σ pc lv st := by
  intro hX w1 w2 w3 H locs ls hR ho hh
  unfold znO at hX
  split at hX
  · next hn =>
    obtain ⟨r1, r2, r3⟩ := zcR hk
    have hF := zk_F hk
    have hsz := hR.1
    have hci : ci < 9 := (List.getElem?_eq_some_iff.mp hc).1
    have hKK := zK_of hk
    have hts := zl_of hk hc
    obtain ⟨hty, -, hlen⟩ := ztyp_ok ci q hc
    refine z_tight (k := zN σ - zN (c0 K)) (n := zS σ - zS (c0 K)) r3 hR (by omega) (by omega) ?_
    have hKn := hKK.1 ci _ hc
    refine W.newc hk.1 hk.2.1 hk.2.2.2.1 (zw hk hcl rfl) (zw hk hins rfl) (zw hk hini rfl) rfl hd (by rw [r1]; omega) (by rw [r2]; omega) fun cC kC h1 h2 h3 h4 => ?_
    refine W.widen (k := (cR K).cells) (n := (cR K).slots) (by rw [r1]; omega) (by rw [r2]; omega) ?_
    have e2 : eA E (zN σ + 4) = H.size := by rw [zA_ge hF (by omega), hsz]; omega
    have hpush : (H.push ({ cls := cC, slots := kC.instanceTypes.map defaultValue, vm := .none } : Cell))[H.size]? = some (blank cC kC) := by simp [blank]
    have hgo := kk (zN σ + 4) (nw σ (ci + 1) q.2.2) hX (by show _ ≤ zN σ + 1; omega) (by show _ ≤ zS σ + q.2.2; omega) w3 (H.push { cls := cC, slots := kC.instanceTypes.map defaultValue, vm := .none }) locs ls
      (zRp_push hF hR (by simp) (fun q hq => by rw [Array.getElem?_push, if_neg (Nat.ne_of_lt hq)]) hpush (by simp [blank, h4]) hn.1 hn.2 ?_ (by omega)) ho hh
    · have e3 : (zv E (.inr (.inl (zN σ + 4)))) = .ref H.size := by
        show zrv E (zN σ + 4) = _
        rw [zrv_ref (by omega), e2]
      simp only [List.map_cons, e3] at hgo
      exact hgo
    · rw [zent_ob (σ := nw σ (ci + 1) q.2.2) (by exact zK_nws) hci]
      have hcC : cC = (eD E).1 ci := Option.some.inj (h1.symm.trans hKn.2.1)
      subst hcC
      refine ⟨q, hc, (u_born (ztyp ci) hts (fun _ h => h) hKn h2 hpush hty).to (fun j hj => ?_)⟩
      rw [zdefs ci q hc j hj]
      have hj2 : j < (zft (ci + 1)).length := by rw [hlen]; exact hj
      unfold vp_V
      rw [List.getD_eq_getElem?_getD, zfv_get (E := E) (σ := nw σ (ci + 1) q.2.2) (o := zN σ + 4) hj2]
      have hi0 : zI (nw σ (ci + 1) q.2.2) (zN σ + 4) j = 0 := by simp [nw, zI, va_up]
      have hr0 : zR (nw σ (ci + 1) q.2.2) (zN σ + 4) j = 0 := by simp [nw, zR, va_up]
      rw [hi0, hr0]
      rfl
  · exact z_none hX
theorem zty_cls (hk : zk E K own cc nL h) {tn κ : Nat} {ty : FieldType} (ht : (zty E)[tn]? = some (eC E κ, ty)) (hp : zprim ty = true) {cA : ClassId} (hf : (cS K).vm.findClass ("[" ++ ty.toString) = some cA) : cA = eC E κ := by
  have h1 := ((zK_of hk).2 tn _ ht).2
  cases ty <;> first | exact Option.some.inj (hf.symm.trans h1) | cases hp
theorem z_newa (hk : zk E K own cc nL h) {κ tn : Nat} {atype : ArrayType} {n : Int32} {c : Nat → zW → Option α} (hd : decode cc pc = .ok (.newarray atype, 2)) (harr : Cond.arrayClass (newarray.typeOf atype) ∈ lw_tbl) (ht : (zty E)[tn]? = some (eC E κ, newarray.typeOf atype)) (hp : zprim (newarray.typeOf atype) = true)
    (hby : componentBytes (newarray.typeOf atype) ≤ 8) (h21 : κ ≠ 21) (hent : ∀ (σ : zW) (o N : Nat), zK σ o = κ → zL σ o = N → zI σ o = (fun _ => 0) → zD σ o = 0 → ∃ x, zent E σ o = .inl (eC E κ, x) ∧ vp_cell (eC E κ) x = arrV (eC E κ) N (fun _ => defaultValue (newarray.typeOf atype)))
    (kk : ∀ r σ1, zG E K fin (c r σ1) σ1 (pc + 2) lv (.inr (.inl r) :: st)) : zG E K fin (znA σ κ n c) σ pc lv (.inl n :: st) := by
  intro hX w1 w2 w3 H locs ls hR ho hh
  unfold znA at hX
  split at hX
  · next hn =>
    obtain ⟨r1, r2, r3⟩ := zcR hk
    have hF := zk_F hk
    have hsz := hR.1
    refine z_tight (k := zN σ - zN (c0 K)) (n := zS σ - zS (c0 K)) r3 hR (by omega) (by omega) ?_
    refine va_newaK hk.1 hk.2.1 (zw hk harr rfl) rfl hd rfl (Int32.not_lt.mpr hn.1) rfl (by have := Nat.mul_le_mul_left n.toNatClampNeg hby; omega) (by rw [r1]; omega) (by rw [r2]; omega) (h := H.size) rfl fun H' cA e1 e2 e3 e4 e5 => ?_
    refine W.widen (k := (cR K).cells) (n := (cR K).slots) (by rw [r1]; omega) (by rw [r2]; omega) ?_
    have ea : eA E (zN σ + 4) = H.size := by rw [zA_ge hF (by omega), hsz]; omega
    have hcA := zty_cls hk ht hp e5
    subst hcA
    have hgo := kk (zN σ + 4) (nw σ κ n.toNatClampNeg) hX (by show _ ≤ zN σ + 1; omega) (by show _ ≤ zS σ + n.toNatClampNeg; omega) w3 H' locs ls
      (zRp_push hF hR e2 e3 e1 (by rw [arrV_size]) hn.2.1 hn.2.2 ?_ h21) ho hh
    · have ev : (zv E (.inr (.inl (zN σ + 4)))) = .ref H.size := by
        show zrv E (zN σ + 4) = _
        rw [zrv_ref (by omega), ea]
      simp only [List.map_cons, ev] at hgo
      exact hgo
    · obtain ⟨x, g1, g2⟩ := hent (nw σ κ n.toNatClampNeg) (zN σ + 4) n.toNatClampNeg zK_nws (by simp [nw, zL, va_up]) (by simp [nw, zI, va_up]) (by simp [nw, zD, va_up])
      rw [g1]
      show H'[H.size]? = some (vp_cell _ _)
      rw [g2]
      exact e1
  · exact z_none hX
theorem zhent_i (E : zE) : ∀ (σ : zW) (o N : Nat), zK σ o = 20 → zL σ o = N → zI σ o = (fun _ => 0) → zD σ o = 0 → ∃ x, zent E σ o = .inl (eC E 20, x) ∧ vp_cell (eC E 20) x = arrV (eC E 20) N (fun _ => defaultValue (newarray.typeOf .int)) := fun σ o N h1 h2 h3 _ => ⟨_, by rw [zent_i (by left; exact h1), h1], by rw [vp_cell_i, h2, h3]; rfl⟩
theorem zhent_c (E : zE) : ∀ (σ : zW) (o N : Nat), zK σ o = 22 → zL σ o = N → zI σ o = (fun _ => 0) → zD σ o = 0 → ∃ x, zent E σ o = .inl (eC E 22, x) ∧ vp_cell (eC E 22) x = arrV (eC E 22) N (fun _ => defaultValue (newarray.typeOf .char)) := fun σ o N h1 h2 h3 _ => ⟨_, by rw [zent_i (by right; right; exact h1), h1], by rw [vp_cell_i, h2, h3]; rfl⟩
theorem zhent_l (E : zE) : ∀ (σ : zW) (o N : Nat), zK σ o = 23 → zL σ o = N → zI σ o = (fun _ => 0) → zD σ o = 0 → ∃ x, zent E σ o = .inl (eC E 23, x) ∧ vp_cell (eC E 23) x = arrV (eC E 23) N (fun _ => defaultValue (newarray.typeOf .long)) := fun σ o N h1 h2 h3 _ => ⟨_, by rw [zent_l h1], by rw [vp_cell_l, h2, h3]; rfl⟩
theorem zhent_d (E : zE) : ∀ (σ : zW) (o N : Nat), zK σ o = 24 → zL σ o = N → zI σ o = (fun _ => 0) → zD σ o = 0 → ∃ x, zent E σ o = .inl (eC E 24, x) ∧ vp_cell (eC E 24) x = arrV (eC E 24) N (fun _ => defaultValue (newarray.typeOf .double)) := fun σ o N h1 h2 _ h4 => ⟨_, by rw [zent_d h1], by rw [vp_cell_d, h2, h4]; rfl⟩
theorem z_newq (hk : zk E K own cc nL h) {κ tn index : Nat} {C : String} (hκ : 25 ≤ κ) {n : Int32} {c : Nat → zW → Option α} (hd : decode cc pc = .ok (.anewarray index, 3)) (hcl : Cond.classLink own index C ∈ lw_tbl) (hov : Cond.arrayOver (.object C) ∈ lw_tbl) (ht : (zty E)[tn]? = some (eC E κ, .object C))
    (kk : ∀ r σ1, zG E K fin (c r σ1) σ1 (pc + 3) lv (.inr (.inl r) :: st)) : zG E K fin (znA σ κ n c) σ pc lv (.inl n :: st) := by
  intro hX w1 w2 w3 H locs ls hR ho hh
  unfold znA at hX
  split at hX
  · next hn =>
    obtain ⟨r1, r2, r3⟩ := zcR hk
    have hF := zk_F hk
    have hsz := hR.1
    refine z_tight (k := zN σ - zN (c0 K)) (n := zS σ - zS (c0 K)) r3 hR (by omega) (by omega) ?_
    have hover : va_AO C (cS K) := va_AO.moved hk.2.2.2.2.2.1.alike (hF.2.1 _ hov)
    refine W.anew hk.1 hk.2.1 hk.2.2.2.1 (zw hk hcl rfl) (va_AO.use hover) rfl hd rfl (Int32.not_lt.mpr hn.1) (by omega) (by rw [r1]; omega) (by rw [r2]; omega) fun cA kA comp f1 f2 f3 f4 => ?_
    refine W.widen (k := (cR K).cells) (n := (cR K).slots) (by rw [r1]; omega) (by rw [r2]; omega) ?_
    have ea : eA E (zN σ + 4) = H.size := by rw [zA_ge hF (by omega), hsz]; omega
    have hcA : cA = eC E κ := by
      obtain ⟨kB, cB, g1, g2, g3, g4⟩ := ((zK_of hk).2 tn _ ht).2
      exact Option.some.inj (f1.symm.trans g4)
    subst hcA
    have hx : (H.push ({ cls := eC E κ, slots := Array.replicate n.toNatClampNeg .null, vm := .none } : Cell))[H.size]? = some (arrV (eC E κ) n.toNatClampNeg (fun _ => .null)) := by rw [Array.getElem?_push_size, ← arrV_new]
    have hgo := kk (zN σ + 4) (nw σ κ n.toNatClampNeg) hX (by show _ ≤ zN σ + 1; omega) (by show _ ≤ zS σ + n.toNatClampNeg; omega) w3 (H.push { cls := eC E κ, slots := Array.replicate n.toNatClampNeg .null, vm := .none }) locs ls
      (zRp_push hF hR (by simp) (fun q hq => by rw [Array.getElem?_push, if_neg (Nat.ne_of_lt hq)]) hx (by rw [arrV_size]) hn.2.1 hn.2.2 ?_ (by omega)) ho hh
    · have ev : (zv E (.inr (.inl (zN σ + 4)))) = .ref H.size := by
        show zrv E (zN σ + 4) = _
        rw [zrv_ref (by omega), ea]
      simp only [List.map_cons, ev] at hgo
      exact hgo
    · rw [zent_q (σ := nw σ κ n.toNatClampNeg) (by rw [zK_nws]; exact hκ), zK_nws]
      show (H.push _)[H.size]? = some (vp_cell _ _)
      rw [hx, vp_cell_q]
      have h1 : zL (nw σ κ n.toNatClampNeg) (zN σ + 4) = n.toNatClampNeg := by simp [nw, zL, va_up]
      have h2 : zR (nw σ κ n.toNatClampNeg) (zN σ + 4) = fun _ => 0 := by simp [nw, zR, va_up]
      rw [h1, h2]
      rfl
  · exact z_none hX
theorem z_oinit (hk : zk E K own cc nL h) {index r : Nat} (hd : decode cc pc = .ok (.invokespecial index, 3)) (hl : Cond.methodLink own index Lib.objectInit ∈ lw_tbl) (hi : Cond.instanceMethod Lib.objectInit ∈ lw_tbl) (hcd : Cond.code Lib.objectInit ⟨#[0xb1]⟩ 1 none ∈ lw_tbl) (hh1 : 1 ≤ h) (hr : r ≠ 0) (hst : (st.map (zv E)).length ≤ 8)
    (k : zG E K fin X σ (pc + 3) lv st) : zG E K fin X σ pc lv (.inr (.inl r) :: st) := by
  intro hX w1 w2 w3 H locs ls hR ho hh
  show zWw E K H locs _ _ (F0 _ _ _ (zrv E r :: _))
  rw [zrv_ref hr]
  have h3 : h ≤ (cR K).frames := hk.2.2.2.2.2.2.2.2.2.1
  have h4 : 100 * h ≤ (cR K).locals := hk.2.2.2.2.2.2.2.2.2.2.1
  refine W.objInit hk.1 hk.2.1 hk.2.2.2.1 (zw hk hl rfl) (zw hk hi rfl) (zw hk hcd rfl) rfl (by rw [hh.1]) rfl hd (Nat.le_trans hh1 h3) ?_ (k hX w1 w2 w3 H locs ls hR ho hh)
  have : ∀ l : List Value, (l.map fun v => v.category).sum ≤ 2 * l.length := by
    intro l
    induction l with
    | nil => exact Nat.zero_le _
    | cons a t ih =>
      have : a.category ≤ 2 := by cases a <;> simp [Value.category]
      simp only [List.map_cons, List.sum_cons, List.length_cons]
      omega
  have h5 := this (st.map (zv E))
  show 2 * 0 + _ + 12 ≤ _
  omega
end ZM
