/-! STORES -/
section ZS
variable {E : zE} {K : zC} {own : String} {cc : ByteArray} {nL h : Nat} {α : Type} {fin : α → zO} {X A B : Option α} {σ σ1 : zW} {pc : Nat} {lv : zLV} {st : List zV} {H H1 : Heap}
theorem zA_ge (hF : zFx E) {o : Nat} (h4 : 4 ≤ o) : eA E o = zB E + (o - 4) := hF.2.2.2.2.1 o h4
theorem zA_lt (hF : zFx E) {o : Nat} (h4 : o < 4) (h0 : o ≠ 0) : eA E o < zB E := hF.2.2.2.2.2.1 o h4 h0
theorem zR_ob (hR : zRp E σ H) {o : Nat} (h0 : zK σ o ≠ 0) : o ≠ 0 ∧ o < zN σ + 4 ∧ (o < 4 → zK σ o = 21) ∧ zat E σ o H := hR.2.2.2.2.2 o h0
theorem zA_ne (hF : zFx E) (hR : zRp E σ H) {o o' : Nat} (h0 : zK σ o ≠ 0) (h21 : zK σ o ≠ 21) (h0' : zK σ o' ≠ 0) (hne : o' ≠ o) : eA E o' ≠ eA E o := by
  obtain ⟨g1, g2, g3, -⟩ := zR_ob hR h0
  obtain ⟨f1, f2, f3, -⟩ := zR_ob hR h0'
  have h4 : 4 ≤ o := Nat.not_lt.mp fun h => h21 (g3 h)
  have e1 := zA_ge hF h4
  by_cases h5 : o' < 4
  · have := zA_lt hF h5 f1
    omega
  · have e2 := zA_ge hF (Nat.not_lt.mp h5)
    omega
theorem zA_new (hF : zFx E) (hR : zRp E σ H) {o : Nat} (h0 : zK σ o ≠ 0) (h21 : zK σ o ≠ 21) : zB E ≤ eA E o := by
  obtain ⟨g1, g2, g3, -⟩ := zR_ob hR h0
  rw [zA_ge hF (Nat.not_lt.mp fun h => h21 (g3 h))]
  omega
/-- one object's cell has changed: the heap holds the changed world -/
theorem zRp_upd (hF : zFx E) (hR : zRp E σ H) {o : Nat} (h0 : zK σ o ≠ 0) (h21 : zK σ o ≠ 21) (hK : zK σ1 = zK σ) (hN : zN σ1 = zN σ) (hS : zS σ1 = zS σ) (hoth : ∀ o', o' ≠ o → zent E σ1 o' = zent E σ o')
    (hs : H1.size = H.size) (hq : ∀ q : Nat, q ≠ eA E o → H1[q]? = H[q]?) (hsz : (H1[eA E o]?).map (fun (c : Cell) => c.slots.size) = (H[eA E o]?).map (fun (c : Cell) => c.slots.size)) (hat : va_at (eD E) zcl (eA E o, zent E σ1 o) H1) : zRp E σ1 H1 := by
  have hge := zA_new hF hR h0 h21
  refine ⟨by rw [hs, hN]; exact hR.1, fun q hlt => by rw [hq q (by omega)]; exact hR.2.1 q hlt, ?_, by rw [hN]; exact hR.2.2.2.1, by rw [hS]; exact hR.2.2.2.2.1, fun o' h0' => ?_⟩
  · rw [hS, ← hR.2.2.1]
    apply zsum_same hs
    intro q
    by_cases e : q = eA E o
    · rw [e]; exact hsz
    · rw [hq q e]
  · rw [hK] at h0' ⊢
    obtain ⟨f1, f2, f3, f4⟩ := zR_ob hR h0'
    refine ⟨f1, by rw [hN]; exact f2, f3, ?_⟩
    by_cases e : o' = o
    · rw [e]; exact zat.of (by rw [hK]; exact h21) hat
    · refine zat_congr (by rw [hK]) (hoth o' e) ?_
      exact f4.kept (hq _ (zA_ne hF hR h0 h21 h0' e))
theorem zset_size (c : Cell) (i : Nat) (v : Value) : (c.setSlot i v).slots.size = c.slots.size := by
  simp [Cell.setSlot]
theorem zfv_setI {o k : Nat} {v : Int32} {l : List Bool} (hb : l[k]? = some false) : (zfv E σ o l).set k (.int v) = zfv E (stI σ o k v) o l := by
  have hkl := (List.getElem?_eq_some_iff.mp hb).1
  apply List.ext_getElem?
  intro j
  by_cases hj : j < l.length
  · rw [zfv_get (E := E) (σ := stI σ o k v) hj]
    by_cases e : j = k
    · subst e
      rw [List.getElem?_set_self (by rw [zfv_len]; exact hj), List.getD_eq_getElem?_getD, hb]
      simp [stI, zI, va_up]
    · rw [List.getElem?_set_ne (Ne.symm e), zfv_get (E := E) (σ := σ) hj]
      have : zI (stI σ o k v) o j = zI σ o j := by simp [stI, zI, va_up, e]
      rw [this]
      rfl
  · rw [List.getElem?_eq_none (by rw [List.length_set, zfv_len]; omega), List.getElem?_eq_none (by rw [zfv_len]; omega)]
theorem zfv_setR {o k v : Nat} {l : List Bool} (hb : l[k]? = some true) : (zfv E σ o l).set k (zrv E v) = zfv E (stR σ o k v) o l := by
  have hkl := (List.getElem?_eq_some_iff.mp hb).1
  apply List.ext_getElem?
  intro j
  by_cases hj : j < l.length
  · rw [zfv_get (E := E) (σ := stR σ o k v) hj]
    by_cases e : j = k
    · subst e
      rw [List.getElem?_set_self (by rw [zfv_len]; exact hj), List.getD_eq_getElem?_getD, hb]
      simp [stR, zR, va_up]
    · rw [List.getElem?_set_ne (Ne.symm e), zfv_get (E := E) (σ := σ) hj]
      have : zR (stR σ o k v) o j = zR σ o j := by simp [stR, zR, va_up, e]
      rw [this]
      rfl
  · rw [List.getElem?_eq_none (by rw [List.length_set, zfv_len]; omega), List.getElem?_eq_none (by rw [zfv_len]; omega)]
theorem zent_congr {o : Nat} (h1 : zI σ1 o = zI σ o) (h2 : zR σ1 o = zR σ o) (h3 : zK σ1 o = zK σ o) (h4 : zL σ1 o = zL σ o) (h5 : zD σ1 o = zD σ o) : zent E σ1 o = zent E σ o := by
  unfold zent zfv
  simp only [h1, h2, h3, h4, h5]
theorem zent_stI {o o' k : Nat} {v : Int32} (h : o' ≠ o) : zent E (stI σ o k v) o' = zent E σ o' := zent_congr (by simp [stI, zI, va_up, h]) rfl rfl rfl rfl
theorem zent_stR {o o' k v : Nat} (h : o' ≠ o) : zent E (stR σ o k v) o' = zent E σ o' := zent_congr rfl (by simp [stR, zR, va_up, h]) rfl rfl rfl
theorem zent_stA {o o' : Nat} {f : Nat → Int32} (h : o' ≠ o) : zent E (stA σ o f) o' = zent E σ o' := zent_congr (by simp [stA, zI, va_up, h]) rfl rfl rfl rfl
theorem zent_stD {o o' : Nat} {d : UInt64} (h : o' ≠ o) : zent E (stD σ o d) o' = zent E σ o' := zent_congr rfl rfl rfl rfl (by simp [stD, zD, va_up, h])
/-- a field is written, final (in a constructor of its class) or not -/
theorem z_putf (hk : zk E K own cc nL h) {ci index : Nat} {q : vw_C} (k : Nat) (hc : zcl[ci]? = some q) (hkl : k < q.2.2) {locs : List Loc} {ls : Array Slot} {cells slots : Nat} {rest : List Value} {r : Nat} (hR : zRp E σ H) (hκ : zK σ r = ci + 1)
    (hd : decode cc pc = .ok (.putfield index, 3)) (hl : (Cond.fieldLink own index (q.2.1 k).1 (q.2.1 k).2.1 (q.2.1 k).2.2.1) ∈ lw_tbl) (hfin : (q.2.1 k).2.2.2 = true → (cMe K).name = "<init>" ∧ (q.2.1 k).1 = own)
    {v : Value} (hn : narrow (ztyp ci k) v = v) (hfit : fits (ztyp ci k) v = true) {σ1 : zW} (hK1 : zK σ1 = zK σ) (hN1 : zN σ1 = zN σ) (hS1 : zS σ1 = zS σ) (hoth : ∀ o', o' ≠ r → zent E σ1 o' = zent E σ o') (hset : (zfv E σ r (zft (ci + 1))).set k v = zfv E σ1 r (zft (ci + 1)))
    (ho : ∀ q ∈ locs, zB E ≤ q.base) (kk : ∀ (H1 : Heap) (locs1 : List Loc), zRp E σ1 H1 → (∀ q ∈ locs1, zB E ≤ q.base) → zWw E K H1 locs1 cells slots (F0 (cM K) (pc + 3) ls rest)) : zWw E K H locs cells slots (F0 (cM K) pc ls (v :: .ref (eA E r) :: rest)) := by
  have hci : ci < 9 := (List.getElem?_eq_some_iff.mp hc).1
  have hF := zk_F hk
  have hKK := zK_of hk
  have hts := zl_of hk hc
  obtain ⟨hty, hnm, hlen⟩ := ztyp_ok ci q hc
  obtain ⟨C, T, N⟩ := q
  dsimp only at hkl hl hfin hts hty hnm hlen
  have hap := va_apart (own := own) hts (fun _ h => h) (ztyp ci) hty hnm hKK hc
  obtain ⟨g1, g2, g3, hP⟩ := zR_ob hR (o := r) (by omega)
  have hP := hP.at (by omega)
  rw [zent_ob hκ hci] at hP
  obtain ⟨r0, h1, cell, q1, q2, q3, q4⟩ := hP
  have hr : r0 = (C, T, N) := Option.some.inj (h1.symm.trans hc)
  subst hr
  obtain ⟨hS, hfc, kC, hkC, hkind⟩ := hKK.1 ci _ hc
  obtain ⟨cf, kf, fi, f, hi, hsl⟩ := hS k hkl
  have hlay := hts _ (u_in_lay hkl)
  have hst := (u_facts hfc hkC (u_lays hts (fun _ h => h) hkl) hi).1
  have fin2 : ∀ H' : Heap, H'[eA E r]? = some (cell.setSlot f.slot v) → H'.size = H.size → (∀ q, q ≠ eA E r → H'[q]? = H[q]?) → zWw E K H' (locs ++ [⟨eA E r, f.slot⟩]) cells slots (F0 (cM K) (pc + 3) ls rest) := by
    intro H' e1 e2 e3
    rw [hsl] at e1
    refine kk H' _ (zRp_upd hF hR (o := r) (by omega) (by omega) hK1 hN1 hS1 hoth e2 e3 (by rw [e1, q1]; simp [zset_size]) ?_) (fun z hz => ?_)
    · rw [zent_ob (by rw [hK1]; exact hκ) hci, ← hset]
      exact ⟨_, hc, t_OB.to (V := updV (vp_V (zfv E σ r (zft (ci + 1)))) k v) ⟨_, e1, q2, q3, t_set q4 hap hkl v⟩ (fun j _ => vp_updV_set (by rw [zfv_len, hlen]; exact hkl) v j)⟩
    · rcases List.mem_append.mp hz with h | h
      · exact ho z h
      · rw [List.mem_singleton.mp h]
        exact zA_new hF hR (by omega) (by omega)
  have hlt : f.slot < cell.slots.size := by rw [hsl]; exact k2_hasslot (q4 k hkl)
  unfold u_lay at hlay
  by_cases hf : (T k).2.2.2 = true
  · rw [if_pos hf] at hlay
    have hcf : (cM K).cls = cf := by
      obtain ⟨_, _, c', _, _, _, -, -, hf', -, -, -, hown2, -⟩ := Cond.laysFinal_spec hlay
      have e1 : c' = cf := by have := hi.symm.trans hf'; simp at this; exact this.1.symm
      rw [(hfin hf).2] at hown2
      rw [← e1]; exact Option.some.inj (hk.2.2.2.1.symm.trans hown2)
    have h6 := u_fits hfc hkC hkind (Or.inr hlay) hi (hty k hkl) hn hfit
    exact W.putFinK hk.1 hk.2.1 hk.2.2.2.1 (zw hk hl rfl) hi hst hcf (hfin hf).1 (by rw [q2]; exact h6) q1 q3 hlt rfl rfl hd fin2
  · rw [if_neg hf] at hlay
    have h6 := u_store hfc hkC hkind hlay hi (hty k hkl) hn hfit
    exact W.putK hk.1 hk.2.1 (f := f) ⟨hk.2.2.2.1, zw hk hl rfl, ⟨_, _, _, hi⟩, hst⟩ (by rw [q2]; exact h6) q1 q3 hlt rfl rfl hd fin2
theorem z_none {P : Prop} (h : ∃ o : α, (none : Option α) = some o ∧ fin o = cO K) : P := by
  obtain ⟨o, h1, -⟩ := h
  cases h1
theorem z_pI (hk : zk E K own cc nL h) {ci index : Nat} {q : vw_C} (k : Nat) {r : Nat} {v : Int32} {c : zW → Option α} (hd : decode cc pc = .ok (.putfield index, 3)) (hc : zcl[ci]? = some q) (hb : (zft (ci + 1))[k]? = some false)
    (hl : (Cond.fieldLink own index (q.2.1 k).1 (q.2.1 k).2.1 (q.2.1 k).2.2.1) ∈ lw_tbl) (hfin : (q.2.1 k).2.2.2 = false) (hn : narrow (ztyp ci k) (.int v) = .int v) (hfit : fits (ztyp ci k) (.int v) = true) (kk : ∀ σ1, zG E K fin (c σ1) σ1 (pc + 3) lv st) : zG E K fin (zpI σ (ci + 1) r k v c) σ pc lv (.inl v :: .inr (.inl r) :: st) := by
  intro hX w1 w2 w3 H locs ls hR ho hh
  unfold zpI at hX
  by_cases hκ : zK σ r = ci + 1
  · rw [if_pos hκ] at hX
    have hr0 : r ≠ 0 := (zR_ob hR (o := r) (by omega)).1
    have hkl := (List.getElem?_eq_some_iff.mp hb).1
    rw [(ztyp_ok ci q hc).2.2] at hkl
    show zWw E K H locs _ _ (F0 _ _ _ (.int v :: zrv E r :: _))
    rw [zrv_ref hr0]
    exact z_putf hk k hc hkl hR hκ hd hl (fun h => by rw [hfin] at h; cases h) hn hfit (σ1 := stI σ r k v) rfl rfl rfl (fun o' h => zent_stI h) (zfv_setI hb) ho (fun H1 locs1 hR1 ho1 => kk _ hX w1 w2 w3 H1 locs1 ls hR1 ho1 hh)
  · rw [if_neg hκ] at hX
    exact z_none hX
theorem z_pR (hk : zk E K own cc nL h) {ci index : Nat} {q : vw_C} (k : Nat) {r v : Nat} {c : zW → Option α} (hd : decode cc pc = .ok (.putfield index, 3)) (hc : zcl[ci]? = some q) (hb : (zft (ci + 1))[k]? = some true)
    (hl : (Cond.fieldLink own index (q.2.1 k).1 (q.2.1 k).2.1 (q.2.1 k).2.2.1) ∈ lw_tbl) (hfin : (q.2.1 k).2.2.2 = true → (cMe K).name = "<init>" ∧ (q.2.1 k).1 = own) (hn : ∀ a, narrow (ztyp ci k) (.ref a) = .ref a ∧ fits (ztyp ci k) (.ref a) = true ∧ narrow (ztyp ci k) .null = .null ∧ fits (ztyp ci k) .null = true) (kk : ∀ σ1, zG E K fin (c σ1) σ1 (pc + 3) lv st) : zG E K fin (zpR σ (ci + 1) r k v c) σ pc lv (.inr (.inl v) :: .inr (.inl r) :: st) := by
  intro hX w1 w2 w3 H locs ls hR ho hh
  unfold zpR at hX
  by_cases hκ : zK σ r = ci + 1
  · rw [if_pos hκ] at hX
    have hr0 : r ≠ 0 := (zR_ob hR (o := r) (by omega)).1
    have hkl := (List.getElem?_eq_some_iff.mp hb).1
    rw [(ztyp_ok ci q hc).2.2] at hkl
    show zWw E K H locs _ _ (F0 _ _ _ (zrv E v :: zrv E r :: _))
    rw [zrv_ref hr0]
    have hv : narrow (ztyp ci k) (zrv E v) = zrv E v ∧ fits (ztyp ci k) (zrv E v) = true := by
      rcases zrv_cases E v with e | ⟨a, e⟩
      · rw [e]; exact ⟨(hn 0).2.2.1, (hn 0).2.2.2⟩
      · rw [e]; exact ⟨(hn a).1, (hn a).2.1⟩
    exact z_putf hk k hc hkl hR hκ hd hl hfin hv.1 hv.2 (σ1 := stR σ r k v) rfl rfl rfl (fun o' h => zent_stR h) (zfv_setR hb) ho (fun H1 locs1 hR1 ho1 => kk _ hX w1 w2 w3 H1 locs1 ls hR1 ho1 hh)
  · rw [if_neg hκ] at hX
    exact z_none hX
end ZS
