/-! THE LIBRARY'S FEW, CONSTANTS, DIVISIONS, SWITCHES, STATICS -/
section ZL
variable {E : zE} {K : zC} {own : String} {cc : ByteArray} {nL h : Nat} {α : Type} {fin : α → zO} {X A B : Option α} {σ σ1 : zW} {pc : Nat} {lv : zLV} {st : List zV} {H H1 : Heap}
theorem zcatsum : ∀ l : List Value, (l.map fun v => v.category).sum ≤ 2 * l.length := by
  intro l
  induction l with
  | nil => exact Nat.zero_le _
  | cons a t ih =>
    have : a.category ≤ 2 := by cases a <;> simp [Value.category]
    simp only [List.map_cons, List.sum_cons, List.length_cons]
    omega
theorem zcatst (hst : st.length ≤ 8) : ((st.map (zv E)).map fun v => v.category).sum ≤ 16 := by
  have := zcatsum (st.map (zv E))
  rw [List.length_map] at this
  omega
theorem zhf (hk : zk E K own cc nL h) : h ≤ (cR K).frames := hk.2.2.2.2.2.2.2.2.2.1
theorem zhl (hk : zk E K own cc nL h) : 100 * h ≤ (cR K).locals := hk.2.2.2.2.2.2.2.2.2.2.1
theorem z_mmax (hk : zk E K own cc nL h) {index : Nat} {x y : Int32} (hd : decode cc pc = .ok (.invokestatic index, 3)) (hl : Cond.methodLink own index Lib.Math.max.name ∈ lw_tbl) (hs : Cond.static Lib.Math.max.name ∈ lw_tbl) (hi : Cond.initialized "java/lang/Math" ∈ lw_tbl) (hc : Cond.code Lib.Math.max.name Lib.Math.max.code 2 (some .int) ∈ lw_tbl)
    (hh1 : 1 ≤ h) (hst : st.length ≤ 8) (k : zG E K fin X σ (pc + 3) lv (.inl (if x < y then y else x) :: st)) : zG E K fin X σ pc lv (.inl y :: .inl x :: st) := by
  intro hX w1 w2 w3 H locs ls hR ho hh
  have := zcatst (E := E) hst
  exact va_mmax hk.1 hk.2.1 hh.1.symm hk.2.2.2.1 (zw hk hl rfl) (zw hk hs rfl) (zw hk hi rfl) (zw hk hc rfl) (Nat.le_trans hh1 (zhf hk)) (by have := zhl hk; omega) (Nat.le_refl _) (Nat.le_refl _) hd (k hX w1 w2 w3 H locs ls hR ho hh)
theorem z_mmin (hk : zk E K own cc nL h) {index : Nat} {x y : Int32} (hd : decode cc pc = .ok (.invokestatic index, 3)) (hl : Cond.methodLink own index Lib.Math.min.name ∈ lw_tbl) (hs : Cond.static Lib.Math.min.name ∈ lw_tbl) (hi : Cond.initialized "java/lang/Math" ∈ lw_tbl) (hc : Cond.code Lib.Math.min.name Lib.Math.min.code 2 (some .int) ∈ lw_tbl)
    (hh1 : 1 ≤ h) (hst : st.length ≤ 8) (k : zG E K fin X σ (pc + 3) lv (.inl (if y < x then y else x) :: st)) : zG E K fin X σ pc lv (.inl y :: .inl x :: st) := by
  intro hX w1 w2 w3 H locs ls hR ho hh
  have := zcatst (E := E) hst
  exact va_mmin hk.1 hk.2.1 hh.1.symm hk.2.2.2.1 (zw hk hl rfl) (zw hk hs rfl) (zw hk hi rfl) (zw hk hc rfl) (Nat.le_trans hh1 (zhf hk)) (by have := zhl hk; omega) (Nat.le_refl _) (Nat.le_refl _) hd (k hX w1 w2 w3 H locs ls hR ho hh)
theorem z_ldc (hk : zk E K own cc nL h) {index : Nat} {v : Int32} (hd : decode cc pc = .ok (.ldc index, 2)) (hl : Cond.constant own index v ∈ lw_tbl) (k : zG E K fin X σ (pc + 2) lv (.inl v :: st)) : zG E K fin X σ pc lv st := by
  intro hX w1 w2 w3 H locs ls hR ho hh
  exact lv_ldc hk.1 hk.2.1 hk.2.2.2.1 (zw hk hl rfl) hd (k hX w1 w2 w3 H locs ls hR ho hh)
theorem z_ldcw (hk : zk E K own cc nL h) {index : Nat} {v : Int32} (hd : decode cc pc = .ok (.ldc_w index, 3)) (hl : Cond.constant own index v ∈ lw_tbl) (k : zG E K fin X σ (pc + 3) lv (.inl v :: st)) : zG E K fin X σ pc lv st := by
  intro hX w1 w2 w3 H locs ls hR ho hh
  exact lv_ldcw hk.1 hk.2.1 hk.2.2.2.1 (zw hk hl rfl) hd (k hX w1 w2 w3 H locs ls hR ho hh)
theorem z_idiv (hk : zk E K own cc nL h) {x y : Int32} (hd : decode cc pc = .ok (.idiv, 1)) (k : zG E K fin X σ (pc + 1) lv (.inl (x / y) :: st)) : zG E K fin (zdv y X) σ pc lv (.inl y :: .inl x :: st) := by
  intro hX w1 w2 w3 H locs ls hR ho hh
  unfold zdv at hX
  split at hX
  · exact z_none hX
  · next hy => exact lv_idiv hk.1 hk.2.1 hd hy (k hX w1 w2 w3 H locs ls hR ho hh)
theorem z_irem (hk : zk E K own cc nL h) {x y : Int32} (hd : decode cc pc = .ok (.irem, 1)) (k : zG E K fin X σ (pc + 1) lv (.inl (x - x / y * y) :: st)) : zG E K fin (zdv y X) σ pc lv (.inl y :: .inl x :: st) := by
  intro hX w1 w2 w3 H locs ls hR ho hh
  unfold zdv at hX
  split at hX
  · exact z_none hX
  · next hy => exact lv_irem hk.1 hk.2.1 hd hy (k hX w1 w2 w3 H locs ls hR ho hh)
theorem z_ldiv (hk : zk E K own cc nL h) {x y : Int64} (hd : decode cc pc = .ok (.ldiv, 1)) (k : zG E K fin X σ (pc + 1) lv (.inr (.inr (.inl (x / y))) :: st)) : zG E K fin (zdl y X) σ pc lv (.inr (.inr (.inl y)) :: .inr (.inr (.inl x)) :: st) := by
  intro hX w1 w2 w3 H locs ls hR ho hh
  unfold zdl at hX
  split at hX
  · exact z_none hX
  · next hy => exact lv_ldiv hk.1 hk.2.1 hd hy (k hX w1 w2 w3 H locs ls hR ho hh)
theorem z_ddiv (hk : zk E K own cc nL h) {x y : UInt64} {c : UInt64 → Option α} (hd : decode cc pc = .ok (.ddiv, 1)) (k : ∀ z, zG E K fin (c z) σ (pc + 1) lv (.inr (.inr (.inr (.inl z))) :: st)) : zG E K fin (zdd x y c) σ pc lv (.inr (.inr (.inr (.inl y))) :: .inr (.inr (.inr (.inl x))) :: st) := by
  intro hX w1 w2 w3 H locs ls hR ho hh
  unfold zdd at hX
  split at hX
  · next hy => exact lv_ddiv hk.1 hk.2.1 hd hy (k _ hX w1 w2 w3 H locs ls hR ho hh)
  · exact z_none hX
theorem z_tabI (hk : zk E K own cc nL h) {dflt lo hi : Int} {offs : Array Int} {len : Nat} {x c : Int32} {off : Int} {tgt : Nat} (hd : decode cc pc = .ok (.tableswitch dflt lo hi offs, len)) (h1 : lo ≤ c.toInt) (h2 : c.toInt ≤ hi) (ho9 : offs[(c.toInt - lo).toNat]? = some off) (ht : (pc : Int) + off = (tgt : Int))
    (kt : zG E K fin A σ tgt lv st) (kf : ¬ x = c → zG E K fin B σ pc lv (.inl x :: st)) : zG E K fin (if x = c then A else B) σ pc lv (.inl x :: st) := by
  intro hX w1 w2 w3 H locs ls hR ho hh
  by_cases hc : x = c
  · rw [if_pos hc] at hX
    subst hc
    exact lv_tableIn hk.1 hk.2.1 hd (by omega) (by omega) ho9 ht (kt hX w1 w2 w3 H locs ls hR ho hh)
  · rw [if_neg hc] at hX
    exact kf hc hX w1 w2 w3 H locs ls hR ho hh
theorem z_tabO (hk : zk E K own cc nL h) {dflt lo hi : Int} {offs : Array Int} {len : Nat} {x : Int32} {tgt : Nat} (hd : decode cc pc = .ok (.tableswitch dflt lo hi offs, len)) (hx : x.toInt < lo ∨ hi < x.toInt) (ht : (pc : Int) + dflt = (tgt : Int))
    (k : zG E K fin A σ tgt lv st) : zG E K fin A σ pc lv (.inl x :: st) := by
  intro hX w1 w2 w3 H locs ls hR ho hh
  exact lv_tableOut hk.1 hk.2.1 hd hx ht (k hX w1 w2 w3 H locs ls hR ho hh)
theorem z_lkI (hk : zk E K own cc nL h) {dflt : Int} {ps : Array (Int × Int)} {len : Nat} {x c : Int32} {tgt : Nat} (hd : decode cc pc = .ok (.lookupswitch dflt ps, len)) (hp : (ps.toList.zip (ps.toList.drop 1)).all (fun (a, next) => a.1 < next.1) = true) (ht : (pc : Int) + Op.lookupswitch.offset ps.toList dflt c.toInt = (tgt : Int))
    (kt : zG E K fin A σ tgt lv st) (kf : ¬ x = c → zG E K fin B σ pc lv (.inl x :: st)) : zG E K fin (if x = c then A else B) σ pc lv (.inl x :: st) := by
  intro hX w1 w2 w3 H locs ls hR ho hh
  by_cases hc : x = c
  · rw [if_pos hc] at hX
    subst hc
    exact lv_lookup hk.1 hk.2.1 hd hp rfl ht (kt hX w1 w2 w3 H locs ls hR ho hh)
  · rw [if_neg hc] at hX
    exact kf hc hX w1 w2 w3 H locs ls hR ho hh
theorem z_lkO (hk : zk E K own cc nL h) {dflt : Int} {ps : Array (Int × Int)} {len : Nat} {x : Int32} {tgt : Nat} (hd : decode cc pc = .ok (.lookupswitch dflt ps, len)) (hp : (ps.toList.zip (ps.toList.drop 1)).all (fun (a, next) => a.1 < next.1) = true) (hx : Op.lookupswitch.offset ps.toList dflt x.toInt = dflt) (ht : (pc : Int) + dflt = (tgt : Int))
    (k : zG E K fin A σ tgt lv st) : zG E K fin A σ pc lv (.inl x :: st) := by
  intro hX w1 w2 w3 H locs ls hR ho hh
  exact lv_lookup hk.1 hk.2.1 hd hp hx ht (k hX w1 w2 w3 H locs ls hR ho hh)
theorem z_ne_toInt {x c : Int32} {n : Int} (hx : ¬ x = c) (hc : c.toInt = n) : x.toInt ≠ n := fun e => hx (Int32.toInt_inj.mp (e.trans hc.symm))
theorem zS_of (hk : zk E K own cc nL h) {locs : List Loc} (w1 : zN (c0 K) ≤ zN σ) (hR : zRp E σ H) (ho : ∀ q ∈ locs, zB E ≤ q.base) : va_S (zold E) (cS K).heap H locs := by
  have r3 := (zcR hk).2.2
  refine ⟨by rw [hR.1, r3.1]; omega, fun q h1 h2 => ?_, fun q hq => ho q hq⟩
  have h3 : q < zB E := Nat.not_le.mp h2
  rw [hR.2.1 q h3, r3.2.1 q h3]
theorem zkeep (hk : zk E K own cc nL h) : ∀ a : Nat, a < (eS E).heap.size → ¬ zold E a → (cS K).heap[a]? = (eS E).heap[a]? := fun a h1 _ => (zcR hk).2.2.2.1 a h1
theorem z_gsB (hk : zk E K own cc nL h) {index : Nat} (hd : decode cc pc = .ok (.getstatic index, 3)) (hl : Cond.fieldLinkNest own index "LotSales" "FIRST_BOUNDS" "[I" "LotSales" ∈ lw_tbl) (k : zG E K fin X σ (pc + 3) lv (.inr (.inl 1) :: st)) : zG E K fin X σ pc lv st := by
  intro hX w1 w2 w3 H locs ls hR ho hh
  have hF := zk_F hk
  have hZ := (hF.2.2.2.2.2.2.1.1.kept (zkeep hk)).moved hk.2.2.2.2.2.1.alike
  refine va_getsN hk.1 hk.2.1 hZ (zS_of hk w1 hR ho) hk.2.2.2.1 (va_Nw.use rfl (va_Nw.warmF hk.2.2.2.2.2.1 (hF.2.1 _ hl))) (fun _ h => h) hd ?_
  have := k hX w1 w2 w3 H locs ls hR ho hh
  have ev : zv E (.inr (.inl 1)) = .ref (eA E 1) := zrv_ref (by decide)
  simp only [List.map_cons, ev] at this
  exact this
theorem z_gsI (hk : zk E K own cc nL h) {index : Nat} (hd : decode cc pc = .ok (.getstatic index, 3)) (hl : Cond.fieldLinkNest own index "LotSales" "FIRST_INCREMENTS" "[I" "LotSales" ∈ lw_tbl) (k : zG E K fin X σ (pc + 3) lv (.inr (.inl 2) :: st)) : zG E K fin X σ pc lv st := by
  intro hX w1 w2 w3 H locs ls hR ho hh
  have hF := zk_F hk
  have hZ := (hF.2.2.2.2.2.2.1.2.kept (zkeep hk)).moved hk.2.2.2.2.2.1.alike
  refine va_getsN hk.1 hk.2.1 hZ (zS_of hk w1 hR ho) hk.2.2.2.1 (va_Nw.use rfl (va_Nw.warmF hk.2.2.2.2.2.1 (hF.2.1 _ hl))) (fun _ h => h) hd ?_
  have := k hX w1 w2 w3 H locs ls hR ho hh
  have ev : zv E (.inr (.inl 2)) = .ref (eA E 2) := zrv_ref (by decide)
  simp only [List.map_cons, ev] at this
  exact this
theorem z_copy (hk : zk E K own cc nL h) {index : Nat} {r0 r1 : Nat} {sp dp n : Int32} {c : zW → Option α} (hd : decode cc pc = .ok (.invokestatic index, 3)) (hl : Cond.methodLink own index arraycopyName ∈ lw_tbl) (hnat : Cond.native arraycopyName ∈ lw_tbl) (hs : Cond.static arraycopyName ∈ lw_tbl) (hi : Cond.initialized "java/lang/System" ∈ lw_tbl)
    (hh1 : 2 ≤ h) (hst : st.length ≤ 8) (kk : ∀ σ1, zG E K fin (c σ1) σ1 (pc + 3) lv st) : zG E K fin (zcp σ r0 sp r1 dp n c) σ pc lv (.inl n :: .inl dp :: .inr (.inl r1) :: .inl sp :: .inr (.inl r0) :: st) := by
  intro hX w1 w2 w3 H locs ls hR ho hh
  unfold zcp at hX
  split at hX
  · next hc =>
    obtain ⟨⟨hc0, hc1⟩, ⟨h1, h2, h3⟩, h4, h5⟩ := hc
    have h0 : zK σ r0 ≠ 0 := by rcases hc0 with e | e <;> rw [e] <;> decide
    have h01 : zK σ r1 ≠ 0 := by rw [hc1]; decide
    have h21 : zK σ r1 ≠ 21 := by rw [hc1]; decide
    obtain ⟨scr, q1, ⟨q2, k0, hk0, cm0, hkk0⟩, q3, q4, -, q5⟩ := zsrc hk hR hc0
    have hP1 := zR_at hR h01 h21
    rw [zent_i (by simp [hc1]), hc1] at hP1
    have hKK := zK_of hk
    have hcat := zcatst (E := E) hst
    show zWw E K H locs _ _ (F0 _ _ _ (.int n :: .int dp :: zrv E r1 :: .int sp :: zrv E r0 :: _))
    rw [zrv_ref (zR_ob hR h0).1, zrv_ref (zR_ob hR h01).1]
    have nn : ∀ z : Int32, 0 ≤ z → z.toInt = (z.toNatClampNeg : Int) := by
      intro z hz
      have hz0 : (0 : Int) ≤ z.toInt := by simpa using Int32.le_iff_toInt_le.mp hz
      show z.toInt = ((z.toInt.toNat : Nat) : Int)
      omega
    intro T hT X
    have hc1' : H[eA E r1]? = some (vp_cell (eC E 20) (zL σ r1, .inl (zI σ r1))) := hP1 0 _ rfl
    obtain ⟨-, k1, hk1, cm1, hkk1⟩ := (hKK.2 0 _ rfl).1 (zL σ r1) (fun j => .int (zI σ r1 j))
    obtain ⟨vm', X', step⟩ := X.arraycopy hk.1 hk.2.2.2.1 (zw hk hl rfl) (zw hk hnat rfl) (zw hk hs rfl) (zw hk hi rfl) (src := eA E r0) (dst := eA E r1) (cs := scr) (cd := vp_cell (eC E 20) (zL σ r1, .inl (zI σ r1))) (srcPos := sp) (destPos := dp) (n := n) (by rw [hT]; exact q1) (by rw [hT]; exact hc1')
      q2 (fun _ h => by cases h) q3 (fun h => by cases h) hk0 hk1 hkk0 hkk1 (by simp [refKind]) (Int32.not_lt.mpr h1) (Int32.not_lt.mpr h2) (Int32.not_lt.mpr h3)
      (by rw [nn sp h1, nn n h3]; omega)
      (by rw [nn dp h2, nn n h3]; show ¬ _ > ((arrV (eC E 20) (zL σ r1) (fun j => .int (zI σ r1 j))).slots.size : Int); rw [arrV_size]; omega)
      (fun vm₁ _ i hi => by
        have e : scr.slots.getD (sp.toNatClampNeg + i) .null = .int (zI σ r0 (sp.toNatClampNeg + i)) := by
          rw [Array.getD_eq_getD_getElem?, q5 _ (by omega)]
          rfl
        refine ⟨?_, ?_⟩
        · rw [e]
          rfl
        · rw [e]
          exact trivial)
      (g := F0 (cM K) pc ls (.int n :: .int dp :: .ref (eA E r1) :: .int sp :: .ref (eA E r0) :: st.map (zv E))) rfl hh.1 (rest := st.map (zv E)) rfl (by rw [hk.2.1]; exact hd) (by have := zhf hk; omega) (by
        have e8 := zhl hk
        have e9 : nativeFrameWords "java/lang/System" "arraycopy" 5 + 11 ≤ 100 := by decide +kernel
        show 2 * 0 + _ + _ ≤ _
        omega)
    have e0 : scr.stretch sp.toNatClampNeg n.toNatClampNeg = (arrV (eC E 20) (zL σ r0) (fun j => .int (zI σ r0 j))).stretch sp.toNatClampNeg n.toNatClampNeg := by
      unfold Cell.stretch
      apply List.map_congr_left
      intro i hi
      have hi' := List.mem_range.mp hi
      rw [Array.getD_eq_getD_getElem?, Array.getD_eq_getD_getElem?, arrV_read _ _ (by omega), q5 _ (by omega)]
    have e1 : copied scr (vp_cell (eC E 20) (zL σ r1, .inl (zI σ r1))) sp dp n = vp_cell (eC E 20) (zL σ r1, .inl (va_cpy (zI σ r0) (zI σ r1) sp.toNatClampNeg dp.toNatClampNeg n.toNatClampNeg)) := by
      refine Eq.trans ?_ (va_copied (fun z => .int z) (eC E 20) (eC E 20) (zI σ r0) (zI σ r1) (n0 := zL σ r0) (n1 := zL σ r1) h4)
      show (arrV (eC E 20) (zL σ r1) (fun j => .int (zI σ r1 j))).storeRun dp.toNatClampNeg (scr.stretch sp.toNatClampNeg n.toNatClampNeg) = _
      rw [e0]
    rw [e1] at X' step
    have hl9 : eA E r1 < H.size := (Array.getElem?_eq_some_iff.mp hc1').1
    have hheap : ((T.setVm vm').setCell (eA E r1) (vp_cell (eC E 20) (zL σ r1, .inl (va_cpy (zI σ r0) (zI σ r1) sp.toNatClampNeg dp.toNatClampNeg n.toNatClampNeg)))).heap = H.setIfInBounds (eA E r1) (vp_cell (eC E 20) (zL σ r1, .inl (va_cpy (zI σ r0) (zI σ r1) sp.toNatClampNeg dp.toNatClampNeg n.toNatClampNeg))) := by rw [← hT]; rfl
    have oq : ∀ q : Nat, q ≠ eA E r1 → (H.setIfInBounds (eA E r1) (vp_cell (eC E 20) (zL σ r1, .inl (va_cpy (zI σ r0) (zI σ r1) sp.toNatClampNeg dp.toNatClampNeg n.toNatClampNeg))))[q]? = H[q]? := fun q hq => by simp [Array.getElem?_setIfInBounds, Ne.symm hq]
    have es : (H.setIfInBounds (eA E r1) (vp_cell (eC E 20) (zL σ r1, .inl (va_cpy (zI σ r0) (zI σ r1) sp.toNatClampNeg dp.toNatClampNeg n.toNatClampNeg))))[eA E r1]? = some (vp_cell (eC E 20) (zL σ r1, .inl (va_cpy (zI σ r0) (zI σ r1) sp.toNatClampNeg dp.toNatClampNeg n.toNatClampNeg))) := by simp [Array.getElem?_setIfInBounds, hl9]
    obtain ⟨t, a1, b1⟩ := kk _ hX w1 w2 w3 _ _ ls (zRp_upd (zk_F hk) hR h01 h21 rfl rfl rfl (fun o' h => zent_stA h) (by simp) oq (by rw [es, hc1']; simp [vp_cell_i, arrV_size]) (by
        rw [zent_i (σ := stA σ r1 _) (by left; exact hc1), show zK (stA σ r1 _) r1 = 20 from hc1]
        show (H.setIfInBounds _ _)[eA E r1]? = some (vp_cell _ _)
        rw [es]
        simp [stA, zI, zL, va_up])) (fun q hq => by
        rcases List.mem_append.mp hq with h | h
        · exact ho q h
        · obtain ⟨z, -, hz⟩ := List.mem_map.mp h
          rw [← hz]
          exact zA_new (zk_F hk) hR h01 h21) hh _ hheap X'
    exact ⟨t, step t a1, b1⟩
  · exact z_none hX
end ZL
