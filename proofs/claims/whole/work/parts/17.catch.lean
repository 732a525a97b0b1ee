/-! BODIES WITH HANDLERS -/
section ZH
variable {E : zE} {K : zC} {own : String} {cc : ByteArray} {nL h : Nat} {α : Type} {fin : α → zO} {X A B : Option α} {σ σ1 : zW} {pc : Nat} {lv : zLV} {st : List zV} {H H1 : Heap} {hh : List (Nat × Nat × Nat × Nat)}
/-- a method with handlers -/
theorem zMX_ofH {y : MethodName} {ret : Option FieldType} {av : List zV} {res : zO} {o : α} {lv0 : zLV} (hF : zFx E) (hy : plainName y.cls = true) (hav : av.all (fun v => !zwide (some v)) = true) (hlen : av.length ≤ nL) (hlv : zlv0 av nL = lv0) (hX : X = some o) (hfo : fin o = res)
    (body : ∀ K, zk E K y.cls cc nL h → zend E K ret y.name → (cCo K).exceptionTable.toList = tableOf hh → zG E K fin X σ 0 lv0 []) : zMX E y (Cond.codeWith y cc nL ret hh) h av σ res := by
  refine vx_ofWH (cc := cc) (maxL := nL) (ret := ret) (hh := hh) hy rfl ?_
  intro p e s m args below meth c s₁ B hml hv
  obtain ⟨ha, hW, hR⟩ := hv
  have htab := vx_table (x := y) B (atoms_spec (ws := [Cond.codeWith y cc nL ret hh]) B.pre _ List.mem_cons_self)
  have hown : s.vm.findClass y.cls = some m.cls := findClass_of_methodNamed B.named
  have hname : meth.name = y.name := (name_of_methodNamed B.named B.method).1
  refine z_open (E := E) (K := ((p, e, zrm h σ, s, m, args, below), (meth, c, vx_MQ below (zQx E res) (zXC E res) args s (603072 - zN σ) (7219305 - zS σ) (zfree E)), σ, res)) (fin := fin) (X := X) (fun v hv => by have := List.all_eq_true.mp hav v hv; simpa using this) hlen hlv hml hR rfl ⟨o, hX, hfo⟩ ⟨rfl, rfl⟩ ha (body _ ⟨B.exec, B.bytes, hml, hown, B.notSynchronized, hW, hF, rfl, rfl, Nat.le_refl _, Nat.le_refl _, hR⟩ ⟨B.returns, hname, fun rv2 σ2 he H locs cells slots g k => ?_⟩ htab)
  have he' : res = (.inl rv2, σ2) := he
  exact vx_ret (zW_mono (fun t ht => zMQ_mono (fun o t h => ⟨rv2, by rw [he'], h.1, by rw [he']; exact h.2⟩) ht) k)
/-- the handlers ahead of the i-th don't take it -/
def zTi (E : zE) (K : zC) (own : String) {α : Type} (fin : α → zO) (X : Option α) (kx : Nat) (σ : zW) (pc : Nat) (lv : zLV) (i : Nat) : Prop :=
  (∀ z ∈ (cCo K).exceptionTable.toList.take i, covers z pc = false ∨ (z.catchType ≠ 0 ∧ ∃ nm : String, (Cond.classLink own z.catchType nm).before (cA K) (cS K) = true ∧ va_Nc (zxn kx) nm (cS K))) → zT E K fin X kx σ pc lv
theorem z_cat0 {kx : Nat} (k : zTi E K own fin X kx σ pc lv 0) : zT E K fin X kx σ pc lv := k (fun z hz => by simp at hz)
theorem z_catN {kx i : Nat} : zTi E K own fin (none : Option α) kx σ pc lv i := by
  intro _ hX
  exact z_none hX
theorem z_catI (hk : zk E K own cc nL h) (htab : (cCo K).exceptionTable.toList = tableOf hh) {i k1 kx hp : Nat} {x : ExceptionTableEntry} (hx : (tableOf hh)[i]? = some x) (hcov : covers x pc = true) (h0 : x.catchType ≠ 0) (hhp : x.handlerPc = hp) (hl : Cond.classLink own x.catchType (zxn k1) ∈ lw_tbl) (hca : Cond.castable (zxn k1) (zxn k1) ∈ lw_tbl) (h1 : 1 ≤ k1) (h6 : k1 ≤ 6)
    (kt : ∀ q : Addr, zG E K fin A σ hp lv [.inr (.inr (.inr (.inr q)))]) (kf : zTi E K own fin B kx σ pc lv (i + 1)) : zTi E K own fin (if kx = k1 then A else B) kx σ pc lv i := by
  intro hpass hX w1 w2 w3 hk1 hk6 H locs ls q ce rest hR ho hh2 hq hv hc
  have hW := hk.2.2.2.2.2.1
  have hF := zk_F hk
  have hi := (List.getElem?_eq_some_iff.mp hx)
  obtain ⟨hlt, hxe⟩ := hi
  by_cases hkx : kx = k1
  · rw [if_pos hkx] at hX
    subst hkx
    have hsplit : (cCo K).exceptionTable.toList = (tableOf hh).take i ++ x :: (tableOf hh).drop (i + 1) := by
      rw [htab, ← hxe, ← List.drop_eq_getElem_cons hlt, List.take_append_drop]
    rw [htab] at hpass
    refine vx_catch (E := zxn kx) hk.2.2.2.1 _ x _ hsplit hpass hcov h0 (zw hk hl rfl) (va_Nw.use rfl (va_Nw.warmC hW (hF.2.1 _ hca))) hq hv hc ?_
    rw [hhp]
    exact kt q hX w1 w2 w3 H locs ls hR ho hh2
  · rw [if_neg hkx] at hX
    refine kf (fun z hz => ?_) hX w1 w2 w3 hk1 hk6 H locs ls q ce rest hR ho hh2 hq hv hc
    rw [htab] at hpass hz
    rw [List.take_succ, hx] at hz
    rcases List.mem_append.mp hz with g | g
    · exact hpass z g
    · have e : z = x := by simpa using g
      subst e
      exact Or.inr ⟨h0, _, zw hk hl rfl, va_Nc.moved hW.alike (hF.2.2.2.2.2.2.2.2.2 kx k1 hk1 hk6 h1 h6 hkx)⟩
/-- a static call of a method with handlers, that returns -/
theorem z_csw (hk : zk E K own cc nL h) {y : MethodName} {cy : ByteArray} {maxL n index h' : Nat} {ret : Option FieldType} {As : List zV} {rv : Option Value} {σ' : zW} {rst : List zV} (hd : decode cc pc = .ok (.invokestatic index, 3)) (hl : Cond.methodLink own index y ∈ lw_tbl) (hin : Cond.static y ∈ lw_tbl) (hini : Cond.initialized y.cls ∈ lw_tbl) (hcd : Cond.codeWith y cy maxL ret hh ∈ lw_tbl)
    (hd2 : y.cls ≠ "java/lang/invoke/MethodHandle" ∧ y.cls ≠ "java/lang/invoke/VarHandle" ∧ (parseMethodDescriptor y.desc).map (fun d => d.parameters.length) = some n) (hroom : h' + 1 ≤ h ∧ maxL ≤ 81) (hn : As.length = n) (hM : zMX E y (Cond.codeWith y cy maxL ret hh) h' As σ (.inl rv, σ'))
    (hst8 : zcat st ≤ 8) (hst : rv.toList ++ st.map (zv E) = rst.map (zv E)) (k : zG E K fin X σ' (pc + 3) lv rst) : zG E K fin X σ pc lv (As.reverse ++ st) := by
  intro hX w1 w2 w3 H locs ls hR ho hh2
  obtain ⟨r1, r2, r3⟩ := zcR hk
  have hb1 := hR.2.2.2.1
  have hb2 := hR.2.2.2.2.1
  refine z_tight (k := zN σ - zN (c0 K)) (n := zS σ - zS (c0 K)) r3 hR (by omega) (by omega) ?_
  refine z_afterx hk w1 w2 w3 hR ho hh2 (res := (.inl rv, σ')) (st := st) ?_ hX (fun rv2 h2 => ?_) (fun kx h2 => by cases h2)
  · have e0 : (As.reverse ++ st).map (zv E) = (As.map (zv E)).reverse ++ st.map (zv E) := by
      rw [List.map_append, List.map_reverse]
    rw [e0]
    have hts : ∀ w ∈ [Cond.codeWith y cy maxL ret hh], w.before (cA K) (cS K) = true := fun w hw => by rw [List.mem_singleton.mp hw]; exact zw hk hcd rfl
    have hgd : GoodIn [Cond.codeWith y cy maxL ret hh] [Cond.codeWith y cy maxL ret hh] := fun w hw => ⟨hw, by have e := List.mem_singleton.mp hw; subst e; exact good_of_word rfl⟩
    refine vx_runSX (Ts := []) ⟨hk.1, hk.2.1, hk.2.2.1, hk.2.2.2.1, fun w h => by cases h⟩ hM ⟨⟨rfl, rfl, ?_, ?_, pay_in hts hgd, List.mem_cons_self⟩, zw hk hcd rfl, zw hk hini rfl, ⟨hd2.1, hd2.2.1⟩, fun sig hs => ?_, zw hk hl rfl, zw hk hin rfl⟩ ⟨zPc_blind _, zPre hk hR⟩ rfl (by rw [List.length_map]) (by rw [← hk.2.2.1]; exact hh2.1) rfl (zrest8 (K := K) (pc := pc) hst8) hd ⟨by rw [r1]; omega, by rw [r2]; omega⟩
    · exact Nat.le_trans hroom.1 (zhf hk)
    · have := zhl hk
      show 8 + (maxL + 11) + 100 * h' ≤ (cR K).locals
      omega
    · have h2 := hd2.2.2
      rw [hs] at h2
      exact hn.trans (Option.some.inj h2).symm
  · cases h2
    exact ⟨rst, hst, k⟩
end ZH
