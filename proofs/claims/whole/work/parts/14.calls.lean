/-! METHODS: what a method answers, and how it is called -/
def zPc (E : zE) (av : List zV) (σ : zW) : Array Value → State → Prop := fun a U => a = (av.map (zv E)).toArray ∧ (eS E).WarmedH U.vm ∧ zRp E σ U.heap
def zrm (h : Nat) (σ : zW) : Room := { frames := h, cells := 603072 - zN σ, slots := 7219305 - zS σ, locals := 100 * h }
def zfree (E : zE) : Addr → Prop := fun q => zB E ≤ q
def zQr (E : zE) (rv : Option Value) (σ' : zW) : Array Value → State → Outcome → State → Prop := fun _ _ o t => o = .returned rv ∧ zRp E σ' t.heap
def zQx (E : zE) (res : zO) : Array Value → State → Outcome → State → Prop := fun _ _ o t => ∃ rv, res.1 = .inl rv ∧ o = .returned rv ∧ zRp E res.2 t.heap
def zXC (E : zE) (res : zO) : String → State → State → Prop := fun n _ t => ∃ k, res.1 = .inr k ∧ 1 ≤ k ∧ k ≤ 6 ∧ n = zxn k ∧ zRp E res.2 t.heap
/-- it returns rv, and the world is σ' -/
def zM (E : zE) (y : MethodName) (cc : ByteArray) (maxL : Nat) (ret : Option FieldType) (h : Nat) (av : List zV) (σ : zW) (rv : Option Value) (σ' : zW) : Prop :=
  Met (eL E) y [Cond.code y cc maxL ret] (zrm h σ) (zPc E av σ) (zQr E rv σ') (603072 - zN σ) (7219305 - zS σ) (zfree E)
/-- it returns or throws, and the world is res.2 -/
def zMX (E : zE) (y : MethodName) (w : Cond) (h : Nat) (av : List zV) (σ : zW) (res : zO) : Prop :=
  vx_Met (eL E) y [w] (zrm h σ) (zPc E av σ) (zQx E res) (zXC E res) (603072 - zN σ) (7219305 - zS σ) (zfree E)
/-- how a body ends -/
def zend (E : zE) (K : zC) (ret : Option FieldType) (nm : String) : Prop :=
  (cMe K).sig.returnType = ret ∧ (cMe K).name = nm ∧ ∀ (rv : Option Value) (σ' : zW), cO K = (.inl rv, σ') → ∀ (H : Heap) (locs : List Loc) (cells slots : Nat) (g : JFrame),
    W (cP K) (eL E) (cE K) (cR K) (cS K) (cM K) (cA K) (cB K) (cMe K) (cCo K) H locs cells slots (MQ (cB K) (zQr E rv σ') (cA K) (cS K) (cR K).cells (cR K).slots (zfree E)) g → zWw E K H locs cells slots g
def zthr (E : zE) (K : zC) : Prop := (∀ x ∈ (cCo K).exceptionTable.toList, False) ∧ cQ K = vx_MQ (cB K) (zQx E (cO K)) (zXC E (cO K)) (cA K) (cS K) (cR K).cells (cR K).slots (zfree E)
def zlv0 (av : List zV) (n : Nat) : zLV := av.map some ++ List.replicate (n - av.length) none
section ZE
variable {E : zE} {K : zC} {own : String} {cc : ByteArray} {nL h : Nat} {α : Type} {fin : α → zO} {X A B : Option α} {σ σ1 : zW} {pc : Nat} {lv : zLV} {st : List zV} {H H1 : Heap}
theorem zMQ_mono {below : List Frame} {Q1 Q2 : Array Value → State → Outcome → State → Prop} {a : Array Value} {s t : State} {mc ms : Nat} {free : Addr → Prop} (h : ∀ o t, Q1 a s o t → Q2 a s o t) (hq : MQ below Q1 a s mc ms free t) : MQ below Q2 a s mc ms free t := by
  obtain ⟨o, h1, h2, h3, h4⟩ := hq
  exact ⟨o, h1, h2, h _ _ h3, h4⟩
theorem zW_mono {p : Program} {l : Launch} {e : Env} {R : Room} {s : State} {m : MethodId} {args : Array Value} {below : List Frame} {meth : Method} {c : Code} {locs : List Loc} {cells slots : Nat} {Q Q' : State → Prop} {g : JFrame} (h : ∀ t, Q t → Q' t) (k : W p l e R s m args below meth c H locs cells slots Q g) : W p l e R s m args below meth c H locs cells slots Q' g := by
  intro T hT X
  obtain ⟨t, a, b⟩ := k T hT X
  exact ⟨t, a, h t b⟩
theorem zcat1 {v : zV} (h : zwide (some v) = false) : (zv E v).category = 1 := zv_wide h
theorem zsl : ∀ (av : List zV), (∀ v ∈ av, zwide (some v) = false) → lg_sl (av.map (zv E)) = (av.map (zv E)).map Slot.val ∧ ∀ i, lv_args i (av.map (zv E)) = zlv E i (av.map some)
  | [], _ => ⟨rfl, fun _ => rfl⟩
  | a :: t, h => by
    obtain ⟨h1, h2⟩ := zsl t (fun v hv => h v (List.mem_cons_of_mem _ hv))
    have hc := zcat1 (E := E) (h a List.mem_cons_self)
    refine ⟨?_, fun i => ?_⟩
    · show lg_sl (zv E a :: t.map (zv E)) = Slot.val (zv E a) :: (t.map (zv E)).map Slot.val
      rw [← h1]
      unfold lg_sl
      rw [List.flatMap_cons, hc]
      rfl
    · show lv_args i (zv E a :: t.map (zv E)) = (i, zv E a) :: zlv E (i + 1) (t.map some)
      rw [← h2 (i + 1)]
      simp only [lv_args, hc]
      rfl
theorem zlv_app : ∀ (a : zLV) (i n : Nat), zlv E i (a ++ List.replicate n none) = zlv E i a
  | [], i, 0 => rfl
  | [], i, n + 1 => zlv_app [] (i + 1) n
  | none :: t, i, n => zlv_app t (i + 1) n
  | some v :: t, i, n => congrArg (fun l => (i, zv E v) :: l) (zlv_app t (i + 1) n)
theorem zlv0_len {av : List zV} {n : Nat} (h : av.length ≤ n) : (zlv0 av n).length = n := by
  unfold zlv0
  rw [List.length_append, List.length_map, List.length_replicate]
  omega
/-- where a body begins -/
theorem z_open {av : List zV} {lv0 : zLV} (hav : ∀ v ∈ av, zwide (some v) = false) (hlen : av.length ≤ nL) (hlv : zlv0 av nL = lv0) (hmlx : (cCo K).maxLocals = nL) (hR : zRp E σ H) (hσ : c0 K = σ) (hX : ∃ o, X = some o ∧ fin o = cO K)
    (hcs : (cR K).cells = 603072 - zN σ ∧ (cR K).slots = 7219305 - zS σ) (ha : cA K = (av.map (zv E)).toArray) (k : zG E K fin X σ 0 lv0 []) : zWw E K H [] 0 0 (entryFrame (cM K) (cA K) nL) := by
  obtain ⟨e1, e2⟩ := zsl (E := E) av hav
  have hle : (lg_sl (av.map (zv E))).length ≤ nL := by rw [e1]; simpa using hlen
  have hl := lv_entry (av.map (zv E)) (n := nL) hle
  rw [ha, lg_entry_eq]
  rw [e2 0, ← zlv_app (E := E) (av.map some) 0 (nL - av.length)] at hl
  have hl : lv_has _ nL (zlv E 0 (zlv0 av nL)) := hl
  rw [hlv] at hl
  refine W.widen (k := (cR K).cells) (n := (cR K).slots) (Nat.zero_le _) (Nat.zero_le _) ?_
  exact k hX (by rw [hσ]; exact Nat.le_refl _) (by rw [hσ]; exact Nat.le_refl _) (by rw [hmlx, ← hlv, zlv0_len hlen]; exact Nat.le_refl _) H [] _ hR (fun q h => by cases h) (by rw [hmlx]; exact hl)
/-- a method that returns -/
theorem zM_of {y : MethodName} {ret : Option FieldType} {av : List zV} {rv : Option Value} {σ' : zW} {o : α} {lv0 : zLV} (hF : zFx E) (hy : plainName y.cls = true) (hav : av.all (fun v => !zwide (some v)) = true) (hlen : av.length ≤ nL) (hlv : zlv0 av nL = lv0) (hX : X = some o) (hfo : fin o = (.inl rv, σ'))
    (body : ∀ K, zk E K y.cls cc nL h → zend E K ret y.name → zG E K fin X σ 0 lv0 []) : zM E y cc nL ret h av σ rv σ' := by
  refine Met.ofW (cc := cc) (maxL := nL) (ret := ret) hy rfl ?_
  intro p e s m args below meth c s₁ B hml hv
  obtain ⟨ha, hW, hR⟩ := hv
  have hown : s.vm.findClass y.cls = some m.cls := findClass_of_methodNamed B.named
  have hname : meth.name = y.name := (name_of_methodNamed B.named B.method).1
  refine z_open (E := E) (K := ((p, e, zrm h σ, s, m, args, below), (meth, c, MQ below (zQr E rv σ') args s (603072 - zN σ) (7219305 - zS σ) (zfree E)), σ, (.inl rv, σ'))) (fin := fin) (X := X) (fun v hv => by have := List.all_eq_true.mp hav v hv; simpa using this) hlen hlv hml hR rfl ⟨o, hX, hfo⟩ ⟨rfl, rfl⟩ ha (body _ ⟨B.exec, B.bytes, hml, hown, B.notSynchronized, hW, hF, rfl, rfl, Nat.le_refl _, Nat.le_refl _, hR⟩ ⟨B.returns, hname, fun rv2 σ2 he H locs cells slots g k => ?_⟩)
  have he' : ((.inl rv, σ') : zO) = (.inl rv2, σ2) := he
  cases he'
  exact k
/-- a method that returns or throws, without handlers -/
theorem zMX_of {y : MethodName} {ret : Option FieldType} {av : List zV} {res : zO} {o : α} {lv0 : zLV} (hF : zFx E) (hy : plainName y.cls = true) (hav : av.all (fun v => !zwide (some v)) = true) (hlen : av.length ≤ nL) (hlv : zlv0 av nL = lv0) (hX : X = some o) (hfo : fin o = res)
    (body : ∀ K, zk E K y.cls cc nL h → zend E K ret y.name → zthr E K → zG E K fin X σ 0 lv0 []) : zMX E y (Cond.code y cc nL ret) h av σ res := by
  refine vx_ofW (cc := cc) (maxL := nL) (ret := ret) hy rfl ?_
  intro p e s m args below meth c s₁ B hml htab hv
  obtain ⟨ha, hW, hR⟩ := hv
  have hown : s.vm.findClass y.cls = some m.cls := findClass_of_methodNamed B.named
  have hname : meth.name = y.name := (name_of_methodNamed B.named B.method).1
  refine z_open (E := E) (K := ((p, e, zrm h σ, s, m, args, below), (meth, c, vx_MQ below (zQx E res) (zXC E res) args s (603072 - zN σ) (7219305 - zS σ) (zfree E)), σ, res)) (fin := fin) (X := X) (fun v hv => by have := List.all_eq_true.mp hav v hv; simpa using this) hlen hlv hml hR rfl ⟨o, hX, hfo⟩ ⟨rfl, rfl⟩ ha (body _ ⟨B.exec, B.bytes, hml, hown, B.notSynchronized, hW, hF, rfl, rfl, Nat.le_refl _, Nat.le_refl _, hR⟩ ⟨B.returns, hname, fun rv2 σ2 he H locs cells slots g k => ?_⟩ ⟨htab, rfl⟩)
  have he' : res = (.inl rv2, σ2) := he
  exact vx_ret (zW_mono (fun t ht => zMQ_mono (fun o t h => ⟨rv2, by rw [he'], h.1, by rw [he']; exact h.2⟩) ht) k)
/-! returns -/
theorem z_iret (hk : zk E K own cc nL h) {nm : String} (he : zend E K (some .int) nm) {v : Int32} {o : α} (hd : decode cc pc = .ok (.ireturn, 1)) (hf : fin o = (.inl (some (.int v)), σ)) : zG E K fin (some o) σ pc lv [.inl v] := by
  rintro ⟨o', h1, h2⟩ w1 w2 w3 H locs ls hR ho hh
  cases h1
  exact he.2.2 _ _ (h2.symm.trans hf) H locs _ _ _ (W.iret (v := v) hk.1 hk.2.1 he.1 (fun t ht _ => ⟨rfl, by rw [ht]; exact hR⟩) ho hd hk.2.2.2.2.1)
theorem z_zret (hk : zk E K own cc nL h) {nm : String} (he : zend E K (some .boolean) nm) {v : Int32} {o : α} (hd : decode cc pc = .ok (.ireturn, 1)) (hf : fin o = (.inl (some (.int v)), σ)) : zG E K fin (if v = 0 ∨ v = 1 then some o else none) σ pc lv [.inl v] := by
  intro hX w1 w2 w3 H locs ls hR ho hh
  split at hX
  · next hv =>
    obtain ⟨o', h1, h2⟩ := hX
    cases h1
    exact he.2.2 _ _ (h2.symm.trans hf) H locs _ _ _ (W.zret (v := v) hk.1 hk.2.1 he.1 (by rcases hv with e | e <;> rw [e] <;> rfl) (fun t ht _ => ⟨rfl, by rw [ht]; exact hR⟩) ho hd hk.2.2.2.2.1)
  · exact z_none hX
theorem z_vret (hk : zk E K own cc nL h) {nm : String} (he : zend E K none nm) {o : α} (hd : decode cc pc = .ok (.return_, 1)) (hf : fin o = (.inl none, σ)) : zG E K fin (some o) σ pc lv [] := by
  rintro ⟨o', h1, h2⟩ w1 w2 w3 H locs ls hR ho hh
  cases h1
  exact he.2.2 _ _ (h2.symm.trans hf) H locs _ _ _ (W.vret hk.1 hk.2.1 he.1 (fun t ht _ => ⟨rfl, by rw [ht]; exact hR⟩) ho hd hk.2.2.2.2.1)
theorem z_dret (hk : zk E K own cc nL h) {nm : String} (he : zend E K (some .double) nm) {v : UInt64} {o : α} (hd : decode cc pc = .ok (.dreturn, 1)) (hf : fin o = (.inl (some (.double v)), σ)) : zG E K fin (some o) σ pc lv [.inr (.inr (.inr (.inl v)))] := by
  rintro ⟨o', h1, h2⟩ w1 w2 w3 H locs ls hR ho hh
  cases h1
  exact he.2.2 _ _ (h2.symm.trans hf) H locs _ _ _ (W.dret (v := v) hk.1 hk.2.1 he.1 (fun t ht _ => ⟨rfl, by rw [ht]; exact hR⟩) ho hd hk.2.2.2.2.1)
/-! calls -/
theorem z_mono {s T : State} {σ0 σ' : zW} {p : Program} {l : Launch} {e : Env} {R : Room} {m : MethodId} {args : Array Value} {below : List Frame} {meth : Method} {c : Code} {locs : List Loc} {cells slots : Nat} (h0 : zRp E σ0 s.heap) (h : zRp E σ' T.heap) (X : Stand p l e R s m args below meth c T locs cells slots) : zN σ0 ≤ zN σ' ∧ zS σ0 ≤ zS σ' := by
  obtain ⟨e1, e2, e3, e4, e5, e6⟩ := X.same
  have hh : (T.setVm s.vm).heap = T.heap := rfl
  rw [hh] at e2 e6
  have h1 := h.1
  have h2 := h0.1
  refine ⟨by omega, ?_⟩
  have hb : zB E ≤ s.heap.size := by omega
  have s1 := zsum_split (H := T.heap) hb
  have s2 := zsum_split (H := s.heap) hb
  have s3 : zsum s.heap.size s.heap = 0 := by
    unfold zsum
    rw [List.drop_eq_nil_of_le (by simp)]
    rfl
  have s4 : ((T.heap.toList.drop (zB E)).take (s.heap.size - zB E)).map (fun (c : Cell) => c.slots.size) = ((s.heap.toList.drop (zB E)).take (s.heap.size - zB E)).map (fun (c : Cell) => c.slots.size) := by
    apply List.ext_getElem?
    intro i
    simp only [List.getElem?_map, List.getElem?_take, List.getElem?_drop, Array.getElem?_toList]
    by_cases hi : i < s.heap.size - zB E
    · rw [if_pos hi, if_pos hi]
      have hl : zB E + i < s.heap.size := by omega
      obtain ⟨c', g1, -, g3, -⟩ := e6 (zB E + i) _ (Array.getElem?_eq_getElem hl)
      rw [g1, Array.getElem?_eq_getElem hl]
      simp [g3]
    · rw [if_neg hi, if_neg hi]
  rw [s4] at s1
  have h3 : zsum (zB E) T.heap = zS σ' := h.2.2.1
  have h4 : zsum (zB E) s.heap = zS σ0 := h0.2.2.1
  omega
/-- behind a call that returned -/
theorem z_after (hk : zk E K own cc nL h) {rv : Option Value} {rst : List zV} {σ' : zW} {locs : List Loc} {ls : Array Slot} {st0 rest : List Value} (w1 : zN (c0 K) ≤ zN σ) (w2 : zS (c0 K) ≤ zS σ) (w3 : lv.length ≤ (cCo K).maxLocals) (hR : zRp E σ H) (ho : ∀ q ∈ locs, zB E ≤ q.base) (hh : lv_has ls (cCo K).maxLocals (zlv E 0 lv))
    (hr : va_Run (cP K) (eL E) (cE K) (cR K) (cS K) (cM K) (cA K) (cB K) (cMe K) (cCo K) H locs (zN σ - zN (c0 K)) (zS σ - zS (c0 K)) (603072 - zN σ) (7219305 - zS σ) (F0 (cM K) pc ls st0) rest (fun _ o t => o = .returned rv ∧ zRp E σ' t.heap) (zfree E))
    (hst : rv.toList ++ rest = rst.map (zv E)) (hX : ∃ o, X = some o ∧ fin o = cO K) (k : zG E K fin X σ' (pc + 3) lv rst) : zWw E K H locs (zN σ - zN (c0 K)) (zS σ - zS (c0 K)) (F0 (cM K) pc ls st0) := by
  intro T hT X9
  obtain ⟨v, st₀, t, T', L, g1, X', g2, g3, g4, ⟨g5, g6⟩, g7⟩ := hr T hT X9
  cases g5
  rw [← g3] at g6
  obtain ⟨r1, r2, r3⟩ := zcR hk
  have hb1 := hR.2.2.2.1
  have hb2 := hR.2.2.2.2.1
  obtain ⟨m1, m2⟩ := z_mono r3 g6 X'
  have X'' := stand_widen (k := (cR K).cells) (n := (cR K).slots) X' (by rw [r1]; omega) (by rw [r2]; omega)
  obtain ⟨t2, a1, b1⟩ := k hX m1 m2 w3 T'.heap (locs ++ L) ls g6 (fun q hq => (List.mem_append.mp hq).elim (ho q) (g2 q)) hh T' rfl X''
  rw [← hst] at a1
  exact ⟨t2, g7 t2 a1, b1⟩
theorem zPc_blind (av : List zV) : FrameBlind (zPc E av σ) := fun _ _ _ _ h => h
theorem zPre (hk : zk E K own cc nL h) {av : List zV} (hR : zRp E σ H) : ∀ U : State, U.heap = H → (cS K).WarmedH U.vm → zPc E av σ (av.map (zv E)).toArray U := fun U hU hW => ⟨rfl, State.WarmedH.trans hk.2.2.2.2.2.1 hW, by rw [hU]; exact hR⟩
theorem zCB (hk : zk E K own cc nL h) {y : MethodName} {cy : ByteArray} {maxL n index h' : Nat} {ret : Option FieldType} {σ : zW} (hl : Cond.methodLink own index y ∈ lw_tbl) (hini : Cond.initialized y.cls ∈ lw_tbl) (hcd : Cond.code y cy maxL ret ∈ lw_tbl) (hd2 : y.cls ≠ "java/lang/invoke/MethodHandle" ∧ y.cls ≠ "java/lang/invoke/VarHandle" ∧ (parseMethodDescriptor y.desc).map (fun d => d.parameters.length) = some n) (hroom : h' + 1 ≤ h ∧ maxL ≤ 81) :
    CallB (cR K) (cS K) (cA K) own index y cy maxL ret [Cond.code y cy maxL ret] (zrm h' σ) (603072 - zN σ) (7219305 - zS σ) n := by
  have hts : ∀ w ∈ [Cond.code y cy maxL ret], w.before (cA K) (cS K) = true := fun w hw => by rw [List.mem_singleton.mp hw]; exact zw hk hcd rfl
  refine callB_of n hts (fun w hw => ⟨hw, by rw [List.mem_singleton.mp hw]; exact good_of_word rfl⟩) rfl rfl rfl (zw hk hini rfl) (zw hk hl rfl) hd2 ⟨?_, ?_⟩
  · exact Nat.le_trans hroom.1 (zhf hk)
  · have := zhl hk
    show 8 + (maxL + 11) + 100 * h' ≤ (cR K).locals
    omega
theorem zcell (hk : zk E K own cc nL h) {ci r : Nat} {q : vw_C} (hc : zcl[ci]? = some q) (hR : zRp E σ H) (hκ : zK σ r = ci + 1) : ∃ cell : Cell, H[eA E r]? = some cell ∧ cell.vm.isStatics = false ∧ (cS K).vm.findClass q.1 = some cell.cls := by
  have hci : ci < 9 := (List.getElem?_eq_some_iff.mp hc).1
  have hP := zR_at hR (o := r) (by omega) (by omega)
  rw [zent_ob hκ hci] at hP
  exact va_recv (zK_of hk) hP hc (q0 := 0) rfl
/-- the words of a call, and what stands at it -/
def zcat : List zV → Nat
  | [] => 0
  | a :: t => (if zwide (some a) = true then 2 else 1) + zcat t
theorem zcat_le : ∀ st : List zV, ((st.map (zv E)).map fun v => v.category).sum ≤ zcat st
  | [] => Nat.le_refl _
  | a :: t => by
    have ih := zcat_le t
    have h1 : (zv E a).category ≤ if zwide (some a) = true then 2 else 1 := by
      by_cases hw : zwide (some a) = true
      · rw [if_pos hw]
        cases zv E a <;> simp [Value.category]
      · rw [if_neg hw, zcat1 (E := E) (by simpa using hw)]
        exact Nat.le_refl _
    show (zv E a).category + ((t.map (zv E)).map fun v => v.category).sum ≤ _ + zcat t
    omega
theorem zrest8 (hst : zcat st ≤ 8) : 2 * (F0 (cM K) pc #[] []).monitorRoom + ((st.map (zv E)).map fun v => v.category).sum ≤ 8 := by
  have := zcat_le (E := E) st
  show 2 * 0 + _ ≤ 8
  omega
/-- a virtual call of a method that returns -/
theorem z_cv (hk : zk E K own cc nL h) {y : MethodName} {cy : ByteArray} {maxL n index h' ci r : Nat} {ret : Option FieldType} {q : vw_C} {As : List zV} {rv : Option Value} {σ' : zW} {rst : List zV} (hd : decode cc pc = .ok (.invokevirtual index, 3)) (hl : Cond.methodLink own index y ∈ lw_tbl) (hin : Cond.instanceMethod y ∈ lw_tbl) (hsel : Cond.selects y.cls y y ∈ lw_tbl) (hini : Cond.initialized y.cls ∈ lw_tbl) (hcd : Cond.code y cy maxL ret ∈ lw_tbl)
    (hd2 : y.cls ≠ "java/lang/invoke/MethodHandle" ∧ y.cls ≠ "java/lang/invoke/VarHandle" ∧ (parseMethodDescriptor y.desc).map (fun d => d.parameters.length) = some n) (hroom : h' + 1 ≤ h ∧ maxL ≤ 81) (hc : zcl[ci]? = some q) (hq : q.1 = y.cls) (hκ : zK σ r = ci + 1) (hn : As.length = n) (hM : zM E y cy maxL ret h' (.inr (.inl r) :: As) σ rv σ')
    (hst8 : zcat st ≤ 8) (hst : rv.toList ++ st.map (zv E) = rst.map (zv E)) (k : zG E K fin X σ' (pc + 3) lv rst) : zG E K fin X σ pc lv (As.reverse ++ .inr (.inl r) :: st) := by
  intro hX w1 w2 w3 H locs ls hR ho hh
  obtain ⟨r1, r2, r3⟩ := zcR hk
  have hb1 := hR.2.2.2.1
  have hb2 := hR.2.2.2.2.1
  have hr0 : r ≠ 0 := (zR_ob hR (o := r) (by omega)).1
  have er : zrv E r = .ref (eA E r) := zrv_ref hr0
  refine z_tight (k := zN σ - zN (c0 K)) (n := zS σ - zS (c0 K)) r3 hR (by omega) (by omega) ?_
  refine z_after hk w1 w2 w3 hR ho hh (rv := rv) (rst := rst) (rest := st.map (zv E)) ?_ hst hX k
  have hcell := zcell hk hc hR hκ
  rw [hq] at hcell
  have e0 : (As.reverse ++ .inr (.inl r) :: st).map (zv E) = (As.map (zv E)).reverse ++ .ref (eA E r) :: st.map (zv E) := by
    rw [List.map_append, List.map_reverse, List.map_cons]
    show _ ++ zrv E r :: _ = _
    rw [er]
  rw [e0]
  have hpre := zPre hk (av := .inr (.inl r) :: As) hR
  have e1 : ((.inr (.inl r) :: As : List zV).map (zv E)) = Value.ref (eA E r) :: As.map (zv E) := by
    show zrv E r :: _ = _
    rw [er]
  rw [e1] at hpre
  exact va_runV (Ts := []) (C := y.cls) ⟨hk.1, hk.2.1, hk.2.2.1, hk.2.2.2.1, fun w h => by cases h⟩ hM ⟨zCB hk hl hini hcd hd2 hroom, zw hk hin rfl, zw hk hsel rfl⟩ ⟨zPc_blind _, hcell, hpre⟩ rfl (by rw [List.length_map]; exact hn) (by rw [← hk.2.2.1]; exact hh.1) rfl (zrest8 (K := K) (pc := pc) hst8) hd ⟨by rw [r1]; omega, by rw [r2]; omega⟩
/-- a static call of a method that returns -/
theorem z_cs (hk : zk E K own cc nL h) {y : MethodName} {cy : ByteArray} {maxL n index h' : Nat} {ret : Option FieldType} {As : List zV} {rv : Option Value} {σ' : zW} {rst : List zV} (hd : decode cc pc = .ok (.invokestatic index, 3)) (hl : Cond.methodLink own index y ∈ lw_tbl) (hin : Cond.static y ∈ lw_tbl) (hini : Cond.initialized y.cls ∈ lw_tbl) (hcd : Cond.code y cy maxL ret ∈ lw_tbl)
    (hd2 : y.cls ≠ "java/lang/invoke/MethodHandle" ∧ y.cls ≠ "java/lang/invoke/VarHandle" ∧ (parseMethodDescriptor y.desc).map (fun d => d.parameters.length) = some n) (hroom : h' + 1 ≤ h ∧ maxL ≤ 81) (hn : As.length = n) (hM : zM E y cy maxL ret h' As σ rv σ')
    (hst8 : zcat st ≤ 8) (hst : rv.toList ++ st.map (zv E) = rst.map (zv E)) (k : zG E K fin X σ' (pc + 3) lv rst) : zG E K fin X σ pc lv (As.reverse ++ st) := by
  intro hX w1 w2 w3 H locs ls hR ho hh
  obtain ⟨r1, r2, r3⟩ := zcR hk
  have hb1 := hR.2.2.2.1
  have hb2 := hR.2.2.2.2.1
  refine z_tight (k := zN σ - zN (c0 K)) (n := zS σ - zS (c0 K)) r3 hR (by omega) (by omega) ?_
  refine z_after hk w1 w2 w3 hR ho hh (rv := rv) (rst := rst) (rest := st.map (zv E)) ?_ hst hX k
  have e0 : (As.reverse ++ st).map (zv E) = (As.map (zv E)).reverse ++ st.map (zv E) := by
    rw [List.map_append, List.map_reverse]
  rw [e0]
  exact va_runS (Ts := []) ⟨hk.1, hk.2.1, hk.2.2.1, hk.2.2.2.1, fun w h => by cases h⟩ hM ⟨zCB hk hl hini hcd hd2 hroom, zw hk hin rfl⟩ ⟨zPc_blind _, zPre hk hR⟩ rfl (by rw [List.length_map]; exact hn) (by rw [← hk.2.2.1]; exact hh.1) rfl (zrest8 (K := K) (pc := pc) hst8) hd ⟨by rw [r1]; omega, by rw [r2]; omega⟩
end ZE
