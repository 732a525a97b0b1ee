/-! MORE CALLS, THROWS -/
def zck {α : Type} (σ : zW) (κ r : Nat) (X : Option α) : Option α := if zK σ r = κ then X else none
section ZF
variable {E : zE} {K : zC} {own : String} {cc : ByteArray} {nL h : Nat} {α : Type} {fin : α → zO} {X A B : Option α} {σ σ1 : zW} {pc : Nat} {lv : zLV} {st : List zV} {H H1 : Heap}
/-- a constructor's call -/
theorem z_ci (hk : zk E K own cc nL h) {y : MethodName} {cy : ByteArray} {maxL n index h' r : Nat} {As : List zV} {σ' : zW} (hd : decode cc pc = .ok (.invokespecial index, 3)) (hl : Cond.methodLink own index y ∈ lw_tbl) (hin : Cond.instanceMethod y ∈ lw_tbl) (hini : Cond.initialized y.cls ∈ lw_tbl) (hcd : Cond.code y cy maxL none ∈ lw_tbl) (hy1 : y.name = "<init>")
    (hd2 : y.cls ≠ "java/lang/invoke/MethodHandle" ∧ y.cls ≠ "java/lang/invoke/VarHandle" ∧ (parseMethodDescriptor y.desc).map (fun d => d.parameters.length) = some n) (hroom : h' + 1 ≤ h ∧ maxL ≤ 81) (hr0 : r ≠ 0) (hn : As.length = n) (hM : zM E y cy maxL none h' (.inr (.inl r) :: As) σ none σ')
    (hst8 : zcat st ≤ 8) (k : zG E K fin X σ' (pc + 3) lv st) : zG E K fin X σ pc lv (As.reverse ++ .inr (.inl r) :: st) := by
  intro hX w1 w2 w3 H locs ls hR ho hh
  obtain ⟨r1, r2, r3⟩ := zcR hk
  have hb1 := hR.2.2.2.1
  have hb2 := hR.2.2.2.2.1
  have er : zrv E r = .ref (eA E r) := zrv_ref hr0
  refine z_tight (k := zN σ - zN (c0 K)) (n := zS σ - zS (c0 K)) r3 hR (by omega) (by omega) ?_
  refine z_after hk w1 w2 w3 hR ho hh (rv := none) (rst := st) (rest := st.map (zv E)) ?_ rfl hX k
  have e0 : (As.reverse ++ .inr (.inl r) :: st).map (zv E) = (As.map (zv E)).reverse ++ .ref (eA E r) :: st.map (zv E) := by
    rw [List.map_append, List.map_reverse, List.map_cons]
    show _ ++ zrv E r :: _ = _
    rw [er]
  rw [e0]
  have hpre := zPre hk (av := .inr (.inl r) :: As) hR
  have e1 : ((.inr (.inl r) :: As : List zV).map (zv E)) = Value.ref (eA E r) :: As.map (zv E) := by
    show zrv E r :: _ = _
    rw [er]
  rw [e1] at hpre
  exact va_runI (Ts := []) ⟨hk.1, hk.2.1, hk.2.2.1, hk.2.2.2.1, fun w h => by cases h⟩ hM ⟨zCB hk hl hini hcd hd2 hroom, hy1, zw hk hin rfl⟩ ⟨zPc_blind _, hpre⟩ rfl (by rw [List.length_map]; exact hn) (by rw [← hk.2.2.1]; exact hh.1) rfl (zrest8 (K := K) (pc := pc) hst8) hd ⟨by rw [r1]; omega, by rw [r2]; omega⟩
theorem zCN (hk : zk E K own cc nL h) {y : MethodName} {cy : ByteArray} {maxL n index h' : Nat} {ret : Option FieldType} {σ : zW} {host : String} (hl : Cond.methodLinkNest own index y host ∈ lw_tbl) (hini : Cond.initialized y.cls ∈ lw_tbl) (hcd : Cond.code y cy maxL ret ∈ lw_tbl) (hd2 : y.cls ≠ "java/lang/invoke/MethodHandle" ∧ y.cls ≠ "java/lang/invoke/VarHandle" ∧ (parseMethodDescriptor y.desc).map (fun d => d.parameters.length) = some n) (hroom : h' + 1 ≤ h ∧ maxL ≤ 81) :
    va_CN (cR K) (cS K) (cA K) own index y host cy maxL ret [Cond.code y cy maxL ret] (zrm h' σ) (603072 - zN σ) (7219305 - zS σ) n := by
  have hts : ∀ w ∈ [Cond.code y cy maxL ret], w.before (cA K) (cS K) = true := fun w hw => by rw [List.mem_singleton.mp hw]; exact zw hk hcd rfl
  refine va_cnB n hts (fun w hw => ⟨hw, by rw [List.mem_singleton.mp hw]; exact good_of_word rfl⟩) rfl rfl rfl (va_Nw.warmM hk.2.2.2.2.2.1 ((zk_F hk).2.1 _ hl)) (zw hk hini rfl) hd2 ⟨?_, ?_⟩
  · exact Nat.le_trans hroom.1 (zhf hk)
  · have := zhl hk
    show 8 + (maxL + 11) + 100 * h' ≤ (cR K).locals
    omega
/-- .. a private one of a nest mate -/
theorem z_cin (hk : zk E K own cc nL h) {y : MethodName} {cy : ByteArray} {maxL n index h' r : Nat} {As : List zV} {σ' : zW} {host : String} (hd : decode cc pc = .ok (.invokespecial index, 3)) (hl : Cond.methodLinkNest own index y host ∈ lw_tbl) (hin : Cond.instanceMethod y ∈ lw_tbl) (hini : Cond.initialized y.cls ∈ lw_tbl) (hcd : Cond.code y cy maxL none ∈ lw_tbl) (hy1 : y.name = "<init>")
    (hd2 : y.cls ≠ "java/lang/invoke/MethodHandle" ∧ y.cls ≠ "java/lang/invoke/VarHandle" ∧ (parseMethodDescriptor y.desc).map (fun d => d.parameters.length) = some n) (hroom : h' + 1 ≤ h ∧ maxL ≤ 81) (hr0 : r ≠ 0) (hn : As.length = n) (hM : zM E y cy maxL none h' (.inr (.inl r) :: As) σ none σ')
    (hst8 : zcat st ≤ 8) (k : zG E K fin X σ' (pc + 3) lv st) : zG E K fin X σ pc lv (As.reverse ++ .inr (.inl r) :: st) := by
  intro hX w1 w2 w3 H locs ls hR ho hh
  obtain ⟨r1, r2, r3⟩ := zcR hk
  have hb1 := hR.2.2.2.1
  have hb2 := hR.2.2.2.2.1
  have er : zrv E r = .ref (eA E r) := zrv_ref hr0
  refine z_tight (k := zN σ - zN (c0 K)) (n := zS σ - zS (c0 K)) r3 hR (by omega) (by omega) ?_
  refine z_after hk w1 w2 w3 hR ho hh (rv := none) (rst := st) (rest := st.map (zv E)) ?_ rfl hX k
  have e0 : (As.reverse ++ .inr (.inl r) :: st).map (zv E) = (As.map (zv E)).reverse ++ .ref (eA E r) :: st.map (zv E) := by
    rw [List.map_append, List.map_reverse, List.map_cons]
    show _ ++ zrv E r :: _ = _
    rw [er]
  rw [e0]
  have hpre := zPre hk (av := .inr (.inl r) :: As) hR
  have e1 : ((.inr (.inl r) :: As : List zV).map (zv E)) = Value.ref (eA E r) :: As.map (zv E) := by
    show zrv E r :: _ = _
    rw [er]
  rw [e1] at hpre
  exact va_runIN (Ts := []) ⟨hk.1, hk.2.1, hk.2.2.1, hk.2.2.2.1, fun w h => by cases h⟩ hM ⟨zCN hk hl hini hcd hd2 hroom, hy1, zw hk hin rfl⟩ ⟨zPc_blind _, hpre⟩ rfl (by rw [List.length_map]; exact hn) (by rw [← hk.2.2.1]; exact hh.1) rfl (zrest8 (K := K) (pc := pc) hst8) hd ⟨by rw [r1]; omega, by rw [r2]; omega⟩
/-- a static call of a private method of a nest mate -/
theorem z_csn (hk : zk E K own cc nL h) {y : MethodName} {cy : ByteArray} {maxL n index h' : Nat} {ret : Option FieldType} {As : List zV} {rv : Option Value} {σ' : zW} {rst : List zV} {host : String} (hd : decode cc pc = .ok (.invokestatic index, 3)) (hl : Cond.methodLinkNest own index y host ∈ lw_tbl) (hin : Cond.static y ∈ lw_tbl) (hini : Cond.initialized y.cls ∈ lw_tbl) (hcd : Cond.code y cy maxL ret ∈ lw_tbl)
    (hd2 : y.cls ≠ "java/lang/invoke/MethodHandle" ∧ y.cls ≠ "java/lang/invoke/VarHandle" ∧ (parseMethodDescriptor y.desc).map (fun d => d.parameters.length) = some n) (hroom : h' + 1 ≤ h ∧ maxL ≤ 81) (hn : As.length = n) (hM : zM E y cy maxL ret h' As σ rv σ')
    (hst8 : zcat st ≤ 8) (hst : rv.toList ++ st.map (zv E) = rst.map (zv E)) (k : zG E K fin X σ' (pc + 3) lv rst) : zG E K fin X σ pc lv (As.reverse ++ st) := by
  intro hX w1 w2 w3 H locs ls hR ho hh
  obtain ⟨r1, r2, r3⟩ := zcR hk
  have hb1 := hR.2.2.2.1
  have hb2 := hR.2.2.2.2.1
  refine z_tight (k := zN σ - zN (c0 K)) (n := zS σ - zS (c0 K)) r3 hR (by omega) (by omega) ?_
  refine z_after hk w1 w2 w3 hR ho hh (rv := rv) (rst := rst) (rest := st.map (zv E)) ?_ hst hX k
  have e0 : (As.reverse ++ st).map (zv E) = (As.map (zv E)).reverse ++ st.map (zv E) := by
    rw [List.map_append, List.map_reverse]
  rw [e0]
  exact va_runSN (Ts := []) ⟨hk.1, hk.2.1, hk.2.2.1, hk.2.2.2.1, fun w h => by cases h⟩ hM ⟨zCN hk hl hini hcd hd2 hroom, zw hk hin rfl, trivial⟩ ⟨zPc_blind _, zPre hk hR⟩ rfl (by rw [List.length_map]; exact hn) (by rw [← hk.2.2.1]; exact hh.1) rfl (zrest8 (K := K) (pc := pc) hst8) hd ⟨by rw [r1]; omega, by rw [r2]; omega⟩
/-- an exception stands over the frame -/
def zT (E : zE) (K : zC) {α : Type} (fin : α → zO) (X : Option α) (kx : Nat) (σ : zW) (pc : Nat) (lv : zLV) : Prop :=
  (∃ o, X = some o ∧ fin o = cO K) → zN (c0 K) ≤ zN σ → zS (c0 K) ≤ zS σ → lv.length ≤ (cCo K).maxLocals → 1 ≤ kx → kx ≤ 6 → ∀ (H : Heap) (locs : List Loc) (ls : Array Slot) (q : Addr) (ce : Cell) (rest : List Value), zRp E σ H → (∀ q ∈ locs, zB E ≤ q.base) → lv_has ls (cCo K).maxLocals (zlv E 0 lv) →
    H[q]? = some ce → ce.vm = .none → (cS K).vm.findClass (zxn kx) = some ce.cls → vx_W (cP K) (eL E) (cE K) (cR K) (cS K) (cM K) (cA K) (cB K) (cMe K) (cCo K) H locs (cR K).cells (cR K).slots (cQ K) (F0 (cM K) pc ls rest) q
/-- it leaves the method -/
theorem z_out (hk : zk E K own cc nL h) (ht : zthr E K) {kx : Nat} {o : α} (hf : fin o = (.inr kx, σ)) : zT E K fin (some o) kx σ pc lv := by
  rintro ⟨o', h1, h2⟩ w1 w2 w3 hk1 hk6 H locs ls q ce rest hR ho hh hq hv hc
  cases h1
  have e : cO K = (.inr kx, σ) := h2.symm.trans hf
  rw [ht.2]
  exact vx_out (E := zxn kx) (fun x hx => (ht.1 x hx).elim) hk.2.2.2.2.1 hq hv hc (fun t h1 _ => ⟨kx, by rw [e], hk1, hk6, rfl, by rw [h1, e]; exact hR⟩) ho (Nat.le_refl _) (Nat.le_refl _)
/-- behind a call that returned or threw -/
theorem z_afterx (hk : zk E K own cc nL h) {res : zO} {locs : List Loc} {ls : Array Slot} {st0 : List Value} (w1 : zN (c0 K) ≤ zN σ) (w2 : zS (c0 K) ≤ zS σ) (w3 : lv.length ≤ (cCo K).maxLocals) (hR : zRp E σ H) (ho : ∀ q ∈ locs, zB E ≤ q.base) (hh : lv_has ls (cCo K).maxLocals (zlv E 0 lv))
    (hr : vx_Run (cP K) (eL E) (cE K) (cR K) (cS K) (cM K) (cA K) (cB K) (cMe K) (cCo K) H locs (zN σ - zN (c0 K)) (zS σ - zS (c0 K)) (603072 - zN σ) (7219305 - zS σ) (F0 (cM K) pc ls st0) (st.map (zv E)) (fun _ o t => ∃ rv, res.1 = .inl rv ∧ o = .returned rv ∧ zRp E res.2 t.heap) (zXC E res) (zfree E))
    (hX : ∃ o, X = some o ∧ fin o = cO K) (kr : ∀ rv, res.1 = .inl rv → ∃ rst, rv.toList ++ st.map (zv E) = rst.map (zv E) ∧ zG E K fin X res.2 (pc + 3) lv rst) (kt : ∀ kx, res.1 = .inr kx → zT E K fin X kx res.2 pc lv) : zWw E K H locs (zN σ - zN (c0 K)) (zS σ - zS (c0 K)) (F0 (cM K) pc ls st0) := by
  intro T hT X9
  obtain ⟨r1, r2, r3⟩ := zcR hk
  have hb1 := hR.2.2.2.1
  have hb2 := hR.2.2.2.2.1
  rcases hr T hT X9 with ⟨v, st₀, t, T', L, g1, X', g2, g3, g4, ⟨rv, g8, g5, g6⟩, g7⟩ | ⟨q, st₀, t, T', L, n, ce, g1, X', g2, g3, g4, ⟨kx, g8, g9, g10, g11, g6⟩, g12, g13, g14, g7⟩
  · cases g5
    rw [← g3] at g6
    obtain ⟨m1, m2⟩ := z_mono r3 g6 X'
    have X'' := stand_widen (k := (cR K).cells) (n := (cR K).slots) X' (by rw [r1]; omega) (by rw [r2]; omega)
    obtain ⟨rst, hst, k⟩ := kr _ g8
    obtain ⟨t2, a1, b1⟩ := k hX m1 m2 w3 T'.heap (locs ++ L) ls g6 (fun q hq => (List.mem_append.mp hq).elim (ho q) (g2 q)) hh T' rfl X''
    rw [← hst] at a1
    exact ⟨t2, g7 t2 a1, b1⟩
  · rw [← g3] at g6 g12
    subst g11
    obtain ⟨m1, m2⟩ := z_mono r3 g6 X'
    have X'' := stand_widen (k := (cR K).cells) (n := (cR K).slots) X' (by rw [r1]; omega) (by rw [r2]; omega)
    obtain ⟨t2, a1, b1⟩ := kt kx g8 hX m1 m2 w3 g9 g10 T'.heap (locs ++ L) ls q ce (st.map (zv E)) g6 (fun q hq => (List.mem_append.mp hq).elim (ho q) (g2 q)) hh g12 g13 g14 T' rfl X''
    exact ⟨t2, g7.trans a1, b1⟩
/-- a virtual call of a method that returns or throws -/
theorem z_cvx (hk : zk E K own cc nL h) {y : MethodName} {cy : ByteArray} {maxL n index h' ci r : Nat} {ret : Option FieldType} {q : vw_C} {As : List zV} {res : zO} (hd : decode cc pc = .ok (.invokevirtual index, 3)) (hl : Cond.methodLink own index y ∈ lw_tbl) (hin : Cond.instanceMethod y ∈ lw_tbl) (hsel : Cond.selects y.cls y y ∈ lw_tbl) (hini : Cond.initialized y.cls ∈ lw_tbl) (hcd : Cond.code y cy maxL ret ∈ lw_tbl)
    (hd2 : y.cls ≠ "java/lang/invoke/MethodHandle" ∧ y.cls ≠ "java/lang/invoke/VarHandle" ∧ (parseMethodDescriptor y.desc).map (fun d => d.parameters.length) = some n) (hroom : h' + 1 ≤ h ∧ maxL ≤ 81) (hc : zcl[ci]? = some q) (hq : q.1 = y.cls) (hκ : zK σ r = ci + 1) (hn : As.length = n) (hM : zMX E y (Cond.code y cy maxL ret) h' (.inr (.inl r) :: As) σ res)
    (hst8 : zcat st ≤ 8) (kr : ∀ rv, res.1 = .inl rv → ∃ rst, rv.toList ++ st.map (zv E) = rst.map (zv E) ∧ zG E K fin X res.2 (pc + 3) lv rst) (kt : ∀ kx, res.1 = .inr kx → zT E K fin X kx res.2 pc lv) : zG E K fin X σ pc lv (As.reverse ++ .inr (.inl r) :: st) := by
  intro hX w1 w2 w3 H locs ls hR ho hh
  obtain ⟨r1, r2, r3⟩ := zcR hk
  have hb1 := hR.2.2.2.1
  have hb2 := hR.2.2.2.2.1
  have hr0 : r ≠ 0 := (zR_ob hR (o := r) (by omega)).1
  have er : zrv E r = .ref (eA E r) := zrv_ref hr0
  refine z_tight (k := zN σ - zN (c0 K)) (n := zS σ - zS (c0 K)) r3 hR (by omega) (by omega) ?_
  refine z_afterx hk w1 w2 w3 hR ho hh (res := res) (st := st) ?_ hX kr kt
  have hcell := zcell hk hc hR hκ
  rw [hq] at hcell
  have e0 : (As.reverse ++ .inr (.inl r) :: st).map (zv E) = (As.map (zv E)).reverse ++ .ref (eA E r) :: st.map (zv E) := by
    rw [List.map_append, List.map_reverse, List.map_cons]
    show _ ++ zrv E r :: _ = _
    rw [er]
  rw [e0]
  have hpre := zPre hk (av := .inr (.inl r) :: As) hR
  have e1 : ((.inr (.inl r) :: As : List zV).map (zv E)) = Value.ref (eA E r) :: As.map (zv E) := by
    show zrv E r :: _ = _
    rw [er]
  rw [e1] at hpre
  exact vx_runV (Ts := []) (C := y.cls) ⟨hk.1, hk.2.1, hk.2.2.1, hk.2.2.2.1, fun w h => by cases h⟩ hM ⟨zCB hk hl hini hcd hd2 hroom, zw hk hin rfl, zw hk hsel rfl⟩ ⟨zPc_blind _, hcell, hpre⟩ rfl (by rw [List.length_map]; exact hn) (by rw [← hk.2.2.1]; exact hh.1) rfl (zrest8 (K := K) (pc := pc) hst8) hd ⟨by rw [r1]; omega, by rw [r2]; omega⟩
/-- a static one -/
theorem z_csx (hk : zk E K own cc nL h) {y : MethodName} {cy : ByteArray} {maxL n index h' : Nat} {ret : Option FieldType} {As : List zV} {res : zO} (hd : decode cc pc = .ok (.invokestatic index, 3)) (hl : Cond.methodLink own index y ∈ lw_tbl) (hin : Cond.static y ∈ lw_tbl) (hini : Cond.initialized y.cls ∈ lw_tbl) (hcd : Cond.code y cy maxL ret ∈ lw_tbl)
    (hd2 : y.cls ≠ "java/lang/invoke/MethodHandle" ∧ y.cls ≠ "java/lang/invoke/VarHandle" ∧ (parseMethodDescriptor y.desc).map (fun d => d.parameters.length) = some n) (hroom : h' + 1 ≤ h ∧ maxL ≤ 81) (hn : As.length = n) (hM : zMX E y (Cond.code y cy maxL ret) h' As σ res)
    (hst8 : zcat st ≤ 8) (kr : ∀ rv, res.1 = .inl rv → ∃ rst, rv.toList ++ st.map (zv E) = rst.map (zv E) ∧ zG E K fin X res.2 (pc + 3) lv rst) (kt : ∀ kx, res.1 = .inr kx → zT E K fin X kx res.2 pc lv) : zG E K fin X σ pc lv (As.reverse ++ st) := by
  intro hX w1 w2 w3 H locs ls hR ho hh
  obtain ⟨r1, r2, r3⟩ := zcR hk
  have hb1 := hR.2.2.2.1
  have hb2 := hR.2.2.2.2.1
  refine z_tight (k := zN σ - zN (c0 K)) (n := zS σ - zS (c0 K)) r3 hR (by omega) (by omega) ?_
  refine z_afterx hk w1 w2 w3 hR ho hh (res := res) (st := st) ?_ hX kr kt
  have e0 : (As.reverse ++ st).map (zv E) = (As.map (zv E)).reverse ++ st.map (zv E) := by
    rw [List.map_append, List.map_reverse]
  rw [e0]
  exact vx_runS (Ts := []) ⟨hk.1, hk.2.1, hk.2.2.1, hk.2.2.2.1, fun w h => by cases h⟩ hM ⟨zCB hk hl hini hcd hd2 hroom, zw hk hin rfl⟩ ⟨zPc_blind _, zPre hk hR⟩ rfl (by rw [List.length_map]; exact hn) (by rw [← hk.2.2.1]; exact hh.1) rfl (zrest8 (K := K) (pc := pc) hst8) hd ⟨by rw [r1]; omega, by rw [r2]; omega⟩
end ZF
