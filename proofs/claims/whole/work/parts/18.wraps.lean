/-! CALLS BY WHAT THE CALLEE GIVES: R a number and the same world, W a number and a world, V a world, D a double and a world; T, U, E: the same or an exception's number -/
def zfR (σ : zW) : Int32 → zO := fun v => (.inl (some (.int v)), σ)
def zfW : Int32 × zW → zO := fun p => (.inl (some (.int p.1)), p.2)
def zfV : zW → zO := fun σ => (.inl none, σ)
def zfD : UInt64 × zW → zO := fun p => (.inl (some (.double p.1)), p.2)
def zfT : (Int32 ⊕ Nat) × zW → zO := fun p => (match p.1 with | .inl v => .inl (some (.int v)) | .inr k => .inr k, p.2)
def zfU : (Unit ⊕ Nat) × zW → zO := fun p => (match p.1 with | .inl _ => .inl none | .inr k => .inr k, p.2)
def zfE : (UInt64 ⊕ Nat) × zW → zO := fun p => (match p.1 with | .inl v => .inl (some (.double v)) | .inr k => .inr k, p.2)
def zb {β α : Type} (o : Option β) (c : β → Option α) : Option α := match o with
  | some b => c b
  | none => none
def zb2 {β α : Type} (o : Option (β × zW)) (c : β → zW → Option α) : Option α := match o with
  | some p => c p.1 p.2
  | none => none
def zbx {β α : Type} (o : Option ((β ⊕ Nat) × zW)) (c : β → zW → Option α) (t : Nat → zW → Option α) : Option α := match o with
  | some (.inl v, σ) => c v σ
  | some (.inr k, σ) => t k σ
  | none => none
section ZWR
variable {E : zE} {K : zC} {own : String} {cc : ByteArray} {nL h : Nat} {α : Type} {fin : α → zO} {σ : zW} {pc : Nat} {lv : zLV} {st : List zV}
variable {y : MethodName} {cy : ByteArray} {maxL n index h' ci r : Nat} {ret : Option FieldType} {q : vw_C} {As : List zV} {host : String} {hh : List (Nat × Nat × Nat × Nat)}

theorem z_vR (hk : zk E K own cc nL h) (hd : decode cc pc = .ok (.invokevirtual index, 3)) (hl : Cond.methodLink own index y ∈ lw_tbl) (hin : Cond.instanceMethod y ∈ lw_tbl) (hsel : Cond.selects y.cls y y ∈ lw_tbl) (hini : Cond.initialized y.cls ∈ lw_tbl) (hcd : Cond.code y cy maxL ret ∈ lw_tbl) (hd2 : y.cls ≠ "java/lang/invoke/MethodHandle" ∧ y.cls ≠ "java/lang/invoke/VarHandle" ∧ (parseMethodDescriptor y.desc).map (fun d => d.parameters.length) = some n) (hroom : h' + 1 ≤ h ∧ maxL ≤ 81) (hc : zcl[ci]? = some q) (hq : q.1 = y.cls) (hn : As.length = n) {f : Option Int32} {c : Int32 → Option α}
    (hM : ∀ v, f = some v → zM E y cy maxL ret h' (.inr (.inl r) :: As) σ (some (.int v)) σ) (hst8 : zcat st ≤ 8) (k : ∀ v, zG E K fin (c v) σ (pc + 3) lv (.inl v :: st)) : zG E K fin (zck σ (ci + 1) r (zb f c)) σ pc lv (As.reverse ++ .inr (.inl r) :: st) := by
  by_cases hκ : zK σ r = ci + 1
  · rw [show zck σ (ci + 1) r (zb f c) = zb f c from if_pos hκ]
    cases hf : f with
    | none => intro hX; exact z_none hX
    | some v => exact z_cv hk hd hl hin hsel hini hcd hd2 hroom hc hq hκ hn (hM v hf) hst8 rfl (k v)
  · rw [show zck σ (ci + 1) r (zb f c) = none from if_neg hκ]
    intro hX
    exact z_none hX
theorem z_qR (hk : zk E K own cc nL h) (hd : decode cc pc = .ok (.invokestatic index, 3)) (hl : Cond.methodLink own index y ∈ lw_tbl) (hin : Cond.static y ∈ lw_tbl) (hini : Cond.initialized y.cls ∈ lw_tbl) (hcd : Cond.code y cy maxL ret ∈ lw_tbl) (hd2 : y.cls ≠ "java/lang/invoke/MethodHandle" ∧ y.cls ≠ "java/lang/invoke/VarHandle" ∧ (parseMethodDescriptor y.desc).map (fun d => d.parameters.length) = some n) (hroom : h' + 1 ≤ h ∧ maxL ≤ 81) (hn : As.length = n) {f : Option Int32} {c : Int32 → Option α}
    (hM : ∀ v, f = some v → zM E y cy maxL ret h' As σ (some (.int v)) σ) (hst8 : zcat st ≤ 8) (k : ∀ v, zG E K fin (c v) σ (pc + 3) lv (.inl v :: st)) : zG E K fin (zb f c) σ pc lv (As.reverse ++ st) := by
  cases hf : f with
  | none => intro hX; exact z_none hX
  | some v => exact z_cs hk hd hl hin hini hcd hd2 hroom hn (hM v hf) hst8 rfl (k v)
theorem z_qnR (hk : zk E K own cc nL h) (hd : decode cc pc = .ok (.invokestatic index, 3)) (hl : Cond.methodLinkNest own index y host ∈ lw_tbl) (hin : Cond.static y ∈ lw_tbl) (hini : Cond.initialized y.cls ∈ lw_tbl) (hcd : Cond.code y cy maxL ret ∈ lw_tbl) (hd2 : y.cls ≠ "java/lang/invoke/MethodHandle" ∧ y.cls ≠ "java/lang/invoke/VarHandle" ∧ (parseMethodDescriptor y.desc).map (fun d => d.parameters.length) = some n) (hroom : h' + 1 ≤ h ∧ maxL ≤ 81) (hn : As.length = n) {f : Option Int32} {c : Int32 → Option α}
    (hM : ∀ v, f = some v → zM E y cy maxL ret h' As σ (some (.int v)) σ) (hst8 : zcat st ≤ 8) (k : ∀ v, zG E K fin (c v) σ (pc + 3) lv (.inl v :: st)) : zG E K fin (zb f c) σ pc lv (As.reverse ++ st) := by
  cases hf : f with
  | none => intro hX; exact z_none hX
  | some v => exact z_csn hk hd hl hin hini hcd hd2 hroom hn (hM v hf) hst8 rfl (k v)
theorem z_vW (hk : zk E K own cc nL h) (hd : decode cc pc = .ok (.invokevirtual index, 3)) (hl : Cond.methodLink own index y ∈ lw_tbl) (hin : Cond.instanceMethod y ∈ lw_tbl) (hsel : Cond.selects y.cls y y ∈ lw_tbl) (hini : Cond.initialized y.cls ∈ lw_tbl) (hcd : Cond.code y cy maxL ret ∈ lw_tbl) (hd2 : y.cls ≠ "java/lang/invoke/MethodHandle" ∧ y.cls ≠ "java/lang/invoke/VarHandle" ∧ (parseMethodDescriptor y.desc).map (fun d => d.parameters.length) = some n) (hroom : h' + 1 ≤ h ∧ maxL ≤ 81) (hc : zcl[ci]? = some q) (hq : q.1 = y.cls) (hn : As.length = n) {f : Option (Int32 × zW)} {c : Int32 → zW → Option α}
    (hM : ∀ p, f = some p → zM E y cy maxL ret h' (.inr (.inl r) :: As) σ (some (.int p.1)) p.2) (hst8 : zcat st ≤ 8) (k : ∀ v s, zG E K fin (c v s) s (pc + 3) lv (.inl v :: st)) : zG E K fin (zck σ (ci + 1) r (zb2 f c)) σ pc lv (As.reverse ++ .inr (.inl r) :: st) := by
  by_cases hκ : zK σ r = ci + 1
  · rw [show zck σ (ci + 1) r (zb2 f c) = zb2 f c from if_pos hκ]
    cases hf : f with
    | none => intro hX; exact z_none hX
    | some p => exact z_cv hk hd hl hin hsel hini hcd hd2 hroom hc hq hκ hn (hM p hf) hst8 rfl (k p.1 p.2)
  · rw [show zck σ (ci + 1) r (zb2 f c) = none from if_neg hκ]
    intro hX
    exact z_none hX
theorem z_qW (hk : zk E K own cc nL h) (hd : decode cc pc = .ok (.invokestatic index, 3)) (hl : Cond.methodLink own index y ∈ lw_tbl) (hin : Cond.static y ∈ lw_tbl) (hini : Cond.initialized y.cls ∈ lw_tbl) (hcd : Cond.code y cy maxL ret ∈ lw_tbl) (hd2 : y.cls ≠ "java/lang/invoke/MethodHandle" ∧ y.cls ≠ "java/lang/invoke/VarHandle" ∧ (parseMethodDescriptor y.desc).map (fun d => d.parameters.length) = some n) (hroom : h' + 1 ≤ h ∧ maxL ≤ 81) (hn : As.length = n) {f : Option (Int32 × zW)} {c : Int32 → zW → Option α}
    (hM : ∀ p, f = some p → zM E y cy maxL ret h' As σ (some (.int p.1)) p.2) (hst8 : zcat st ≤ 8) (k : ∀ v s, zG E K fin (c v s) s (pc + 3) lv (.inl v :: st)) : zG E K fin (zb2 f c) σ pc lv (As.reverse ++ st) := by
  cases hf : f with
  | none => intro hX; exact z_none hX
  | some p => exact z_cs hk hd hl hin hini hcd hd2 hroom hn (hM p hf) hst8 rfl (k p.1 p.2)
theorem z_qnW (hk : zk E K own cc nL h) (hd : decode cc pc = .ok (.invokestatic index, 3)) (hl : Cond.methodLinkNest own index y host ∈ lw_tbl) (hin : Cond.static y ∈ lw_tbl) (hini : Cond.initialized y.cls ∈ lw_tbl) (hcd : Cond.code y cy maxL ret ∈ lw_tbl) (hd2 : y.cls ≠ "java/lang/invoke/MethodHandle" ∧ y.cls ≠ "java/lang/invoke/VarHandle" ∧ (parseMethodDescriptor y.desc).map (fun d => d.parameters.length) = some n) (hroom : h' + 1 ≤ h ∧ maxL ≤ 81) (hn : As.length = n) {f : Option (Int32 × zW)} {c : Int32 → zW → Option α}
    (hM : ∀ p, f = some p → zM E y cy maxL ret h' As σ (some (.int p.1)) p.2) (hst8 : zcat st ≤ 8) (k : ∀ v s, zG E K fin (c v s) s (pc + 3) lv (.inl v :: st)) : zG E K fin (zb2 f c) σ pc lv (As.reverse ++ st) := by
  cases hf : f with
  | none => intro hX; exact z_none hX
  | some p => exact z_csn hk hd hl hin hini hcd hd2 hroom hn (hM p hf) hst8 rfl (k p.1 p.2)
theorem z_hW (hk : zk E K own cc nL h) (hd : decode cc pc = .ok (.invokestatic index, 3)) (hl : Cond.methodLink own index y ∈ lw_tbl) (hin : Cond.static y ∈ lw_tbl) (hini : Cond.initialized y.cls ∈ lw_tbl) (hcd : Cond.codeWith y cy maxL ret hh ∈ lw_tbl) (hd2 : y.cls ≠ "java/lang/invoke/MethodHandle" ∧ y.cls ≠ "java/lang/invoke/VarHandle" ∧ (parseMethodDescriptor y.desc).map (fun d => d.parameters.length) = some n) (hroom : h' + 1 ≤ h ∧ maxL ≤ 81) (hn : As.length = n) {f : Option (Int32 × zW)} {c : Int32 → zW → Option α}
    (hM : ∀ p, f = some p → zMX E y (Cond.codeWith y cy maxL ret hh) h' As σ (.inl (some (.int p.1)), p.2)) (hst8 : zcat st ≤ 8) (k : ∀ v s, zG E K fin (c v s) s (pc + 3) lv (.inl v :: st)) : zG E K fin (zb2 f c) σ pc lv (As.reverse ++ st) := by
  cases hf : f with
  | none => intro hX; exact z_none hX
  | some p => exact z_csw hk hd hl hin hini hcd hd2 hroom hn (hM p hf) hst8 rfl (k p.1 p.2)
theorem z_vV (hk : zk E K own cc nL h) (hd : decode cc pc = .ok (.invokevirtual index, 3)) (hl : Cond.methodLink own index y ∈ lw_tbl) (hin : Cond.instanceMethod y ∈ lw_tbl) (hsel : Cond.selects y.cls y y ∈ lw_tbl) (hini : Cond.initialized y.cls ∈ lw_tbl) (hcd : Cond.code y cy maxL ret ∈ lw_tbl) (hd2 : y.cls ≠ "java/lang/invoke/MethodHandle" ∧ y.cls ≠ "java/lang/invoke/VarHandle" ∧ (parseMethodDescriptor y.desc).map (fun d => d.parameters.length) = some n) (hroom : h' + 1 ≤ h ∧ maxL ≤ 81) (hc : zcl[ci]? = some q) (hq : q.1 = y.cls) (hn : As.length = n) {f : Option zW} {c : zW → Option α}
    (hM : ∀ s, f = some s → zM E y cy maxL ret h' (.inr (.inl r) :: As) σ (none) s) (hst8 : zcat st ≤ 8) (k : ∀ s, zG E K fin (c s) s (pc + 3) lv st) : zG E K fin (zck σ (ci + 1) r (zb f c)) σ pc lv (As.reverse ++ .inr (.inl r) :: st) := by
  by_cases hκ : zK σ r = ci + 1
  · rw [show zck σ (ci + 1) r (zb f c) = zb f c from if_pos hκ]
    cases hf : f with
    | none => intro hX; exact z_none hX
    | some s => exact z_cv hk hd hl hin hsel hini hcd hd2 hroom hc hq hκ hn (hM s hf) hst8 rfl (k s)
  · rw [show zck σ (ci + 1) r (zb f c) = none from if_neg hκ]
    intro hX
    exact z_none hX
theorem z_vD (hk : zk E K own cc nL h) (hd : decode cc pc = .ok (.invokevirtual index, 3)) (hl : Cond.methodLink own index y ∈ lw_tbl) (hin : Cond.instanceMethod y ∈ lw_tbl) (hsel : Cond.selects y.cls y y ∈ lw_tbl) (hini : Cond.initialized y.cls ∈ lw_tbl) (hcd : Cond.code y cy maxL ret ∈ lw_tbl) (hd2 : y.cls ≠ "java/lang/invoke/MethodHandle" ∧ y.cls ≠ "java/lang/invoke/VarHandle" ∧ (parseMethodDescriptor y.desc).map (fun d => d.parameters.length) = some n) (hroom : h' + 1 ≤ h ∧ maxL ≤ 81) (hc : zcl[ci]? = some q) (hq : q.1 = y.cls) (hn : As.length = n) {f : Option (UInt64 × zW)} {c : UInt64 → zW → Option α}
    (hM : ∀ p, f = some p → zM E y cy maxL ret h' (.inr (.inl r) :: As) σ (some (.double p.1)) p.2) (hst8 : zcat st ≤ 8) (k : ∀ v s, zG E K fin (c v s) s (pc + 3) lv (.inr (.inr (.inr (.inl v))) :: st)) : zG E K fin (zck σ (ci + 1) r (zb2 f c)) σ pc lv (As.reverse ++ .inr (.inl r) :: st) := by
  by_cases hκ : zK σ r = ci + 1
  · rw [show zck σ (ci + 1) r (zb2 f c) = zb2 f c from if_pos hκ]
    cases hf : f with
    | none => intro hX; exact z_none hX
    | some p => exact z_cv hk hd hl hin hsel hini hcd hd2 hroom hc hq hκ hn (hM p hf) hst8 rfl (k p.1 p.2)
  · rw [show zck σ (ci + 1) r (zb2 f c) = none from if_neg hκ]
    intro hX
    exact z_none hX
theorem z_qD (hk : zk E K own cc nL h) (hd : decode cc pc = .ok (.invokestatic index, 3)) (hl : Cond.methodLink own index y ∈ lw_tbl) (hin : Cond.static y ∈ lw_tbl) (hini : Cond.initialized y.cls ∈ lw_tbl) (hcd : Cond.code y cy maxL ret ∈ lw_tbl) (hd2 : y.cls ≠ "java/lang/invoke/MethodHandle" ∧ y.cls ≠ "java/lang/invoke/VarHandle" ∧ (parseMethodDescriptor y.desc).map (fun d => d.parameters.length) = some n) (hroom : h' + 1 ≤ h ∧ maxL ≤ 81) (hn : As.length = n) {f : Option (UInt64 × zW)} {c : UInt64 → zW → Option α}
    (hM : ∀ p, f = some p → zM E y cy maxL ret h' As σ (some (.double p.1)) p.2) (hst8 : zcat st ≤ 8) (k : ∀ v s, zG E K fin (c v s) s (pc + 3) lv (.inr (.inr (.inr (.inl v))) :: st)) : zG E K fin (zb2 f c) σ pc lv (As.reverse ++ st) := by
  cases hf : f with
  | none => intro hX; exact z_none hX
  | some p => exact z_cs hk hd hl hin hini hcd hd2 hroom hn (hM p hf) hst8 rfl (k p.1 p.2)
theorem z_qnD (hk : zk E K own cc nL h) (hd : decode cc pc = .ok (.invokestatic index, 3)) (hl : Cond.methodLinkNest own index y host ∈ lw_tbl) (hin : Cond.static y ∈ lw_tbl) (hini : Cond.initialized y.cls ∈ lw_tbl) (hcd : Cond.code y cy maxL ret ∈ lw_tbl) (hd2 : y.cls ≠ "java/lang/invoke/MethodHandle" ∧ y.cls ≠ "java/lang/invoke/VarHandle" ∧ (parseMethodDescriptor y.desc).map (fun d => d.parameters.length) = some n) (hroom : h' + 1 ≤ h ∧ maxL ≤ 81) (hn : As.length = n) {f : Option (UInt64 × zW)} {c : UInt64 → zW → Option α}
    (hM : ∀ p, f = some p → zM E y cy maxL ret h' As σ (some (.double p.1)) p.2) (hst8 : zcat st ≤ 8) (k : ∀ v s, zG E K fin (c v s) s (pc + 3) lv (.inr (.inr (.inr (.inl v))) :: st)) : zG E K fin (zb2 f c) σ pc lv (As.reverse ++ st) := by
  cases hf : f with
  | none => intro hX; exact z_none hX
  | some p => exact z_csn hk hd hl hin hini hcd hd2 hroom hn (hM p hf) hst8 rfl (k p.1 p.2)
theorem z_hD (hk : zk E K own cc nL h) (hd : decode cc pc = .ok (.invokestatic index, 3)) (hl : Cond.methodLink own index y ∈ lw_tbl) (hin : Cond.static y ∈ lw_tbl) (hini : Cond.initialized y.cls ∈ lw_tbl) (hcd : Cond.codeWith y cy maxL ret hh ∈ lw_tbl) (hd2 : y.cls ≠ "java/lang/invoke/MethodHandle" ∧ y.cls ≠ "java/lang/invoke/VarHandle" ∧ (parseMethodDescriptor y.desc).map (fun d => d.parameters.length) = some n) (hroom : h' + 1 ≤ h ∧ maxL ≤ 81) (hn : As.length = n) {f : Option (UInt64 × zW)} {c : UInt64 → zW → Option α}
    (hM : ∀ p, f = some p → zMX E y (Cond.codeWith y cy maxL ret hh) h' As σ (.inl (some (.double p.1)), p.2)) (hst8 : zcat st ≤ 8) (k : ∀ v s, zG E K fin (c v s) s (pc + 3) lv (.inr (.inr (.inr (.inl v))) :: st)) : zG E K fin (zb2 f c) σ pc lv (As.reverse ++ st) := by
  cases hf : f with
  | none => intro hX; exact z_none hX
  | some p => exact z_csw hk hd hl hin hini hcd hd2 hroom hn (hM p hf) hst8 rfl (k p.1 p.2)
theorem z_iV (hk : zk E K own cc nL h) (hd : decode cc pc = .ok (.invokespecial index, 3)) (hl : Cond.methodLink own index y ∈ lw_tbl) (hin : Cond.instanceMethod y ∈ lw_tbl) (hini : Cond.initialized y.cls ∈ lw_tbl) (hcd : Cond.code y cy maxL none ∈ lw_tbl) (hy1 : y.name = "<init>") (hd2 : y.cls ≠ "java/lang/invoke/MethodHandle" ∧ y.cls ≠ "java/lang/invoke/VarHandle" ∧ (parseMethodDescriptor y.desc).map (fun d => d.parameters.length) = some n) (hroom : h' + 1 ≤ h ∧ maxL ≤ 81) (hn : As.length = n) {f : Option zW} {c : zW → Option α}
    (hM : ∀ s, f = some s → zM E y cy maxL none h' (.inr (.inl r) :: As) σ none s) (hst8 : zcat st ≤ 8) (k : ∀ s, zG E K fin (c s) s (pc + 3) lv st) : zG E K fin (if r = 0 then none else zb f c) σ pc lv (As.reverse ++ .inr (.inl r) :: st) := by
  by_cases hr : r = 0
  · rw [if_pos hr]
    intro hX
    exact z_none hX
  · rw [if_neg hr]
    cases hf : f with
    | none => intro hX; exact z_none hX
    | some s => exact z_ci hk hd hl hin hini hcd hy1 hd2 hroom hr hn (hM s hf) hst8 (k s)
theorem z_inV (hk : zk E K own cc nL h) (hd : decode cc pc = .ok (.invokespecial index, 3)) (hl : Cond.methodLinkNest own index y host ∈ lw_tbl) (hin : Cond.instanceMethod y ∈ lw_tbl) (hini : Cond.initialized y.cls ∈ lw_tbl) (hcd : Cond.code y cy maxL none ∈ lw_tbl) (hy1 : y.name = "<init>") (hd2 : y.cls ≠ "java/lang/invoke/MethodHandle" ∧ y.cls ≠ "java/lang/invoke/VarHandle" ∧ (parseMethodDescriptor y.desc).map (fun d => d.parameters.length) = some n) (hroom : h' + 1 ≤ h ∧ maxL ≤ 81) (hn : As.length = n) {f : Option zW} {c : zW → Option α}
    (hM : ∀ s, f = some s → zM E y cy maxL none h' (.inr (.inl r) :: As) σ none s) (hst8 : zcat st ≤ 8) (k : ∀ s, zG E K fin (c s) s (pc + 3) lv st) : zG E K fin (if r = 0 then none else zb f c) σ pc lv (As.reverse ++ .inr (.inl r) :: st) := by
  by_cases hr : r = 0
  · rw [if_pos hr]
    intro hX
    exact z_none hX
  · rw [if_neg hr]
    cases hf : f with
    | none => intro hX; exact z_none hX
    | some s => exact z_cin hk hd hl hin hini hcd hy1 hd2 hroom hr hn (hM s hf) hst8 (k s)
theorem z_vT (hk : zk E K own cc nL h) (hd : decode cc pc = .ok (.invokevirtual index, 3)) (hl : Cond.methodLink own index y ∈ lw_tbl) (hin : Cond.instanceMethod y ∈ lw_tbl) (hsel : Cond.selects y.cls y y ∈ lw_tbl) (hini : Cond.initialized y.cls ∈ lw_tbl) (hcd : Cond.code y cy maxL ret ∈ lw_tbl) (hd2 : y.cls ≠ "java/lang/invoke/MethodHandle" ∧ y.cls ≠ "java/lang/invoke/VarHandle" ∧ (parseMethodDescriptor y.desc).map (fun d => d.parameters.length) = some n) (hroom : h' + 1 ≤ h ∧ maxL ≤ 81) (hc : zcl[ci]? = some q) (hq : q.1 = y.cls) (hn : As.length = n) {f : Option ((Int32 ⊕ Nat) × zW)} {c : Int32 → zW → Option α} {t : Nat → zW → Option α}
    (hM : ∀ p, f = some p → zMX E y (Cond.code y cy maxL ret) h' (.inr (.inl r) :: As) σ (zfT p)) (hst8 : zcat st ≤ 8) (k : ∀ v s, zG E K fin (c v s) s (pc + 3) lv (.inl v :: st)) (kt : ∀ kx s, zT E K fin (t kx s) kx s pc lv) : zG E K fin (zck σ (ci + 1) r (zbx f c t)) σ pc lv (As.reverse ++ .inr (.inl r) :: st) := by
  by_cases hκ : zK σ r = ci + 1
  · rw [show zck σ (ci + 1) r (zbx f c t) = zbx f c t from if_pos hκ]
    cases hf : f with
    | none => intro hX; exact z_none hX
    | some p =>
      refine z_cvx hk hd hl hin hsel hini hcd hd2 hroom hc hq hκ hn (hM p hf) hst8 (fun rv hrv => ?_) (fun kx hkx => ?_)
      · obtain ⟨v | k9, s⟩ := p
        · cases hrv
          exact ⟨_, rfl, k v s⟩
        · cases hrv
      · obtain ⟨v | k9, s⟩ := p
        · cases hkx
        · cases hkx
          exact kt _ s
  · rw [show zck σ (ci + 1) r (zbx f c t) = none from if_neg hκ]
    intro hX
    exact z_none hX
theorem z_qT (hk : zk E K own cc nL h) (hd : decode cc pc = .ok (.invokestatic index, 3)) (hl : Cond.methodLink own index y ∈ lw_tbl) (hin : Cond.static y ∈ lw_tbl) (hini : Cond.initialized y.cls ∈ lw_tbl) (hcd : Cond.code y cy maxL ret ∈ lw_tbl) (hd2 : y.cls ≠ "java/lang/invoke/MethodHandle" ∧ y.cls ≠ "java/lang/invoke/VarHandle" ∧ (parseMethodDescriptor y.desc).map (fun d => d.parameters.length) = some n) (hroom : h' + 1 ≤ h ∧ maxL ≤ 81) (hn : As.length = n) {f : Option ((Int32 ⊕ Nat) × zW)} {c : Int32 → zW → Option α} {t : Nat → zW → Option α}
    (hM : ∀ p, f = some p → zMX E y (Cond.code y cy maxL ret) h' As σ (zfT p)) (hst8 : zcat st ≤ 8) (k : ∀ v s, zG E K fin (c v s) s (pc + 3) lv (.inl v :: st)) (kt : ∀ kx s, zT E K fin (t kx s) kx s pc lv) : zG E K fin (zbx f c t) σ pc lv (As.reverse ++ st) := by
  cases hf : f with
  | none => intro hX; exact z_none hX
  | some p =>
    refine z_csx hk hd hl hin hini hcd hd2 hroom hn (hM p hf) hst8 (fun rv hrv => ?_) (fun kx hkx => ?_)
    · obtain ⟨v | k9, s⟩ := p
      · cases hrv
        exact ⟨_, rfl, k v s⟩
      · cases hrv
    · obtain ⟨v | k9, s⟩ := p
      · cases hkx
      · cases hkx
        exact kt _ s
theorem z_vU (hk : zk E K own cc nL h) (hd : decode cc pc = .ok (.invokevirtual index, 3)) (hl : Cond.methodLink own index y ∈ lw_tbl) (hin : Cond.instanceMethod y ∈ lw_tbl) (hsel : Cond.selects y.cls y y ∈ lw_tbl) (hini : Cond.initialized y.cls ∈ lw_tbl) (hcd : Cond.code y cy maxL ret ∈ lw_tbl) (hd2 : y.cls ≠ "java/lang/invoke/MethodHandle" ∧ y.cls ≠ "java/lang/invoke/VarHandle" ∧ (parseMethodDescriptor y.desc).map (fun d => d.parameters.length) = some n) (hroom : h' + 1 ≤ h ∧ maxL ≤ 81) (hc : zcl[ci]? = some q) (hq : q.1 = y.cls) (hn : As.length = n) {f : Option ((Unit ⊕ Nat) × zW)} {c : Unit → zW → Option α} {t : Nat → zW → Option α}
    (hM : ∀ p, f = some p → zMX E y (Cond.code y cy maxL ret) h' (.inr (.inl r) :: As) σ (zfU p)) (hst8 : zcat st ≤ 8) (k : ∀ v s, zG E K fin (c v s) s (pc + 3) lv (st)) (kt : ∀ kx s, zT E K fin (t kx s) kx s pc lv) : zG E K fin (zck σ (ci + 1) r (zbx f c t)) σ pc lv (As.reverse ++ .inr (.inl r) :: st) := by
  by_cases hκ : zK σ r = ci + 1
  · rw [show zck σ (ci + 1) r (zbx f c t) = zbx f c t from if_pos hκ]
    cases hf : f with
    | none => intro hX; exact z_none hX
    | some p =>
      refine z_cvx hk hd hl hin hsel hini hcd hd2 hroom hc hq hκ hn (hM p hf) hst8 (fun rv hrv => ?_) (fun kx hkx => ?_)
      · obtain ⟨v | k9, s⟩ := p
        · cases hrv
          exact ⟨_, rfl, k v s⟩
        · cases hrv
      · obtain ⟨v | k9, s⟩ := p
        · cases hkx
        · cases hkx
          exact kt _ s
  · rw [show zck σ (ci + 1) r (zbx f c t) = none from if_neg hκ]
    intro hX
    exact z_none hX
theorem z_qU (hk : zk E K own cc nL h) (hd : decode cc pc = .ok (.invokestatic index, 3)) (hl : Cond.methodLink own index y ∈ lw_tbl) (hin : Cond.static y ∈ lw_tbl) (hini : Cond.initialized y.cls ∈ lw_tbl) (hcd : Cond.code y cy maxL ret ∈ lw_tbl) (hd2 : y.cls ≠ "java/lang/invoke/MethodHandle" ∧ y.cls ≠ "java/lang/invoke/VarHandle" ∧ (parseMethodDescriptor y.desc).map (fun d => d.parameters.length) = some n) (hroom : h' + 1 ≤ h ∧ maxL ≤ 81) (hn : As.length = n) {f : Option ((Unit ⊕ Nat) × zW)} {c : Unit → zW → Option α} {t : Nat → zW → Option α}
    (hM : ∀ p, f = some p → zMX E y (Cond.code y cy maxL ret) h' As σ (zfU p)) (hst8 : zcat st ≤ 8) (k : ∀ v s, zG E K fin (c v s) s (pc + 3) lv (st)) (kt : ∀ kx s, zT E K fin (t kx s) kx s pc lv) : zG E K fin (zbx f c t) σ pc lv (As.reverse ++ st) := by
  cases hf : f with
  | none => intro hX; exact z_none hX
  | some p =>
    refine z_csx hk hd hl hin hini hcd hd2 hroom hn (hM p hf) hst8 (fun rv hrv => ?_) (fun kx hkx => ?_)
    · obtain ⟨v | k9, s⟩ := p
      · cases hrv
        exact ⟨_, rfl, k v s⟩
      · cases hrv
    · obtain ⟨v | k9, s⟩ := p
      · cases hkx
      · cases hkx
        exact kt _ s
theorem z_vE (hk : zk E K own cc nL h) (hd : decode cc pc = .ok (.invokevirtual index, 3)) (hl : Cond.methodLink own index y ∈ lw_tbl) (hin : Cond.instanceMethod y ∈ lw_tbl) (hsel : Cond.selects y.cls y y ∈ lw_tbl) (hini : Cond.initialized y.cls ∈ lw_tbl) (hcd : Cond.code y cy maxL ret ∈ lw_tbl) (hd2 : y.cls ≠ "java/lang/invoke/MethodHandle" ∧ y.cls ≠ "java/lang/invoke/VarHandle" ∧ (parseMethodDescriptor y.desc).map (fun d => d.parameters.length) = some n) (hroom : h' + 1 ≤ h ∧ maxL ≤ 81) (hc : zcl[ci]? = some q) (hq : q.1 = y.cls) (hn : As.length = n) {f : Option ((UInt64 ⊕ Nat) × zW)} {c : UInt64 → zW → Option α} {t : Nat → zW → Option α}
    (hM : ∀ p, f = some p → zMX E y (Cond.code y cy maxL ret) h' (.inr (.inl r) :: As) σ (zfE p)) (hst8 : zcat st ≤ 8) (k : ∀ v s, zG E K fin (c v s) s (pc + 3) lv (.inr (.inr (.inr (.inl v))) :: st)) (kt : ∀ kx s, zT E K fin (t kx s) kx s pc lv) : zG E K fin (zck σ (ci + 1) r (zbx f c t)) σ pc lv (As.reverse ++ .inr (.inl r) :: st) := by
  by_cases hκ : zK σ r = ci + 1
  · rw [show zck σ (ci + 1) r (zbx f c t) = zbx f c t from if_pos hκ]
    cases hf : f with
    | none => intro hX; exact z_none hX
    | some p =>
      refine z_cvx hk hd hl hin hsel hini hcd hd2 hroom hc hq hκ hn (hM p hf) hst8 (fun rv hrv => ?_) (fun kx hkx => ?_)
      · obtain ⟨v | k9, s⟩ := p
        · cases hrv
          exact ⟨_, rfl, k v s⟩
        · cases hrv
      · obtain ⟨v | k9, s⟩ := p
        · cases hkx
        · cases hkx
          exact kt _ s
  · rw [show zck σ (ci + 1) r (zbx f c t) = none from if_neg hκ]
    intro hX
    exact z_none hX
theorem z_qE (hk : zk E K own cc nL h) (hd : decode cc pc = .ok (.invokestatic index, 3)) (hl : Cond.methodLink own index y ∈ lw_tbl) (hin : Cond.static y ∈ lw_tbl) (hini : Cond.initialized y.cls ∈ lw_tbl) (hcd : Cond.code y cy maxL ret ∈ lw_tbl) (hd2 : y.cls ≠ "java/lang/invoke/MethodHandle" ∧ y.cls ≠ "java/lang/invoke/VarHandle" ∧ (parseMethodDescriptor y.desc).map (fun d => d.parameters.length) = some n) (hroom : h' + 1 ≤ h ∧ maxL ≤ 81) (hn : As.length = n) {f : Option ((UInt64 ⊕ Nat) × zW)} {c : UInt64 → zW → Option α} {t : Nat → zW → Option α}
    (hM : ∀ p, f = some p → zMX E y (Cond.code y cy maxL ret) h' As σ (zfE p)) (hst8 : zcat st ≤ 8) (k : ∀ v s, zG E K fin (c v s) s (pc + 3) lv (.inr (.inr (.inr (.inl v))) :: st)) (kt : ∀ kx s, zT E K fin (t kx s) kx s pc lv) : zG E K fin (zbx f c t) σ pc lv (As.reverse ++ st) := by
  cases hf : f with
  | none => intro hX; exact z_none hX
  | some p =>
    refine z_csx hk hd hl hin hini hcd hd2 hroom hn (hM p hf) hst8 (fun rv hrv => ?_) (fun kx hkx => ?_)
    · obtain ⟨v | k9, s⟩ := p
      · cases hrv
        exact ⟨_, rfl, k v s⟩
      · cases hrv
    · obtain ⟨v | k9, s⟩ := p
      · cases hkx
      · cases hkx
        exact kt _ s
end ZWR
