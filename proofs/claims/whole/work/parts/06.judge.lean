/-! WHAT STAYS TRUE THROUGH A RUN, AND THE JUDGEMENT -/
abbrev zty (E : zE) : List (ClassId × FieldType) := [(eC E 20, .int), (eC E 22, .char), (eC E 23, .long), (eC E 24, .double), (eC E 25, .object "LotSales$Lot"), (eC E 26, .object "LotSales$Sale")]
def zX : List String := ["", "java/lang/IndexOutOfBoundsException", "java/lang/IllegalArgumentException", "java/lang/IllegalStateException", "java/util/NoSuchElementException", "java/lang/UnsupportedOperationException", "java/lang/ArithmeticException"]
/-- exceptions by their numbers: 1 index, 2 argument, 3 state, 4 no such element, 5 unsupported, 6 arithmetic -/
def zxn (k : Nat) : String := zX.getD k ""
def zold (E : zE) : Nat → Prop := fun q => zB E ≤ q
def zFx (E : zE) : Prop :=
  (eL E).stackTraces = false ∧ (∀ w ∈ lw_tbl, w.before #[] (eS E) = true) ∧ va_K (eD E) zcl (zty E) (eS E) ∧ eC E 21 = eC E 20 ∧
  (∀ o : Nat, 4 ≤ o → eA E o = zB E + (o - 4)) ∧ (∀ o : Nat, o < 4 → o ≠ 0 → eA E o < zB E) ∧
  (va_Z "LotSales" "FIRST_BOUNDS" "[I" (.ref (eA E 1)) (zold E) (eS E) (eS E).heap ∧ va_Z "LotSales" "FIRST_INCREMENTS" "[I" (.ref (eA E 2)) (zold E) (eS E) (eS E).heap) ∧
  (vx_Zq Bundle.tN "UNASSIGNED_STACK" Bundle.steD (zold E) (eS E) (eS E).heap ∧ vx_Zq Bundle.tN "SUPPRESSED_SENTINEL" Bundle.listD (zold E) (eS E) (eS E).heap) ∧
  (∀ (k : Nat) (tx : String), Cond.stringRef "LotSales" k tx ∈ lw_tbl → ∃ a, vk_R "LotSales" k tx a (eS E)) ∧
  (∀ i j : Nat, 1 ≤ i → i ≤ 6 → 1 ≤ j → j ≤ 6 → i ≠ j → va_Nc (zxn i) (zxn j) (eS E))
/-- a method's own: the machine, its start, its end, the world at its start, what it is to answer -/
abbrev zO : Type := (Option Value ⊕ Nat) × zW
abbrev zC : Type := (Program × Env × Room × State × MethodId × Array Value × List Frame) × (Method × Code × (State → Prop)) × zW × zO
def cP (K : zC) : Program := K.1.1
def cE (K : zC) : Env := K.1.2.1
def cR (K : zC) : Room := K.1.2.2.1
def cS (K : zC) : State := K.1.2.2.2.1
def cM (K : zC) : MethodId := K.1.2.2.2.2.1
def cA (K : zC) : Array Value := K.1.2.2.2.2.2.1
def cB (K : zC) : List Frame := K.1.2.2.2.2.2.2
def cMe (K : zC) : Method := K.2.1.1
def cCo (K : zC) : Code := K.2.1.2.1
def cQ (K : zC) : State → Prop := K.2.1.2.2
def c0 (K : zC) : zW := K.2.2.1
def cO (K : zC) : zO := K.2.2.2
def zk (E : zE) (K : zC) (own : String) (cc : ByteArray) (nL : Nat) (h : Nat) : Prop :=
  (cP K).tables.exec = Jvm.exec ∧ (cCo K).code = cc ∧ (cCo K).maxLocals = nL ∧ (cS K).vm.findClass own = some (cM K).cls ∧ (cMe K).locks = false ∧ (eS E).WarmedH (cS K).vm ∧ zFx E ∧
  (cR K).cells = 603072 - zN (c0 K) ∧ (cR K).slots = 7219305 - zS (c0 K) ∧ h ≤ (cR K).frames ∧ 100 * h ≤ (cR K).locals ∧ zRp E (c0 K) (cS K).heap
abbrev zWw (E : zE) (K : zC) (H : Heap) (locs : List Loc) (cells slots : Nat) (g : JFrame) : Prop :=
  W (cP K) (eL E) (cE K) (cR K) (cS K) (cM K) (cA K) (cB K) (cMe K) (cCo K) H locs cells slots (cQ K) g
/-- where X is the rest of the method's answer and the world is σ, the machine at pc comes to that answer -/
def zG (E : zE) (K : zC) {α : Type} (fin : α → zO) (X : Option α) (σ : zW) (pc : Nat) (lv : zLV) (st : List zV) : Prop :=
  (∃ o, X = some o ∧ fin o = cO K) → zN (c0 K) ≤ zN σ → zS (c0 K) ≤ zS σ → lv.length ≤ (cCo K).maxLocals → ∀ (H : Heap) (locs : List Loc) (ls : Array Slot), zRp E σ H → (∀ q ∈ locs, zB E ≤ q.base) → lv_has ls (cCo K).maxLocals (zlv E 0 lv) →
    zWw E K H locs (cR K).cells (cR K).slots (F0 (cM K) pc ls (st.map (zv E)))
section ZP
variable {E : zE} {K : zC} {own : String} {cc : ByteArray} {nL h : Nat} {α : Type} {fin : α → zO} {X : Option α} {σ : zW} {pc : Nat} {lv : zLV} {st : List zV}
theorem zlv_at {E : zE} : ∀ (lv : zLV) (i k : Nat) (v : zV), zget lv k = some v → (i + k, zv E v) ∈ zlv E i lv
  | [], _, _, _, h => by cases h
  | none :: t, i, 0, v, h => by cases h
  | some a :: t, i, 0, v, h => by
    have h1 : some a = some v := h
    cases h1
    exact List.mem_cons_self
  | none :: t, i, k + 1, v, h => by
    have := zlv_at (E := E) t (i + 1) k v h
    rw [show i + 1 + k = i + (k + 1) by omega] at this
    exact this
  | some a :: t, i, k + 1, v, h => by
    have := zlv_at (E := E) t (i + 1) k v h
    rw [show i + 1 + k = i + (k + 1) by omega] at this
    exact List.mem_cons_of_mem _ this
theorem zlv_le {E : zE} : ∀ (lv : zLV) (i : Nat) (q : Nat × Value), q ∈ zlv E i lv → i ≤ q.1
  | [], _, _, h => by cases h
  | none :: t, i, q, h => Nat.le_of_succ_le (zlv_le (E := E) t (i + 1) q h)
  | some a :: t, i, q, h => by
    rcases List.mem_cons.mp h with h | h
    · rw [h]; exact Nat.le_refl _
    · exact Nat.le_of_succ_le (zlv_le (E := E) t (i + 1) q h)
theorem zv_wide {E : zE} {v : zV} (h : zwide (some v) = false) : (zv E v).category = 1 := by
  rcases v with x | r | x | x | a
  · rfl
  · show (va_rf (zro E r)).category = 1
    cases zro E r <;> rfl
  · cases h
  · cases h
  · rfl
theorem zset_mem {E : zE} : ∀ (lv lv' : zLV) (i k : Nat) (v : zV), zset lv k v = some lv' → lv'.length = lv.length ∧ k < lv.length ∧ ∀ q ∈ zlv E i lv', q = (i + k, zv E v) ∨ (q ∈ zlv E i lv ∧ q.1 ≠ i + k ∧ (q.1 + 1 = i + k → q.2.category ≠ 2))
  | [], _, _, _, _, h => by cases h
  | a :: t, lv', i, 0, v, h => by
    cases h
    refine ⟨rfl, Nat.succ_pos _, fun q hq => ?_⟩
    rcases List.mem_cons.mp hq with hq | hq
    · exact Or.inl (by rw [hq]; rfl)
    · have h1 := zlv_le (E := E) t (i + 1) q hq
      refine Or.inr ⟨?_, by omega, fun h2 => by omega⟩
      cases a with
      | none => exact hq
      | some b => exact List.mem_cons_of_mem _ hq
  | a :: t, lv', i, k + 1, v, h => by
    unfold zset at h
    cases hw : zwide a with
    | true => rw [hw] at h; cases h
    | false =>
      rw [hw] at h
      cases hs : zset t k v with
      | none => rw [hs] at h; cases h
      | some t' =>
        rw [hs] at h
        cases h
        obtain ⟨h1, h2, h3⟩ := zset_mem (E := E) t t' (i + 1) k v hs
        refine ⟨by simp [h1], by simpa using h2, fun q hq => ?_⟩
        have key : ∀ q ∈ zlv E (i + 1) t', q = (i + (k + 1), zv E v) ∨ (q ∈ zlv E (i + 1) t ∧ q.1 ≠ i + (k + 1) ∧ (q.1 + 1 = i + (k + 1) → q.2.category ≠ 2)) := by
          intro q hq
          have := h3 q hq
          rw [show i + 1 + k = i + (k + 1) by omega] at this
          exact this
        cases a with
        | none => exact key q hq
        | some b =>
          rcases List.mem_cons.mp hq with hq | hq
          · refine Or.inr ⟨by rw [hq]; exact List.mem_cons_self, by rw [hq]; show i ≠ _; omega, fun _ => ?_⟩
            rw [hq]
            show (zv E b).category ≠ 2
            rw [zv_wide hw]; decide
          · rcases key q hq with g | ⟨g1, g2, g3⟩
            · exact Or.inl g
            · exact Or.inr ⟨List.mem_cons_of_mem _ g1, g2, g3⟩
theorem zhas_set {E : zE} {lv lv' : zLV} {k n : Nat} {v : zV} {ls : Array Slot} (hz : zset lv k v = some lv') (h : lv_has ls n ((k, zv E v) :: (zlv E 0 lv).filter (fun q => !(q.1 == k) && !(q.1 + 1 == k && q.2.category == 2)))) : lv_has ls n (zlv E 0 lv') := by
  refine ⟨h.1, h.2.1, fun q hq => h.2.2 q ?_⟩
  rcases (zset_mem (E := E) lv lv' 0 k v hz).2.2 q hq with g | ⟨g1, g2, g3⟩
  · rw [g, Nat.zero_add]; exact List.mem_cons_self
  · refine List.mem_cons_of_mem _ (List.mem_filter.mpr ⟨g1, ?_⟩)
    rw [Nat.zero_add] at g2 g3
    have e1 : (q.1 == k) = false := by simpa using g2
    rw [e1]
    by_cases e2 : q.1 + 1 = k
    · have := g3 e2
      simp [this]
    · simp [e2]
theorem zmask_mem {E : zE} : ∀ (lv : zLV) (m : List Bool) (i : Nat), (zmask lv m).length = lv.length ∧ ∀ q ∈ zlv E i (zmask lv m), q ∈ zlv E i lv
  | [], m, i => by cases m <;> exact ⟨rfl, fun q hq => hq⟩
  | a :: t, [], i => ⟨rfl, fun q hq => hq⟩
  | a :: t, b :: m, i => by
    obtain ⟨h1, h2⟩ := zmask_mem (E := E) t m (i + 1)
    refine ⟨by simp [zmask, h1], fun q hq => ?_⟩
    cases b with
    | true =>
      cases a with
      | none => exact h2 q hq
      | some x =>
        rcases List.mem_cons.mp hq with hq | hq
        · rw [hq]; exact List.mem_cons_self
        · exact List.mem_cons_of_mem _ (h2 q hq)
    | false =>
      have h3 := h2 q hq
      cases a with
      | none => exact h3
      | some x => exact List.mem_cons_of_mem _ h3
/-- fewer locals are known -/
theorem z_mask {lv' : zLV} (m : List Bool) (hm : zmask lv m = lv') (k : zG E K fin X σ pc lv' st) : zG E K fin X σ pc lv st := by
  subst hm
  intro hX h1 h2 h3 H locs ls hR hl hh
  exact k hX h1 h2 (by rw [(zmask_mem (E := E) lv m 0).1]; exact h3) H locs ls hR hl ⟨hh.1, hh.2.1, fun q hq => hh.2.2 q ((zmask_mem (E := E) lv m 0).2 q hq)⟩
theorem zcst_ofInt (n : Int) : zcst n = Int32.ofInt n := by
  cases n with
  | ofNat k => rfl
  | negSucc k =>
    show -(Int32.ofNat (k + 1)) = _
    rw [← Int32.ofInt_eq_ofNat, ← Int32.ofInt_neg]
    rfl
theorem zcst8 {n : Int} (h : zfit 128 n = true) : (Int8.ofInt n).toInt32 = zcst n := by
  have h1 : -2^7 ≤ n ∧ n < 2^7 := by
    cases n with
    | ofNat k =>
      have : k + 1 ≤ 128 := Nat.le_of_ble_eq_true h
      rw [Int.ofNat_eq_natCast]
      omega
    | negSucc k =>
      have : k + 1 ≤ 128 := Nat.le_of_ble_eq_true h
      omega
  rw [zcst_ofInt]
  apply Int32.toInt_inj.mp
  rw [Int8.toInt_toInt32, Int8.toInt_ofInt_of_le h1.1 h1.2, Int32.toInt_ofInt_of_le (by omega) (by omega)]
theorem zcst16 {n : Int} (h : zfit 32768 n = true) : (Int16.ofInt n).toInt32 = zcst n := by
  have h1 : -2^15 ≤ n ∧ n < 2^15 := by
    cases n with
    | ofNat k =>
      have : k + 1 ≤ 32768 := Nat.le_of_ble_eq_true h
      rw [Int.ofNat_eq_natCast]
      omega
    | negSucc k =>
      have : k + 1 ≤ 32768 := Nat.le_of_ble_eq_true h
      omega
  rw [zcst_ofInt]
  apply Int32.toInt_inj.mp
  rw [Int16.toInt_toInt32, Int16.toInt_ofInt_of_le h1.1 h1.2, Int32.toInt_ofInt_of_le (by omega) (by omega)]
/-- one step of the machine, whatever the heap -/
theorem z_lift {pc' : Nat} {lv' : zLV} {st' : List zV} (hl : lv'.length = lv.length)
    (h : ∀ (H : Heap) (locs : List Loc) (ls : Array Slot), lv_has ls (cCo K).maxLocals (zlv E 0 lv) → (∀ ls' : Array Slot, lv_has ls' (cCo K).maxLocals (zlv E 0 lv') → zWw E K H locs (cR K).cells (cR K).slots (F0 (cM K) pc' ls' (st'.map (zv E)))) → zWw E K H locs (cR K).cells (cR K).slots (F0 (cM K) pc ls (st.map (zv E))))
    (k : zG E K fin X σ pc' lv' st') : zG E K fin X σ pc lv st := by
  intro hX h1 h2 h3 H locs ls hR ho hh
  exact h H locs ls hh (fun ls' hh' => k hX h1 h2 (by rw [hl]; exact h3) H locs ls' hR ho hh')
theorem z_lift0 {pc' : Nat} {st' : List zV}
    (h : ∀ (H : Heap) (locs : List Loc) (ls : Array Slot), zWw E K H locs (cR K).cells (cR K).slots (F0 (cM K) pc' ls (st'.map (zv E))) → zWw E K H locs (cR K).cells (cR K).slots (F0 (cM K) pc ls (st.map (zv E))))
    (k : zG E K fin X σ pc' lv st') : zG E K fin X σ pc lv st :=
  fun hX h1 h2 h3 H locs ls hR ho hh => h H locs ls (k hX h1 h2 h3 H locs ls hR ho hh)
theorem z_ld {ls : Array Slot} {n k : Nat} {v : zV} (hh : lv_has ls n (zlv E 0 lv)) (h : zget lv k = some v) : ls[k]? = some (.val (zv E v)) := by
  have := hh.2.2 _ (zlv_at (E := E) lv 0 k v h)
  rw [Nat.zero_add] at this
  exact this
theorem zrv_cases (E : zE) (r : Nat) : zrv E r = .null ∨ ∃ a, zrv E r = .ref a := by
  unfold zrv
  cases zro E r with
  | none => exact Or.inl rfl
  | some a => exact Or.inr ⟨a, rfl⟩
end ZP
