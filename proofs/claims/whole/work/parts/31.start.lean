/-! THE LAW'S START: what is known of the first state, and the law's end out of its function -/
def zfb : Nat → Int32
  | 0 => 0
  | 1 => 100
  | 2 => 500
  | 3 => 2000
  | _ => 0
def zfi : Nat → Int32
  | 0 => 10
  | 1 => 20
  | 2 => 50
  | 3 => 100
  | _ => 0
/-- nothing is made yet: the class's two static rows and the script -/
def z0 (L : Nat) (xs : Nat → Int32) : zW :=
  (fun o => match o with
    | 1 => zfb
    | 2 => zfi
    | 3 => xs
    | _ => fun _ => 0, fun _ _ => 0, fun o => match o with
    | 1 => 21
    | 2 => 21
    | 3 => 21
    | _ => 0, fun o => match o with
    | 1 => 4
    | 2 => 4
    | 3 => L
    | _ => 0, (0, 0), fun _ => 0)
def R_law0 : String := "LotSalesLaw"
theorem zflat (w : Cond) (h : (flatC (Jvm.Cond.and given_1 narrow_1)).contains w = true) : w ∈ flatC (Jvm.Cond.and given_1 narrow_1) := List.contains_iff_mem.mp h
def zind : Cond → Bool
  | .castable _ _ => true
  | .arrayOver _ => true
  | .stringRef _ _ _ => true
  | .laysStatic _ _ _ => true
  | w => w.onTables || goodWord w
theorem zon : lw_tbl.all zind = true := by decide +kernel
theorem zany {s : State} {A A' : Array Value} {w : Cond} (hz : zind w = true) (h : w.before A s = true) : w.before A' s = true := by
  have key : ∀ w : Cond, (w.onTables || goodWord w) = true → w.before A s = true → w.before A' s = true := by
    intro w hz h
    rcases Bool.or_eq_true _ _ ▸ hz with hz | hz
    · exact va_any hz h
    · exact word_at (State.WarmedH.refl s) (good_of_word hz) h
  unfold zind at hz
  split at hz
  · exact h
  · exact h
  · exact h
  · exact h
  · exact key _ hz h
theorem zstr : lw_tbl.all (fun w => match w with
    | .stringRef "LotSales" k _ => (flatC (Jvm.Cond.and given_1 narrow_1)).contains (Cond.exactly (.string "LotSales" k) "java/lang/String")
    | _ => true) = true := by decide +kernel
theorem znca : (List.range 6).all (fun i => (List.range 6).all (fun j => i == j || (flatC (Jvm.Cond.and given_1 narrow_1)).contains (Cond.not (.castable (zxn (i + 1)) (zxn (j + 1)))))) = true := by decide +kernel
theorem zls_F : Cond.laysStatic "LotSales" "FIRST_BOUNDS" "[I" ∈ lw_tbl := wt_1 _ (znw tables_1_1 44 _ rfl)
theorem zls_I : Cond.laysStatic "LotSales" "FIRST_INCREMENTS" "[I" ∈ lw_tbl := wt_1 _ (znw tables_1_1 49 _ rfl)
theorem zls_U : Cond.laysStatic Bundle.tN "UNASSIGNED_STACK" Bundle.steD ∈ lw_tbl := by
  show Cond.laysStatic "java/lang/Throwable" "UNASSIGNED_STACK" "[Ljava/lang/StackTraceElement;" ∈ lw_tbl
  exact List.mem_of_getElem? (i := 439) (by decide +kernel)
theorem zls_N : Cond.laysStatic Bundle.tN "SUPPRESSED_SENTINEL" Bundle.listD ∈ lw_tbl := by
  show Cond.laysStatic "java/lang/Throwable" "SUPPRESSED_SENTINEL" "Ljava/util/List;" ∈ lw_tbl
  exact List.mem_of_getElem? (i := 441) (by decide +kernel)
theorem zini_T : Cond.initialized Bundle.tN ∈ lw_tbl := by
  show Cond.initialized "java/lang/Throwable" ∈ lw_tbl
  exact List.mem_of_getElem? (i := 70) (by decide +kernel)
theorem ztab {s : State} {b : Nat} (hs : ∀ c ∈ flatC (Jvm.Cond.and given_1 narrow_1), c.before #[Value.ref b] s = true) (n : String) (f : Nat → Int32)
    (ha : (flatC (Jvm.Cond.and given_1 narrow_1)).contains (Cond.arrayOf (.static "LotSales" n "[I") .int) = true)
    (hl : (flatC (Jvm.Cond.and given_1 narrow_1)).contains (Cond.eq (.length (.static "LotSales" n "[I")) (.int 4)) = true)
    (he : (List.range 4).all (fun j => (flatC (Jvm.Cond.and given_1 narrow_1)).contains (Cond.eq (.elem (.static "LotSales" n "[I") (.int (Int32.ofNat j))) (.int (f j)))) = true) :
    ∃ t : Nat, (Term.static "LotSales" n "[I").eval #[Value.ref b] s none [] s = some (.ref t) ∧ va_T .int t 4 (fun j => .int (f j)) (fun q => s.heap.size ≤ q) s s.heap := by
  refine va_Tof (by decide) (hs _ (zflat _ ha)) (va_eqt (hs _ (zflat _ hl))) (fun j hj => va_eqt (hs _ (zflat _ ?_))) (fun a ha => Nat.not_le.mpr ha)
  exact List.all_eq_true.mp he j (List.mem_range.mpr hj)
theorem zclasses {s : State} {args : Array Value} (hts : ∀ w ∈ lw_tbl, w.before args s = true) : ∃ D : va_G, ∀ (c : Nat) (q : vw_C), zcl[c]? = some q → u_Kn s q.1 q.2.1 q.2.2 (D.1 c) (D.2 c) := by
  have h : ∀ c : Nat, ∃ y : ClassId × (Nat → Nat), ∀ q : vw_C, zcl[c]? = some q → u_Kn s q.1 q.2.1 q.2.2 y.1 y.2 := by
    intro c
    have key : ∀ q : vw_C, zcl[c]? = some q → ∃ y : ClassId × (Nat → Nat), u_Kn s q.1 q.2.1 q.2.2 y.1 y.2 := by
      intro q hq
      have hin : ∀ w ∈ u_ws q.1 q.2.1 q.2.2, w ∈ lw_tbl := fun w hw => (zlays c q hq w hw).1
      have hi : ∃ n, Cond.instantiable q.1 n ∈ lw_tbl := by
        match c, hq with
        | 0, hq => cases hq; exact ⟨_, wd_220⟩
        | 1, hq => cases hq; exact ⟨_, wd_67⟩
        | 2, hq => cases hq; exact ⟨_, wd_97⟩
        | 3, hq => cases hq; exact ⟨_, wd_32⟩
        | 4, hq => cases hq; exact ⟨_, wd_190⟩
        | 5, hq => cases hq; exact ⟨_, wd_38⟩
        | 6, hq => cases hq; exact ⟨_, wd_239⟩
        | 7, hq => cases hq; exact ⟨_, wd_24⟩
        | 8, hq => cases hq; exact ⟨_, wd_1117⟩
        | n + 9, hq => simp at hq
      obtain ⟨n, hn⟩ := hi
      obtain ⟨cC, iS, h⟩ := u_known (n := n) hts hin (hts _ hn)
      exact ⟨(cC, iS), h⟩
    cases hc : zcl[c]? with
    | none => exact ⟨(default, fun _ => 0), fun q hq => by cases hq⟩
    | some q =>
      obtain ⟨y, hy⟩ := key q hc
      exact ⟨y, fun q' hq' => by cases hq'; exact hy⟩
  obtain ⟨f, hf⟩ := Classical.skolem.mp h
  exact ⟨(fun c => (f c).1, fun c => (f c).2), fun c q hq => hf c q hq⟩
theorem zprim1 {s : State} {args : Array Value} {ty : FieldType} (hp : zprim ty = true) (h : (Cond.arrayClass ty).before args s = true) : ∃ c : ClassId, ArrOfT s c ty ∧ va_RA s c ty := by
  obtain ⟨c, k, comp, h1, h2, h3⟩ := Cond.arrayClass_spec h
  refine ⟨c, fun n z => ⟨(fun k h => by cases h), k, h2, comp, h3⟩, ?_⟩
  cases ty <;> first | exact h1 | cases hp
theorem zobj1 {s : State} {args : Array Value} {C : String} (h : (Cond.arrayOver (.object C)).before args s = true) : ∃ c : ClassId, ArrOfT s c (.object C) ∧ va_RA s c (.object C) := by
  obtain ⟨comp, c, k, h1, h2, h3, h4, h5⟩ := Cond.arrayOver_spec h
  exact ⟨c, fun n z => ⟨(fun k h => by cases h), k, h3, comp, h4⟩, k, comp, h3, h4, h1, h5⟩
theorem zFx_of {l : Launch} {s : State} {D : va_G} {eC : Nat → ClassId} {eA : Nat → Nat} {b : Nat} (hflags : l.flags = flags0) (hts : ∀ w ∈ lw_tbl, w.before #[Value.ref b] s = true) (hs : ∀ c ∈ flatC (Jvm.Cond.and given_1 narrow_1), c.before #[Value.ref b] s = true)
    (hD : ∀ (c : Nat) (q : vw_C), zcl[c]? = some q → u_Kn s q.1 q.2.1 q.2.2 (D.1 c) (D.2 c)) (hC : ∀ (k : Nat) (q : ClassId × FieldType), (zty (l, s, D, eC, eA))[k]? = some q → ArrOfT s q.1 q.2 ∧ va_RA s q.1 q.2) (hc : eC 21 = eC 20)
    (hA : ∀ o : Nat, 4 ≤ o → eA o = s.heap.size + (o - 4)) (hA2 : ∀ o : Nat, o < 4 → o ≠ 0 → eA o < s.heap.size) (h1 : (Term.static "LotSales" "FIRST_BOUNDS" "[I").eval #[Value.ref b] s none [] s = some (.ref (eA 1))) (h2 : (Term.static "LotSales" "FIRST_INCREMENTS" "[I").eval #[Value.ref b] s none [] s = some (.ref (eA 2))) : zFx (l, s, D, eC, eA) := by
  have hfree : ∀ a : Nat, a < s.heap.size → ¬ (zold (l, s, D, eC, eA)) a := fun a ha h => absurd ha (Nat.not_lt.mpr h)
  refine ⟨?_, fun w hw => zany (List.all_eq_true.mp zon w hw) (hts w hw), ⟨hD, hC⟩, hc, hA, hA2, ⟨?_, ?_⟩, ⟨?_, ?_⟩, ?_, ?_⟩
  · show (!l.flags.contains noTraceFlag) = false
    rw [hflags]
    decide +kernel
  · exact va_Zref (hts _ zls_F) (hts _ wd_1) h1 hfree
  · exact va_Zref (hts _ zls_I) (hts _ wd_1) h2 hfree
  · exact vx_Zqof (hts _ zls_U) (hts _ zini_T) (hs _ (zflat _ (by decide +kernel))) hfree
  · exact vx_Zqof (hts _ zls_N) (hts _ zini_T) (hs _ (zflat _ (by decide +kernel))) hfree
  · intro k tx hw
    have := List.all_eq_true.mp zstr _ hw
    obtain ⟨a, c, cell, kk, e1, -⟩ := Cond.exactly_spec (hs _ (zflat _ this))
    refine ⟨a, vk_R.of (A := #[Value.ref b]) ?_ ?_⟩
    · exact hts _ hw
    · exact e1
  · intro i j hi1 hi6 hj1 hj6 hij
    have h1 := List.all_eq_true.mp (List.all_eq_true.mp znca (i - 1) (List.mem_range.mpr (by omega))) (j - 1) (List.mem_range.mpr (by omega))
    rw [show i - 1 + 1 = i by omega, show j - 1 + 1 = j by omega] at h1
    rcases Bool.or_eq_true _ _ ▸ h1 with h1 | h1
    · have : i - 1 = j - 1 := by simpa using h1
      omega
    · exact va_Nc.of (hs _ (zflat _ h1))
