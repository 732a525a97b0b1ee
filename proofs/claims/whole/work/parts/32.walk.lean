/-! THE CLAIM OUT OF ONE WALK OF THE LAW'S BODY. Your part is whole_start (and what it stands on); all else here is the same for every law, but numbers. -/
def R_law : String := "LotSalesLaw"
def lw_P (b : Addr) (xs : List Int32) (args : Array Value) (s : State) : Prop := args = #[.ref b] ∧ s.IntsAt b xs ∧ xs.length ≤ 2560 ∧ (Jvm.Cond.and given_1 narrow_1).before args s = true
/-- what a walk over the start with the record d0 says of its end, said of the start itself -/
theorem lw_closed {s t : State} {o : Outcome} {d0 : Drawn} {L : List Loc} {k n : Nat} (hd0 : s.drawn.sameBut d0 lw_cs) (hv : ∃ v, o = .returned v) (hW : (s.setDrawn d0).WarmedH t.vm) (hs : (s.setDrawn d0).sameButNew ({ t with vm := s.vm } : State) L k n) : State.butDraws s t lw_cs (fun t1 => Framed s o t1 L k n) := by
  have h2 : t.drawn = d0 := congrArg State.drawn hs.1
  refine ⟨⟨hv, hW, State.sameButNew.setDrawn hs s.drawn⟩, ?_, by decide⟩
  rw [h2]
  exact hd0
def lw_Q (_ : Array Value) (s : State) (o : Outcome) (t : State) : Prop := o = .returned (some (.int 1)) ∧ State.butDraws s t lw_cs (fun t1 => Framed s o t1 [] 603072 7219305)
def lw_Z (below : List Frame) (a : Array Value) (s : State) : State → Prop := fun t => ∃ o, t.status = .running ∧ Ended t below o ∧ lw_Q a s o t
/-- the law's own end, with 1 on the stack, nothing written that was there before, its room as the claim has it; d0: the record of draws at this point (at the entry s.drawn: begin with 'refine W.base ?_' and 'have hd0 := Drawn.sameBut.refl s.drawn lw_cs') -/
theorem lw_ret {p : Program} {l : Launch} {e : Env} {s : State} {m : MethodId} {below : List Frame} {meth : Method} {c : Code} {b : Nat} {d0 : Drawn} (hd0 : s.drawn.sameBut d0 lw_cs) (hx : p.tables.exec = Jvm.exec) (hb : c.code = code) (hr : meth.sig.returnType = ret) (hlocks : meth.locks = false) {pc : Nat} {H : Heap} {ls : Array Slot} (hdg : decode code pc = .ok (.ireturn, 1)) : W p l e room_1 (s.setDrawn d0) m #[Value.ref b] below meth c H [] 603072 7219305 (lw_Z below #[Value.ref b] s) (F0 m pc ls [.int 1]) := by
  intro T hT X
  obtain ⟨fs, hret, hrun, hended, hW, hframe⟩ := X.leave (v := some (.int 1)) (hlocks := hlocks) (fun h => by rw [hr] at h; cases h)
  have hmeth' : T.vm.method? m = some meth := X.method'
  refine ⟨T.setFrames fs, ?_, .returned (some (.int 1)), hrun, hended, rfl, lw_closed hd0 ⟨_, rfl⟩ hW hframe⟩
  jvm_step X.here [X.here.top, hx, hb, hdg, hmeth', hr, ret, narrow_b1]
  (try refine ⟨rfl, ?_⟩); (try refine ⟨rfl, ?_⟩)
  first | (intro acts; rw [hret _ acts rfl rfl rfl]) | rw [hret _ _ rfl rfl rfl]
  exact Steps.refl _
/-- what holds at the law's entry: the machine, the code, the tables' words (any of lw_tbl by 'hts w (by decide +kernel)'), the script of L ints xs at the cell b, what the Statement gives of the start (any of its parts by flat_of_before) -/
def lw_At (p : Program) (s : State) (m : MethodId) (meth : Method) (c : Code) (b L : Nat) (xs : Nat → Int32) : Prop :=
  p.tables.exec = Jvm.exec ∧ c.code = code ∧ meth.sig.returnType = ret ∧ c.maxLocals = 9 ∧ s.vm.findClass R_law = some m.cls ∧ (∀ w ∈ lw_tbl, w.before #[Value.ref b] s = true) ∧ va_X b L xs s s.heap ∧ b < s.heap.size ∧ meth.locks = false ∧ (Jvm.Cond.and given_1 narrow_1).before #[Value.ref b] s = true
/-! THE LAW'S WALK FROM ITS START -/
theorem zN_z0 (L : Nat) (xs : Nat → Int32) : zN (z0 L xs) = 0 ∧ zS (z0 L xs) = 0 := ⟨rfl, rfl⟩
theorem zW_mono2 {p : Program} {l : Launch} {e : Env} {R : Room} {s : State} {m : MethodId} {args : Array Value} {below : List Frame} {meth : Method} {c : Code} {H : Heap} {locs : List Loc} {cells slots : Nat} {Q Q' : State → Prop} {g : JFrame} (h : ∀ t, Q t → Q' t) (k : W p l e R s m args below meth c H locs cells slots Q g) : W p l e R s m args below meth c H locs cells slots Q' g := zW_mono h k
theorem zlaw_start {p : Program} {e : Env} {s : State} {m : MethodId} {below : List Frame} {meth : Method} {c : Code} (l : Launch) (hflags : l.flags = flags0) {b L : Nat} {xs : Nat → Int32} (hL : L ≤ 2560) (C0 : lw_At p s m meth c b L xs) {n : Nat} {σf : zW} (hf : fL_law n 3 (z0 L xs) = some (1, σf)) :
    W p l e room_1 s m #[Value.ref b] below meth c s.heap [] 0 0 (lw_Z below #[Value.ref b] s) (entryFrame m ([Value.ref b] : List Value).toArray 9) := by
  obtain ⟨hx, hb, hr, hml, hown, hts, hX, hbl, hlocks, hgv⟩ := C0
  have hs := flat_of_before _ hgv
  obtain ⟨D, hD⟩ := zclasses hts
  obtain ⟨ci, hci1, hci2⟩ := zprim1 (ty := .int) rfl (hts _ wd_63)
  obtain ⟨cc, hcc1, hcc2⟩ := zprim1 (ty := .char) rfl (hts _ wd_267)
  obtain ⟨cl, hcl1, hcl2⟩ := zprim1 (ty := .long) rfl (hts _ wd_1546)
  obtain ⟨cd, hcd1, hcd2⟩ := zprim1 (ty := .double) rfl (hts _ wd_1547)
  obtain ⟨cL, hcL1, hcL2⟩ := zobj1 (C := "LotSales$Lot") (hts _ wd_65)
  obtain ⟨cS, hcS1, hcS2⟩ := zobj1 (C := "LotSales$Sale") (hts _ wd_226)
  obtain ⟨t1, ht1, hT1⟩ := ztab hs "FIRST_BOUNDS" zfb (by decide +kernel) (by decide +kernel) (by decide +kernel)
  obtain ⟨t2, ht2, hT2⟩ := ztab hs "FIRST_INCREMENTS" zfi (by decide +kernel) (by decide +kernel) (by decide +kernel)
  have hl1 : t1 < s.heap.size := by
    obtain ⟨cell, h1, -⟩ := hT1
    exact (Array.getElem?_eq_some_iff.mp h1).1
  have hl2 : t2 < s.heap.size := by
    obtain ⟨cell, h1, -⟩ := hT2
    exact (Array.getElem?_eq_some_iff.mp h1).1
  let eC : Nat → ClassId := fun k => match k with
    | 20 => ci
    | 21 => ci
    | 22 => cc
    | 23 => cl
    | 24 => cd
    | 25 => cL
    | 26 => cS
    | _ => ci
  let eA : Nat → Nat := fun o => match o with
    | 0 => 0
    | 1 => t1
    | 2 => t2
    | 3 => b
    | o + 4 => s.heap.size + o
  let E : zE := (l, s, D, eC, eA)
  have F : zFx E := by
    refine zFx_of hflags hts hs hD ?_ rfl ?_ ?_ ht1 ht2
    · intro k q hq
      match k, hq with
      | 0, hq => cases hq; exact ⟨hci1, hci2⟩
      | 1, hq => cases hq; exact ⟨hcc1, hcc2⟩
      | 2, hq => cases hq; exact ⟨hcl1, hcl2⟩
      | 3, hq => cases hq; exact ⟨hcd1, hcd2⟩
      | 4, hq => cases hq; exact ⟨hcL1, hcL2⟩
      | 5, hq => cases hq; exact ⟨hcS1, hcS2⟩
      | k + 6, hq => simp at hq
    · intro o ho
      obtain ⟨k, rfl⟩ : ∃ k, o = k + 4 := ⟨o - 4, by omega⟩
      rfl
    · intro o ho h0
      match o, ho, h0 with
      | 1, _, _ => exact hl1
      | 2, _, _ => exact hl2
      | 3, _, _ => exact hbl
  have hR : zRp E (z0 L xs) s.heap := by
    refine ⟨rfl, fun _ _ => rfl, ?_, Nat.zero_le _, Nat.zero_le _, ?_⟩
    · show zsum s.heap.size s.heap = 0
      unfold zsum
      rw [List.drop_eq_nil_of_le (by simp)]
      rfl
    · intro o h0
      match o, h0 with
      | 1, _ => exact ⟨by decide, by show 1 < 0 + 4; decide, fun _ => rfl, hT1⟩
      | 2, _ => exact ⟨by decide, by show 2 < 0 + 4; decide, fun _ => rfl, hT2⟩
      | 3, _ =>
        refine ⟨by decide, by show 3 < 0 + 4; decide, fun _ => rfl, ?_⟩
        obtain ⟨scr, h1, h2, h3, h4, h5⟩ := hX
        exact ⟨scr, h1, h2, h3, by rw [h4]; exact Nat.le_refl _, by rw [h4]; rfl, h5, fun h => absurd hbl (Nat.not_lt.mpr h)⟩
      | 0, h0 => exact absurd rfl h0
      | o + 4, h0 => exact absurd rfl h0
  let K : zC := ((p, e, room_1, s, m, #[Value.ref b], below), (meth, c, lw_Z below #[Value.ref b] s), z0 L xs, (.inl (some (.int 1)), σf))
  have hk : zk E K "LotSalesLaw" cL_law 9 13 := ⟨hx, hb, hml, hown, hlocks, State.WarmedH.refl s, F, rfl, rfl, by show 13 ≤ 23; decide, by show 100 * 13 ≤ 11026; decide, hR⟩
  have he : zend E K (some .boolean) (cMe K).name := by
    refine ⟨hr, rfl, fun rv σ' hO H locs cells slots g k => ?_⟩
    have hrv : rv = some (.int 1) := by
      have h1 : ((.inl (some (.int 1)), σf) : zO) = (.inl rv, σ') := hO
      have h2 := (Prod.mk.inj h1).1
      exact (Sum.inl.inj h2).symm
    subst hrv
    refine zW_mono (fun t ht => ?_) k
    obtain ⟨o, q1, q2, ⟨q3, -⟩, Lf, ⟨⟨v, hv⟩, hW, hsame⟩, hfree⟩ := ht
    refine ⟨o, q1, q2, q3, ?_⟩
    refine lw_closed (Drawn.sameBut.refl s.drawn lw_cs) ⟨v, hv⟩ hW ?_
    exact State.sameButNew.weaken hsame (fun y hy hlt => absurd hlt (Nat.not_lt.mpr (hfree y hy))) (Nat.le_refl _) (Nat.le_refl _)
  have hG := bL_law F n 3 (z0 L xs) hk he
  exact z_open (E := E) (K := K) (fin := zfW) (av := [.inr (.inl 3)]) (lv0 := _) (fun v hv => by rw [List.mem_singleton.mp hv]; rfl) (by decide) rfl hml hR rfl ⟨_, hf, rfl⟩ ⟨rfl, rfl⟩ rfl hG
