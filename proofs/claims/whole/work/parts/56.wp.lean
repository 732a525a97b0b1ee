/-! WALKS BY THEIR ENDS; A SALE'S WHOLE ROW -/
theorem wpE {α : Type} {o o' : Option α} {Q : α → Prop} (h : o = o') (k : wp o' Q) : wp o Q := by rw [h]; exact k
theorem wp_eq {α : Type} {o : Option α} {v : α} (h : wp o (fun x => x = v)) : o = some v := by
  obtain ⟨a, h1, h2⟩ := h
  rw [h1, h2]
theorem wp_of {α : Type} {o : Option α} {v : α} {Q : α → Prop} (h : o = some v) (k : Q v) : wp o Q := ⟨v, h, k⟩
theorem zbx_l {α β : Type} {f : Option ((β ⊕ Nat) × zW)} {v : β} {s : zW} {c : β → zW → Option α} {t : Nat → zW → Option α} (h : f = some (.inl v, s)) : zbx f c t = c v s := by rw [h]; rfl
theorem zbx_r {α β : Type} {f : Option ((β ⊕ Nat) × zW)} {k : Nat} {s : zW} {c : β → zW → Option α} {t : Nat → zW → Option α} (h : f = some (.inr k, s)) : zbx f c t = t k s := by rw [h]; rfl
theorem if_e {α : Type} {P : Prop} [h : Decidable P] {x y : α} (hP : P) : (if P then x else y) = x := if_pos hP
/-- the class's numbers, all of them -/
def cl (σ : zW) (s : Nat) : Nat → Int32 := fun j => if j < 1992 then sl σ s j else 0
theorem cl_lt {σ : zW} {s j : Nat} (h : j < 1992) : cl σ s j = sl σ s j := if_pos h
theorem cl_st {σ : zW} {s j0 : Nat} {v : Int32} (h : j0 < 1992) : cl (stI σ (s + (slo j0).1) (slo j0).2 v) s = up (cl σ s) j0 v := by
  funext j
  unfold up
  by_cases h1 : j < 1992
  · rw [cl_lt h1, cl_lt h1, sl_st h h1]
    rfl
  · rw [if_neg (by omega)]
    show (if j < 1992 then _ else _) = if j < 1992 then _ else _
    rw [if_neg h1, if_neg h1]
theorem cl_at {σ : zW} {s j0 o k : Nat} {v : Int32} (h : j0 < 1992) (e : slo j0 = (o, k)) : cl (stI σ (s + o) k v) s = up (cl σ s) j0 v := by
  have := cl_st (σ := σ) (s := s) (v := v) h
  rw [e] at this
  exact this
theorem Rep.of {σ : zW} {s : Nat} {a f : Nat → Int32} (h : Sh σ s) (e : cl σ s = f) (hv : ∀ j, Vis a j → f j = a j) : Rep σ s a := by
  refine ⟨h, fun j hj => ?_⟩
  rw [← hv j hj, ← e, cl_lt hj.1]
theorem Rep.cla {σ : zW} {s j : Nat} {a : Nat → Int32} (h : Rep σ s a) (hj : Vis a j) : cl σ s j = a j := by
  rw [cl_lt hj.1]
  exact h.2 j hj
theorem Rep.at {σ : zW} {s j0 o k : Nat} {a : Nat → Int32} {v : Int32} (h : Rep σ s a) (hj : j0 < 1992) (e : slo j0 = (o, k)) (h23 : j0 ≠ 23) (h991 : j0 ≠ 991) : Rep (stI σ (s + o) k v) s (up a j0 v) := by
  have := h.st (v := v) hj h23 h991
  rw [e] at this
  exact this
/-- the objects of a Sale -/
def Ps (s : Nat) : Nat → Prop := fun o => s ≤ o ∧ o < s + 112
theorem Ps.mk {s o : Nat} (h1 : s ≤ o) (h2 : o < s + 112) : Ps s o := ⟨h1, h2⟩
theorem Fr.sh {P : Nat → Prop} {σ σ' : zW} {s : Nat} (h : Fr P σ σ') (hS : Sh σ s) : Sh σ' s := hS.fr h
/-- a class's write -/
def Wc (σ : zW) (s : Nat) (f : Nat → Int32) (σ' : zW) : Prop := Fr (Ps s) σ σ' ∧ cl σ' s = f
def Wr (σ : zW) (s : Nat) (a : Nat → Int32) (σ' : zW) : Prop := Fr (Ps s) σ σ' ∧ Rep σ' s a
theorem Wr.trans {σ σ1 σ2 : zW} {s : Nat} {a b : Nat → Int32} (h : Wr σ s a σ1) (h2 : Wr σ1 s b σ2) : Wr σ s b σ2 := ⟨h.1.trans h2.1, h2.2⟩
/-- a write of the reference's row -/
def Ww (σ : zW) (w : Nat) (a : Nat → Int32) (σ' : zW) : Prop := Fr (fun o => o = w) σ σ' ∧ zI σ' w = a
theorem Ww.rf {σ σ' : zW} {m w : Nat} {a : Nat → Int32} (h : Ww σ w a σ') (hR : Rf σ m w) : Rf σ' m w := by
  unfold Rf
  rw [h.1.K, h.1.R, h.1.L]
  exact hR
theorem Ww.refl {σ : zW} {w : Nat} : Ww σ w (zI σ w) σ := ⟨Fr.refl, rfl⟩
theorem Ww.st {σ σ1 : zW} {w j : Nat} {a : Nat → Int32} {v : Int32} (h : Ww σ w a σ1) : Ww σ w (up a j v) (stI σ1 w j v) := ⟨h.1.trans (Fr.st rfl), by rw [zI_stw, h.2]⟩
theorem Ww.trans {σ σ1 σ2 : zW} {w : Nat} {a b : Nat → Int32} (h : Ww σ w a σ1) (h2 : Ww σ1 w b σ2) : Ww σ w b σ2 := ⟨h.1.trans h2.1, h2.2⟩
/-! orders or bids of a lot are removed, as far as k -/
def rmK (a : Nat → Int32) (c i k : Nat) : Nat → Int32 := fun j => if (c + 10 * i ≤ j ∧ j < c + 10 * i + k) ∨ (c + 200 + 10 * i ≤ j ∧ j < c + 200 + 10 * i + k) then 0 else a j
theorem rmK_zero {a : Nat → Int32} {c i : Nat} : rmK a c i 0 = a := by
  funext j
  unfold rmK
  rw [if_neg (by omega)]
theorem rmK_succ {a : Nat → Int32} {c i b : Nat} : put (rmK a c i b) c i b 0 0 = rmK a c i (b + 1) := by
  funext j
  unfold put up rmK
  by_cases h1 : j = c + 200 + 10 * i + b
  · rw [if_pos h1, if_pos (by omega)]
  · rw [if_neg h1]
    by_cases h2 : j = c + 10 * i + b
    · rw [if_pos h2, if_pos (by omega)]
    · rw [if_neg h2]
      by_cases h3 : (c + 10 * i ≤ j ∧ j < c + 10 * i + b) ∨ (c + 200 + 10 * i ≤ j ∧ j < c + 200 + 10 * i + b)
      · rw [if_pos h3, if_pos (by omega)]
      · rw [if_neg h3, if_neg (by omega)]
theorem cl_put {σ : zW} {s i b q : Nat} {x y : Int32} (hi : i < 20) (hb : b < 10) (hq : q = 0 ∨ q = 2) : cl (stI (stI σ (lo s i + (1 + q)) b x) (lo s i + (2 + q)) b y) s = put (cl σ s) (184 + 200 * q) i b x y := by
  rcases hq with rfl | rfl
  · have e2 := cl_at (σ := stI σ (s + (12 + 5 * i + 1)) b x) (s := s) (v := y) (by omega) (slo_p1 hi hb)
    have e1 := cl_at (σ := σ) (s := s) (v := x) (by omega) (slo_p0 hi hb)
    rw [e1] at e2
    exact e2
  · have e2 := cl_at (σ := stI σ (s + (12 + 5 * i + 3)) b x) (s := s) (v := y) (by omega) (slo_p3 hi hb)
    have e1 := cl_at (σ := σ) (s := s) (v := x) (by omega) (slo_p2 hi hb)
    rw [e1] at e2
    exact e2
section
variable {σ : zW} {s n i b m w : Nat} {a : Nat → Int32} {x y : Int32}
theorem c_putOrderS (h : Sh σ s) (hi : i < 20) (hb : b < 10) : wp (fX2_putOrder n (lo s i) (Int32.ofNat b) x y σ) (Wc σ s (put (cl σ s) 184 i b x y)) := by
  have hlo : lo s i = s + (12 + 5 * i) := rfl
  refine wp_of (v := stI (stI σ (lo s i + 1) b x) (lo s i + 2) b y) ?_ ⟨(Fr.st ⟨by omega, by omega⟩).trans (Fr.st ⟨by omega, by omega⟩), cl_put hi hb (Or.inl rfl)⟩
  have g : Sh (stI σ (lo s i + 1) b x) s := h
  unfold fX2_putOrder
  refine (zgR_e (h.kL hi) (h.rL0 hi)).trans ?_
  refine (zsN_e (h.kL0 hi) (h.lL0 hi) hb (by decide) rfl).trans ?_
  refine (zgR_e (g.kL hi) (g.rL1 hi)).trans ?_
  exact zsN_e (g.kL1 hi) (g.lL1 hi) hb (by decide) rfl
theorem c_putBidS (h : Sh σ s) (hi : i < 20) (hb : b < 10) : wp (fX2_putBid n (lo s i) (Int32.ofNat b) x y σ) (Wc σ s (put (cl σ s) 584 i b x y)) := by
  have hlo : lo s i = s + (12 + 5 * i) := rfl
  refine wp_of (v := stI (stI σ (lo s i + 3) b x) (lo s i + 4) b y) ?_ ⟨(Fr.st ⟨by omega, by omega⟩).trans (Fr.st ⟨by omega, by omega⟩), cl_put hi hb (Or.inr rfl)⟩
  have g : Sh (stI σ (lo s i + 3) b x) s := h
  unfold fX2_putBid
  refine (zgR_e (h.kL hi) (h.rL2 hi)).trans ?_
  refine (zsN_e (h.kL2 hi) (h.lL2 hi) hb (by decide) rfl).trans ?_
  refine (zgR_e (g.kL hi) (g.rL3 hi)).trans ?_
  exact zsN_e (g.kL3 hi) (g.lL3 hi) hb (by decide) rfl
theorem c_removeOrdersS (h : Sh σ s) (hn : 1000 < n) (hi : i < 20) : wp (fX2_removeOrders n (lo s i) σ) (Wc σ s (rmK (cl σ s) 184 i 10)) := by
  have key : ∀ (d b k : Nat) (σ1 : zW), b + d = 10 → d < k → Wc σ s (rmK (cl σ s) 184 i b) σ1 → wp (sX2_removeOrders_2 n k (lo s i) (Int32.ofNat b) σ1) (Wc σ s (rmK (cl σ s) 184 i 10)) := by
    intro d
    induction d with
    | zero =>
      intro b k σ1 hb hk hW
      obtain ⟨k, rfl⟩ : ∃ k', k = k' + 1 := ⟨k - 1, by omega⟩
      have hb : b = 10 := by omega
      subst hb
      rw [sX2_removeOrders_2]
      exact wp_some hW
    | succ d ih =>
      intro b k σ1 hb hk hW
      obtain ⟨k, rfl⟩ : ∃ k', k = k' + 1 := ⟨k - 1, by omega⟩
      have h1 : Sh σ1 s := hW.1.sh h
      rw [sX2_removeOrders_2]
      refine wpE (if_pos (io_10 (by omega))) ?_
      refine wpE (zck_e (h1.kL hi)) ?_
      obtain ⟨σ2, e2, hW2⟩ := c_putOrderS (n := n) (x := 0) (y := 0) h1 hi (show b < 10 by omega)
      refine wpE (zb_e e2) ?_
      rw [io_succ]
      refine ih (b + 1) k σ2 (by omega) (by omega) ⟨hW.1.trans hW2.1, ?_⟩
      rw [hW2.2, hW.2, rmK_succ]
  exact key 10 0 n σ (by omega) (by omega) ⟨Fr.refl, rmK_zero.symm⟩
theorem c_removeBidsS (h : Sh σ s) (hn : 1000 < n) (hi : i < 20) : wp (fX2_removeBids n (lo s i) σ) (Wc σ s (rmK (cl σ s) 584 i 10)) := by
  have key : ∀ (d b k : Nat) (σ1 : zW), b + d = 10 → d < k → Wc σ s (rmK (cl σ s) 584 i b) σ1 → wp (sX2_removeBids_2 n k (lo s i) (Int32.ofNat b) σ1) (Wc σ s (rmK (cl σ s) 584 i 10)) := by
    intro d
    induction d with
    | zero =>
      intro b k σ1 hb hk hW
      obtain ⟨k, rfl⟩ : ∃ k', k = k' + 1 := ⟨k - 1, by omega⟩
      have hb : b = 10 := by omega
      subst hb
      rw [sX2_removeBids_2]
      exact wp_some hW
    | succ d ih =>
      intro b k σ1 hb hk hW
      obtain ⟨k, rfl⟩ : ∃ k', k = k' + 1 := ⟨k - 1, by omega⟩
      have h1 : Sh σ1 s := hW.1.sh h
      rw [sX2_removeBids_2]
      refine wpE (if_pos (io_10 (by omega))) ?_
      refine wpE (zck_e (h1.kL hi)) ?_
      obtain ⟨σ2, e2, hW2⟩ := c_putBidS (n := n) (x := 0) (y := 0) h1 hi (show b < 10 by omega)
      refine wpE (zb_e e2) ?_
      rw [io_succ]
      refine ih (b + 1) k σ2 (by omega) (by omega) ⟨hW.1.trans hW2.1, ?_⟩
      rw [hW2.2, hW.2, rmK_succ]
  exact key 10 0 n σ (by omega) (by omega) ⟨Fr.refl, rmK_zero.symm⟩
theorem Vis.rm {c k j : Nat} (hc : c = 184 ∨ c = 584) (hi : i < 20) (hk : k ≤ 10) (h : Vis (rmK a c i k) j) : Vis a j := by
  have e1 : rmK a c i k 23 = a 23 := by
    unfold rmK
    rw [if_neg (by omega)]
  have e2 : rmK a c i k 991 = a 991 := by
    unfold rmK
    rw [if_neg (by omega)]
  unfold Vis at h ⊢
  rwa [e1, e2] at h
theorem Rep.rm {σ1 : zW} {c : Nat} (h : Rep σ s a) (hc : c = 184 ∨ c = 584) (hi : i < 20) (hW : Wc σ s (rmK (cl σ s) c i 10) σ1) : Wr σ s (rmK a c i 10) σ1 := by
  refine ⟨hW.1, Rep.of (hW.1.sh h.1) hW.2 fun j hj => ?_⟩
  have hv := Vis.rm hc hi (Nat.le_refl _) hj
  unfold rmK
  rw [h.cla hv]
theorem c_removeOrders (h : Rep σ s a) (hn : 1000 < n) (hi : i < 20) : wp (fX2_removeOrders n (lo s i) σ) (Wr σ s (rmK a 184 i 10)) :=
  wp_mono (c_removeOrdersS h.1 hn hi) fun _ hW => h.rm (Or.inl rfl) hi hW
theorem c_removeBids (h : Rep σ s a) (hn : 1000 < n) (hi : i < 20) : wp (fX2_removeBids n (lo s i) σ) (Wr σ s (rmK a 584 i 10)) :=
  wp_mono (c_removeBidsS h.1 hn hi) fun _ hW => h.rm (Or.inr rfl) hi hW
theorem r_removeOrders (h : Rf σ m w) (hn : 1000 < n) (hi : i < 20) : wp (fX8_removeOrders n m (Int32.ofNat i) σ) (fun p => p.1 = oc (zI σ w) i ∧ Ww σ w (rmK (zI σ w) 184 i 10) p.2) := by
  have key : ∀ (d b k : Nat) (σ1 : zW), b + d = 10 → d < k → Ww σ w (rmK (zI σ w) 184 i b) σ1 → wp (sX8_removeOrders_8 n k m (Int32.ofNat i) (oc (zI σ w) i) (Int32.ofNat b) σ1) (fun p => p.1 = oc (zI σ w) i ∧ Ww σ w (rmK (zI σ w) 184 i 10) p.2) := by
    intro d
    induction d with
    | zero =>
      intro b k σ1 hb hk hW
      obtain ⟨k, rfl⟩ : ∃ k', k = k' + 1 := ⟨k - 1, by omega⟩
      have hb : b = 10 := by omega
      subst hb
      rw [sX8_removeOrders_8]
      exact wp_some ⟨rfl, hW⟩
    | succ d ih =>
      intro b k σ1 hb hk hW
      obtain ⟨k, rfl⟩ : ∃ k', k = k' + 1 := ⟨k - 1, by omega⟩
      have h1 : Rf σ1 m w := hW.rf h
      rw [sX8_removeOrders_8]
      refine wpE (if_pos (io_10 (by omega))) ?_
      refine wpE (zck_e h1.kM) ?_
      refine wpE (zb_e (r_putOrder h1 hi (show b < 10 by omega))) ?_
      rw [io_succ]
      refine ih (b + 1) k _ (by omega) (by omega) ?_
      rw [← rmK_succ]
      exact hW.st.st
  unfold fX8_removeOrders
  refine wpE (zck_e h.kM) ?_
  refine wpE (zb_e (r_ordersOf h hn hi)) ?_
  refine key 10 0 n σ (by omega) (by omega) ?_
  rw [rmK_zero]
  exact Ww.refl
end
