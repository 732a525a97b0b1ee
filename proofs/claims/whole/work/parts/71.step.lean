/-! THE WRITES, OVER THE STATE -/
def Cw (σ : zW) (S : St) (c : Nat) (σ' : zW) : Prop := JC σ' S c ∧ FC σ σ'
theorem Cw.refl {σ : zW} {S : St} {c : Nat} (h : JC σ S c) : Cw σ S c σ := ⟨h, FC.refl⟩
theorem Cw.tr {σ σ1 σ2 : zW} {S1 S2 : St} {c : Nat} (h : Cw σ S1 c σ1) (h2 : Cw σ1 S2 c σ2) : Cw σ S2 c σ2 := ⟨h2.1, h.2.trans h2.2⟩
theorem Sm.tr {τ τ1 τ2 : zW} {S1 S2 : St} (h : Sm τ S1 τ1) (h2 : Sm τ1 S2 τ2) : Sm τ S2 τ2 := ⟨h2.1, h.2.1.trans h2.2.1, h2.2.2.trans h.2.2⟩
section
variable {σ τ : zW} {S : St} {c n i b : Nat} {x y : Int32}
theorem cw_wr {a : Nat → Int32} {σ' : zW} (h : JC σ S c) (hW : Wr σ 5 a σ') : Cw σ (uA S a) c σ' := ⟨h.wr hW, FC.wr hW⟩
theorem cw_v {σ' : zW} (h : JC σ S c) (hf : Fr (Pv 117) σ σ') : Cw σ S c σ' := ⟨h.v hf, FC.v hf⟩
theorem cw_keep (h : JC σ S c) (hc : Cn (sA S)) (hn : 1000 < n) (hcc : c ≤ 100000) : wp (fX0_keep n 120 5 σ) (Cw σ (keepS S) c) := c_keep h hc hn hcc
theorem cw_num (h : JC σ S c) : wp (fX3_nextNumber n 5 σ) (fun p => p.1 = sA S 984 + 1 ∧ Cw σ (uA S (rNum (sA S))) c p.2) := wp_mono (c_nextNumber h.rep) (fun _ q => ⟨q.1, cw_wr h q.2⟩)
theorem cw_putO (h : JC σ S c) (hi : i < 20) (hb : b < 10) : wp (fX2_putOrder n (lo 5 i) (Int32.ofNat b) x y σ) (Cw σ (uA S (put (sA S) 184 i b x y)) c) := by
  obtain ⟨e, r⟩ := c_putOrder (n := n) (x := x) (y := y) h.rep hi hb
  have hlo : lo 5 i = 5 + (12 + 5 * i) := rfl
  exact ⟨_, e, cw_wr h ⟨(Fr.st ⟨by omega, by omega⟩).trans (Fr.st ⟨by omega, by omega⟩), r⟩⟩
theorem cw_putB (h : JC σ S c) (hi : i < 20) (hb : b < 10) : wp (fX2_putBid n (lo 5 i) (Int32.ofNat b) x y σ) (Cw σ (uA S (put (sA S) 584 i b x y)) c) := by
  obtain ⟨e, r⟩ := c_putBid (n := n) (x := x) (y := y) h.rep hi hb
  have hlo : lo 5 i = 5 + (12 + 5 * i) := rfl
  exact ⟨_, e, cw_wr h ⟨(Fr.st ⟨by omega, by omega⟩).trans (Fr.st ⟨by omega, by omega⟩), r⟩⟩
theorem cw_note {κ l β : Int32} (h : JC σ S c) (hc : Cn (sA S)) : wp (fX1_note n (5 + 7) κ l β x σ) (Cw σ (uA S (rNote (sA S) κ l β x)) c) := wp_mono (c_note h.rep hc) (fun _ q => cw_wr h q)
theorem cw_rmO (h : JC σ S c) (hn : 1000 < n) (hi : i < 20) : wp (fX2_removeOrders n (lo 5 i) σ) (Cw σ (uA S (rmK (sA S) 184 i 10)) c) := wp_mono (c_removeOrders h.rep hn hi) (fun _ q => cw_wr h q)
theorem cw_rmB (h : JC σ S c) (hn : 1000 < n) (hi : i < 20) : wp (fX2_removeBids n (lo 5 i) σ) (Cw σ (uA S (rmK (sA S) 584 i 10)) c) := wp_mono (c_removeBids h.rep hn hi) (fun _ q => cw_wr h q)
theorem cw_mk {sl q r : Int32} (h : JC σ S c) (hc : Cn (sA S)) (hn : 1000 < n) (hm : mk (sA S) < 20) : wp (fX3_makeLot n 5 sl q r σ) (fun p => p.1 = Int32.ofNat (mk (sA S)) ∧ Cw σ (uA S (rMk (sA S) sl q r)) c p.2) := wp_mono (c_makeLot h.rep hc hn hm) (fun _ q => ⟨q.1, cw_wr h q.2⟩)
theorem cw_fld {j k : Nat} (h : JC σ S c) (hi : i < 20) (hj : j < 1992) (e : slo j = (12 + 5 * i, k)) (h23 : j ≠ 23) (h991 : j ≠ 991) : Cw σ (uA S (up (sA S) j x)) c (stI σ (lo 5 i) k x) := by
  have hlo : lo 5 i = 5 + (12 + 5 * i) := rfl
  exact cw_wr h ⟨Fr.st ⟨by omega, by omega⟩, h.rep.at hj e h23 h991⟩
theorem cw_at {j o k : Nat} (h : JC σ S c) (ho : o < 112) (hj : j < 1992) (e : slo j = (o, k)) (h23 : j ≠ 23) (h991 : j ≠ 991) : Cw σ (uA S (up (sA S) j x)) c (stI σ (5 + o) k x) :=
  cw_wr h ⟨Fr.st ⟨by omega, by omega⟩, h.rep.at hj e h23 h991⟩
theorem jw_ww {a : Nat → Int32} {τ' : zW} (h : JR τ S) (hW : Ww τ 126 a τ') : Sm τ (uA S a) τ' := ⟨h.wr hW, hW.fr, by rw [hW.1.2 125 (by decide)]⟩
theorem jw_keep (h : JR τ S) (hn : 30000 < n) : wp (fX8_keep n 125 τ) (Sm τ (keepS S)) := wp_mono (r_keep h hn) (fun _ q => ⟨q.1, q.2.1, q.2.2 0 (by decide)⟩)
theorem jw_num (h : JR τ S) : wp (fX8_nextNumber n 125 τ) (fun p => p.1 = sA S 984 + 1 ∧ Sm τ (uA S (rNum (sA S))) p.2) := wp_mono (r_nextNumber h.1.1) (fun _ q => by
  rw [h.a] at q
  exact ⟨q.1, jw_ww h q.2⟩)
theorem jw_putO (h : JR τ S) (hi : i < 20) (hb : b < 10) : wp (fX8_putOrder n 125 (Int32.ofNat i) (Int32.ofNat b) x y τ) (Sm τ (uA S (put (sA S) 184 i b x y))) := wp_of (r_putOrder h.1.1 hi hb) (by
  have := (Ww.refl (σ := τ) (w := 126)).st (j := 184 + 10 * i + b) (v := x)
  have := this.st (j := 384 + 10 * i + b) (v := y)
  rw [h.a] at this
  exact jw_ww h this)
theorem jw_putB (h : JR τ S) (hi : i < 20) (hb : b < 10) : wp (fX8_putBid n 125 (Int32.ofNat i) (Int32.ofNat b) x y τ) (Sm τ (uA S (put (sA S) 584 i b x y))) := wp_of (r_putBid h.1.1 hi hb) (by
  have := (Ww.refl (σ := τ) (w := 126)).st (j := 584 + 10 * i + b) (v := x)
  have := this.st (j := 784 + 10 * i + b) (v := y)
  rw [h.a] at this
  exact jw_ww h this)
theorem jw_note {κ l β : Int32} (h : JR τ S) (hc : Cn (sA S)) : wp (fX8_note n 125 κ l β x τ) (Sm τ (uA S (rNote (sA S) κ l β x))) := wp_mono (r_note h.1.1 (by rw [h.a]; exact hc)) (fun _ q => by
  rw [h.a] at q
  exact jw_ww h q)
theorem jw_rmO (h : JR τ S) (hn : 1000 < n) (hi : i < 20) : wp (fX8_removeOrders n 125 (Int32.ofNat i) τ) (fun p => p.1 = oc (sA S) i ∧ Sm τ (uA S (rmK (sA S) 184 i 10)) p.2) := wp_mono (r_removeOrders h.1.1 hn hi) (fun _ q => by
  rw [h.a] at q
  exact ⟨q.1, jw_ww h q.2⟩)
theorem jw_mk {sl q r : Int32} (h : JR τ S) (hc : Cn (sA S)) (hn : 1000 < n) (hm : mk (sA S) < 20) : wp (fX8_makeLot n 125 sl q r τ) (fun p => p.1 = Int32.ofNat (mk (sA S)) ∧ Sm τ (uA S (rMk (sA S) sl q r)) p.2) := wp_mono (r_makeLot h.1.1 (by rw [h.a]; exact hc) hn (by rw [h.a]; exact hm)) (fun _ q => by
  rw [h.a] at q
  exact ⟨q.1, jw_ww h q.2⟩)
theorem jw_set {p : Nat} (h : JR τ S) (hi : i < 20) (hp : p < 8) : wp (fX8_set n 125 (Int32.ofNat i) (Int32.ofNat p) x τ) (Sm τ (uA S (up (sA S) (24 + 8 * i + p) x))) := wp_mono (r_set h.1.1 hi hp) (fun _ q => by
  rw [h.a] at q
  exact jw_ww h q)
theorem jw_st {j : Nat} {z v : Int32} {α : Type} {k : zW → Option α} {Q : α → Prop} (h : JR τ S) (hz : z = Int32.ofNat j) (hj : j < 1992) (hk : Sm τ (uA S (up (sA S) j v)) (stI τ 126 j v) → wp (k (stI τ 126 j v)) Q) : wp (zsI τ 126 z v k) Q := by
  refine wpE (zsW_e h.1.1 hz hj) (hk ?_)
  have := (Ww.refl (σ := τ) (w := 126)).st (j := j) (v := v)
  rw [h.a] at this
  exact jw_ww h this
theorem has_y (h : JC σ S c) {p : Int32} (hp : 0 ≤ p ∧ p < sA S 23) : fX3_has n 5 p σ = some 1 := (c_has h.rep).trans (congrArg some (if_pos hp))
theorem has_n (h : JC σ S c) {p : Int32} (hp : ¬ (0 ≤ p ∧ p < sA S 23)) : fX3_has n 5 p σ = some 0 := (c_has h.rep).trans (congrArg some (if_neg hp))
theorem isb_y {p : Int32} (hp : 0 ≤ p ∧ p < 10) : fX7_isBidder n p σ = some 1 := c_isBidder.trans (congrArg some (if_pos hp))
theorem isb_n {p : Int32} (hp : ¬ (0 ≤ p ∧ p < 10)) : fX7_isBidder n p σ = some 0 := c_isBidder.trans (congrArg some (if_neg hp))
/-- the class keeps a reason, the reference too -/
theorem JC.uR (h : JC σ S c) {r : Int32} : Cw σ (uR S r) c (stI σ 4 5 r) := by
  have hn : ∀ o, o ≠ 4 → zI (stI σ 4 5 r) o = zI σ o := fun o ho => zI_st_ne ho
  have hf : Fr (fun o => o = 4) σ (stI σ 4 5 r) := Fr.st (P := fun o => o = 4) rfl
  obtain ⟨⟨a1, a2, a3, a4, a5, a6, a7, a8⟩, a9⟩ := h
  refine ⟨⟨⟨a1.fr hf (by decide) (by decide), a2.fr hf (fun o h1 h2 q => by have : o = 4 := q; omega), a3.fr hf, ?_, fun hb => ?_, ⟨by rw [zI_st, if_pos ⟨rfl, rfl⟩]; rfl, by rw [zI_st, if_neg (by omega)]; exact a6.2⟩, ?_, a8⟩, a9⟩, hf.fc (fun o q => Or.inl (by have : o = 4 := q; omega))⟩
  · obtain ⟨b1, b2, nx, b3, b4, b5⟩ := a4
    refine ⟨by rw [hn 120 (by decide)]; exact b1, b2, nx, b3, by rw [hn 120 (by decide)]; exact b4, fun k hk => ?_⟩
    obtain ⟨g1, g2⟩ := b5 k hk
    exact ⟨g1, g2.fr hf (fun o h1 h2 q => by have : o = 4 := q; have := (a3.1 _ (by omega) g1).1; omega)⟩
  · obtain ⟨g1, g2⟩ := a5 hb
    exact ⟨g1, g2.fr hf (fun o h1 h2 q => by have : o = 4 := q; have := (a3.1 _ (by omega) g1).1; omega)⟩
  · rw [hn 122 (by decide), hn 123 (by decide)]; exact a7
theorem JR.uR (h : JR τ S) {r : Int32} : Sm τ (uR S r) (stI τ 125 6 r) := by
  have e : ∀ j, j ≠ 6 → zI (stI τ 125 6 r) 125 j = zI τ 125 j := fun j hj => by rw [zI_st, if_neg (fun q => hj q.2)]
  have e2 : ∀ o, o ≠ 125 → zI (stI τ 125 6 r) o = zI τ o := fun o ho => zI_st_ne ho
  obtain ⟨a1, a2, a3, a4, a5, a6⟩ := h
  refine ⟨⟨a1, ?_, ?_, ?_, ⟨by rw [zI_st, if_pos ⟨rfl, rfl⟩]; rfl, ?_⟩, ?_⟩, PR.i, e 0 (by decide)⟩
  · rw [e2 126 (by decide)]; exact a2
  · rw [e 3 (by omega), e2 127 (by decide)]; exact a3
  · rw [e 5 (by omega), e2 128 (by decide)]; exact a4
  · rw [e 15 (by omega)]; exact a5.2
  · rw [e 12 (by omega), e 17 (by omega), e2 129 (by decide), e2 130 (by decide)]; exact a6
end
/-- a command of both sides: F the class's, G the reference's -/
def CMD (F G : zW → Option (Int32 × zW)) (S : St) (B c : Nat) (lk : Int32 → Int32 → Prop) : Prop :=
  ∃ ans k S', (SI S' (B + 1) ∧ S'.2.2.2.2 = S.2.2.2.2) ∧ lk ans k ∧ (∀ σ, JC σ S c → wp (F σ) (fun r => r.1 = ans ∧ Cw σ S' c r.2)) ∧ ∀ τ, JR τ S → wp (G τ) (fun r => zI r.2 125 0 = k ∧ (0 ≤ ans → r.1 = ans) ∧ JR r.2 S' ∧ Fr PR τ r.2)
def lkO (ans k : Int32) : Prop := (0 ≤ ans ∧ k = 0) ∨ (ans = -1 ∧ k = 1) ∨ (ans = -2 ∧ k = 2) ∨ (ans = -5 ∧ k = 3)
def lkC (ans k : Int32) : Prop := (0 ≤ ans ∧ k = 0) ∨ (ans = -1 ∧ k = 1) ∨ (ans = -4 ∧ k = 2) ∨ (ans = -3 ∧ k = 3)
def lkS (ans k : Int32) : Prop := (0 ≤ ans ∧ k = 0) ∨ (ans = -1 ∧ k = 1) ∨ (ans = -3 ∧ k = 2)
theorem Tr.fin {τ τ' : zW} {S : St} {k : Int32} (h : Tr τ S k τ') : zI τ' 125 0 = k ∧ JR τ' S ∧ Fr PR τ τ' := ⟨h.1, h.2.2, h.2.1⟩
theorem Sm.thr {τ τ1 τ' : zW} {S S' : St} {k : Int32} (h : Tr τ S k τ1) (h2 : Sm τ1 S' τ') : Tr τ S' k τ' := ⟨h2.2.2.trans h.1, h.2.1.trans h2.2.1, h2.1⟩
