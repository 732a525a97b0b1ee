/-! THE PARTS OF A LOT -/
def sF (M : Nat → Nat) (Q q b : Nat) : Nat := M b * q / Q
def prow (M : Nat → Nat) (Q R : Nat) (sl : Int32) (q : Nat) (a : Nat → Int32) : Nat → Int32 := pg (sF M Q q) (mk a) 10 0 (rMk a sl (Int32.ofNat q) (Int32.ofNat (R * q / Q)))
def ps (M : Nat → Nat) (Q R : Nat) (sl : Int32) (p : Nat) : Nat → Nat → (Nat → Int32) → Nat → Int32
  | 0, _, a => a
  | m + 1, k, a => ps M Q R sl p m (k + 1) (prow M Q R sl (qpt Q p k) a)
def pcn (M : Nat → Nat) (Q p k : Nat) : Nat := nac (pos1 (sF M Q (qpt Q p k))) 0 10
theorem qpt_b {Q p k : Nat} (hp : 2 ≤ p) (hQ : p ≤ Q) : 1 ≤ qpt Q p k ∧ qpt Q p k ≤ Q := by
  have h1 : 1 ≤ Q / p := (Nat.one_le_div_iff (by omega)).mpr hQ
  have h2 : Q / p ≤ Q / 2 := Nat.div_le_div_left hp (by decide)
  unfold qpt
  refine ⟨by omega, ?_⟩
  split <;> omega
theorem shr_le {x q Q : Nat} (hq : q ≤ Q) : x * q / Q ≤ x := Nat.div_le_of_le_mul (by rw [Nat.mul_comm]; exact Nat.mul_le_mul_right x hq)
def Spl (a : Nat → Int32) (i : Nat) (M : Nat → Nat) (Q R : Nat) (sl : Int32) : Prop := Src a i M ∧ a (24 + 8 * i + 1) = Int32.ofNat Q ∧ a (24 + 8 * i + 0) = sl ∧ (a (24 + 8 * i + 2) = Int32.ofNat R ∧ R ≤ 90000) ∧ i < mk a ∧ Cn a
theorem Spl.cong {a a' : Nat → Int32} {i : Nat} {M : Nat → Nat} {Q R : Nat} {sl : Int32} (h : Spl a i M Q R sl) (e1 : ∀ p, p < 8 → a' (24 + 8 * i + p) = a (24 + 8 * i + p)) (e2 : ∀ b, b < 10 → a' (184 + 10 * i + b) = a (184 + 10 * i + b)) (e3 : mk a ≤ mk a') (e4 : Cn a') : Spl a' i M Q R sl :=
  ⟨fun b hb => by rw [e2 b hb]; exact h.1 b hb, (e1 1 (by decide)).trans h.2.1, (e1 0 (by decide)).trans h.2.2.1, ⟨(e1 2 (by decide)).trans h.2.2.2.1.1, h.2.2.2.1.2⟩, by have := h.2.2.2.2.1; omega, e4⟩
theorem Spl.pgs {a : Nat → Int32} {i t b : Nat} {f M : Nat → Nat} {Q R : Nat} {sl : Int32} (h : Spl a i M Q R sl) (hb : b < 10) (ht : t < 20) (hit : i ≠ t) : Spl (pgs f t b a) i M Q R sl := by
  have hi : i < 20 := by have := h.2.2.2.2.1; have := h.2.2.2.2.2.2.1; omega
  refine h.cong (fun p hp => pgs_old hb (by omega) (by omega)) (fun c hc => pgs_old hb (by omega) (by omega)) (by rw [mk_pgs hb]; omega) (h.2.2.2.2.2.cong (pgs_old hb (by omega) (by omega)) (pgs_old hb (by omega) (by omega)))
theorem Spl.pg {a : Nat → Int32} {i t : Nat} {f M : Nat → Nat} {Q R : Nat} {sl : Int32} (h : Spl a i M Q R sl) (ht : t < 20) (hit : i ≠ t) : Spl (pg f t 10 0 a) i M Q R sl := by
  have hi : i < 20 := by have := h.2.2.2.2.1; have := h.2.2.2.2.2.2.1; omega
  refine h.cong (fun p hp => pg_old (by omega) (by omega) 10 0 a (by omega)) (fun c hc => pg_old (by omega) (by omega) 10 0 a (by omega)) (by rw [mk_pg (by omega)]; omega) (h.2.2.2.2.2.cong (pg_old (by omega) (by omega) 10 0 a (by omega)) (pg_old (by omega) (by omega) 10 0 a (by omega)))
theorem Spl.mk' {a : Nat → Int32} {i : Nat} {M : Nat → Nat} {Q R : Nat} {sl s q r : Int32} (h : Spl a i M Q R sl) (hm : mk a < 20) : Spl (rMk a s q r) i M Q R sl := by
  have hi := h.2.2.2.2.1
  have k := rMk_cn (sl := s) (q := q) (r := r) h.2.2.2.2.2 hm
  refine h.cong (fun p hp => rMk_old hm (by omega) (by omega)) (fun c hc => rMk_old hm (by omega) (by omega)) (by rw [k.2]; omega) k.1
theorem Spl.prow {a : Nat → Int32} {i q : Nat} {M : Nat → Nat} {Q R : Nat} {sl s : Int32} (h : Spl a i M Q R sl) (hm : mk a < 20) : Spl (prow M Q R s q a) i M Q R sl ∧ mk (prow M Q R s q a) = mk a + 1 :=
  ⟨(h.mk' hm).pg hm (by have := h.2.2.2.2.1; omega), (mk_pg (by omega)).trans (rMk_cn h.2.2.2.2.2 hm).2⟩
theorem ps_spl {i : Nat} {M : Nat → Nat} {Q R p : Nat} {sl s : Int32} : ∀ (m k : Nat) (a : Nat → Int32), Spl a i M Q R sl → mk a + m ≤ 20 → Spl (ps M Q R s p m k a) i M Q R sl ∧ mk (ps M Q R s p m k a) = mk a + m
  | 0, _, a, h, _ => ⟨h, rfl⟩
  | m + 1, k, a, h, hm => by
    have g := h.prow (q := qpt Q p k) (s := s) (by omega)
    have r := ps_spl (s := s) (p := p) m (k + 1) _ g.1 (by rw [g.2]; omega)
    rw [g.2] at r
    exact ⟨r.1, r.2.trans (by omega)⟩
theorem ps_rm {i : Nat} {M : Nat → Nat} {Q R p : Nat} {s : Int32} : ∀ (m k : Nat) (a : Nat → Int32), Cn a → i < mk a → mk a + m ≤ 20 → rmK (ps M Q R s p m k a) 184 i 10 = ps M Q R s p m k (rmK a 184 i 10)
  | 0, _, a, _, _, _ => rfl
  | m + 1, k, a, hc, hi, hm => by
    have e1 : rmK (prow M Q R s (qpt Q p k) a) 184 i 10 = prow M Q R s (qpt Q p k) (rmK a 184 i 10) := by
      unfold prow
      rw [pg_rm (by omega) (by omega) (by omega) 10 0 _ (by omega), rMk_rm hi (by omega), mk_rm (by omega)]
    have kc := rMk_cn (sl := s) (q := Int32.ofNat (qpt Q p k)) (r := Int32.ofNat (R * qpt Q p k / Q)) hc (by omega)
    have k2 : mk (prow M Q R s (qpt Q p k) a) = mk a + 1 := (mk_pg (by omega)).trans kc.2
    show rmK (ps M Q R s p m (k + 1) (prow M Q R s (qpt Q p k) a)) 184 i 10 = ps M Q R s p m (k + 1) (prow M Q R s (qpt Q p k) (rmK a 184 i 10))
    rw [← e1]
    exact ps_rm m (k + 1) _ (kc.1.cong (pg_old (by omega) (by omega) 10 0 _ (by omega)) (pg_old (by omega) (by omega) 10 0 _ (by omega))) (by rw [k2]; omega) (by rw [k2]; omega)
theorem ps_inv {M : Nat → Nat} {Q R p q0 : Nat} (hM : ∀ b, b < 10 → M b ≤ 90000) (hR : R ≤ 90000) (hp : 2 ≤ p) (hQ : p ≤ Q) (hQ2 : Q ≤ 20) (hs : q0 ≤ 5) : ∀ (m k : Nat) (a : Nat → Int32) (B : Nat), Inv a B → mk a + m ≤ 20 → B + 10 * m < 100000000 → tot a + nac (pcn M Q p) k m ≤ 40 → Inv (ps M Q R (Int32.ofNat q0) p m k a) (B + 10 * m)
  | 0, _, a, B, h, _, _, _ => h
  | m + 1, k, a, B, h, hm, hB, hT => by
    have e : nac (pcn M Q p) k (m + 1) = pcn M Q p k + nac (pcn M Q p) (k + 1) m := rfl
    obtain ⟨b1, b2⟩ := qpt_b (k := k) hp hQ
    have I1 := h.make (show mk a < 20 by omega) hs b1 (show qpt Q p k ≤ 20 by omega) (show R * qpt Q p k / Q ≤ 90000 by have := shr_le (x := R) b2; omega)
    have kc := (rMk_cn (sl := Int32.ofNat q0) (q := Int32.ofNat (qpt Q p k)) (r := Int32.ofNat (R * qpt Q p k / Q)) h.1 (by omega)).2
    have ec : nac (pos1 (sF M Q (qpt Q p k))) 0 10 = pcn M Q p k := rfl
    have I2 := pg_inv (f := sF M Q (qpt Q p k)) (t := mk a) (fun b hb => by
      have := shr_le (x := M b) b2
      have := hM b hb
      show M b * qpt Q p k / Q ≤ 90000
      omega) 10 0 _ B I1.1 (by rw [kc]; omega) (by omega) (by omega) (by rw [I1.2, ec]; omega)
    have k2 : mk (prow M Q R (Int32.ofNat q0) (qpt Q p k) a) = mk a + 1 := (mk_pg (by omega)).trans kc
    have g := ps_inv hM hR hp hQ hQ2 hs m (k + 1) (prow M Q R (Int32.ofNat q0) (qpt Q p k) a) (B + 10) I2.1 (by rw [k2]; omega) (by omega) (by
      have := I2.2
      rw [I1.2, ec] at this
      show tot (pg _ _ 10 0 _) + _ ≤ 40
      omega)
    rw [show B + 10 + 10 * m = B + 10 * (m + 1) by omega] at g
    exact g
section
variable {σ τ : zW} {S S' : St} {c n B i b t : Nat} {M : Nat → Nat} {Q R p : Nat} {sl : Int32}
theorem sh_c (hJ : JC σ S c) (h : Spl (sA S) i M Q R sl) (h1 : 1 ≤ Q) (h2 : Q ≤ 20) {x q : Nat} (hx : x ≤ 90000) (hq : q ≤ 20) : fX2_share n (lo 5 i) (Int32.ofNat x) (Int32.ofNat q) σ = some (Int32.ofNat (x * q / Q)) := by
  have eQ : qQ (sA S) i = Q := by unfold qQ; rw [h.2.1]; exact io_nat (by omega)
  have := c_share (n := n) hJ.rep h.2.2.2.2.2.2.1 h.2.2.2.2.1 (by rw [eQ]; exact h.2.1) (by rw [eQ]; exact h1) (by rw [eQ]; exact h2) hx hq
  rw [eQ] at this
  exact this
theorem qp_c (hJ : JC σ S c) (h : Spl (sA S) i M Q R sl) (h2 : Q ≤ 20) {x : Nat} (hx : x ≤ 90000) (hp0 : 1 ≤ p) (hp : p ≤ 20) : fX2_quantityOfPart n (lo 5 i) (Int32.ofNat x) (Int32.ofNat p) σ = some (Int32.ofNat (qpt Q p x)) := by
  have eQ : qQ (sA S) i = Q := by unfold qQ; rw [h.2.1]; exact io_nat (by omega)
  have := c_quantityOfPart (n := n) hJ.rep h.2.2.2.2.2.2.1 h.2.2.2.2.1 (by rw [eQ]; exact h.2.1) (by rw [eQ]; exact h2) hx hp0 hp
  rw [eQ] at this
  exact this
theorem c_oop20 (hJ : JC σ S c) (h : Spl (sA S) i M Q R sl) (h1 : 1 ≤ Q) (h2 : Q ≤ 20) {q part : Nat} (hq : q ≤ 20) {r4 : Nat → Int32 → Int32 → Int32 → Option Int32} : ∀ (m k b acc : Nat), b + m = 10 → m < k → sX2_ordersOfParts_20 n σ r4 k (lo 5 i) (Int32.ofNat p) (Int32.ofNat acc) (Int32.ofNat part) (Int32.ofNat q) (Int32.ofNat b) = r4 (lo 5 i) (Int32.ofNat p) (Int32.ofNat (acc + nac (pos1 (sF M Q q)) b m)) (Int32.ofNat (part + 1))
  | m, 0, _, _, _, hk => absurd hk (by omega)
  | 0, k + 1, b, acc, hb, hk => by
    rw [sX2_ordersOfParts_20]
    refine (if_neg (fun z => by have := (ctb hb) ▸ z; omega)).trans ?_
    rw [io_succ]
    rfl
  | m + 1, k + 1, b, acc, hb, hk => by
    have hR := hJ.rep
    have hb10 : b < 10 := by omega
    have hi20 : i < 20 := by have := h.2.2.2.2.1; have := h.2.2.2.2.2.2.1; omega
    obtain ⟨m1, m2⟩ := h.1 b hb10
    have bd : M b * q ≤ 90000 * 20 := Nat.mul_le_mul m2 hq
    have bd2 : M b * q / Q ≤ M b * q := Nat.div_le_self _ _
    rw [sX2_ordersOfParts_20]
    refine (if_pos (Eq.mpr (ctb hb) (by omega))).trans ((zgR_e (hR.1.kL hi20) (hR.1.rL0 hi20)).trans ((zaN_e (hR.1.kL0 hi20) (hR.1.lL0 hi20) hb10 (by decide) ((hR.p0 hi20 hb10 h.2.2.2.2.1).trans m1)).trans ((zck_e (hR.1.kL hi20)).trans ((zb_e (sh_c hJ h h1 h2 m2 hq)).trans ?_))))
    unfold sX2_ordersOfParts_46
    rw [io_succ (i := b)]
    have e : nac (pos1 (sF M Q q)) b (m + 1) = pos1 (sF M Q q) b + nac (pos1 (sF M Q q)) (b + 1) m := rfl
    by_cases g : 0 < M b * q / Q
    · have e1 : pos1 (sF M Q q) b = 1 := if_pos g
      refine (if_pos (Eq.mpr (io_pos (by omega)) g)).trans ?_
      rw [io_succ (i := acc), c_oop20 hJ h h1 h2 hq m k (b + 1) (acc + 1) (by omega) (by omega), e, e1]
      congr 2
      omega
    · have e1 : pos1 (sF M Q q) b = 0 := if_neg g
      refine (if_neg (fun z => g (Eq.mp (io_pos (by omega)) z))).trans ?_
      rw [c_oop20 hJ h h1 h2 hq m k (b + 1) acc (by omega) (by omega), e, e1]
      congr 2
      omega
theorem c_oop4 (hJ : JC σ S c) (h : Spl (sA S) i M Q R sl) (hp : 2 ≤ p) (hp4 : p ≤ 4) (hQ : p ≤ Q) (h2 : Q ≤ 20) (hn : 1000 < n) : ∀ (m k part acc : Nat), part + m = p → m < k → sX2_ordersOfParts_4 n σ k (lo 5 i) (Int32.ofNat p) (Int32.ofNat acc) (Int32.ofNat part) = some (Int32.ofNat (acc + nac (pcn M Q p) part m))
  | m, 0, _, _, _, hk => absurd hk (by omega)
  | 0, k + 1, part, acc, hb, hk => by
    have hl : (Int32.ofNat part < Int32.ofNat p) = (part < p) := io_lt (by omega) (by omega)
    rw [sX2_ordersOfParts_4]
    exact (if_neg (fun z => by have := hl ▸ z; omega)).trans rfl
  | m + 1, k + 1, part, acc, hb, hk => by
    have hl : (Int32.ofNat part < Int32.ofNat p) = (part < p) := io_lt (by omega) (by omega)
    have hi20 : i < 20 := by have := h.2.2.2.2.1; have := h.2.2.2.2.2.2.1; omega
    obtain ⟨b1, b2⟩ := qpt_b (k := part) hp hQ
    rw [sX2_ordersOfParts_4]
    refine (if_pos (hl.symm ▸ (show part < p by omega))).trans ((zck_e (hJ.rep.1.kL hi20)).trans ((zb_e (qp_c hJ h h2 (by omega) (by omega) (by omega))).trans ?_))
    refine (c_oop20 hJ h (by omega) h2 (show qpt Q p part ≤ 20 by omega) 10 n 0 acc rfl (by omega)).trans ?_
    refine (c_oop4 hJ h hp hp4 hQ h2 hn m k (part + 1) _ (by omega) (by omega)).trans ?_
    have e : nac (pcn M Q p) part (m + 1) = pcn M Q p part + nac (pcn M Q p) (part + 1) m := rfl
    have ec : nac (pos1 (sF M Q (qpt Q p part))) 0 10 = pcn M Q p part := rfl
    rw [e, ec]
    congr 2
    omega
theorem j_so22 (hτ : JR τ S) (h : Spl (sA S) i M Q R sl) (hp : 2 ≤ p) (hp4 : p ≤ 4) (hQ : p ≤ Q) (h2 : Q ≤ 20) {part : Nat} (hpt : part ≤ 4) {r13 : Nat → Int32 → Int32 → Int32 → Int32 → Int32 → Option Int32} : ∀ (m k b acc : Nat), b + m = 10 → m < k → sX8_splitOrders_22 n τ r13 k 125 (Int32.ofNat i) (Int32.ofNat p) (Int32.ofNat acc) (Int32.ofNat Q) (Int32.ofNat part) (Int32.ofNat b) = r13 125 (Int32.ofNat i) (Int32.ofNat p) (Int32.ofNat (acc + nac (pos1 (sF M Q (qpt Q p part))) b m)) (Int32.ofNat Q) (Int32.ofNat (part + 1))
  | m, 0, _, _, _, hk => absurd hk (by omega)
  | 0, k + 1, b, acc, hb, hk => by
    rw [sX8_splitOrders_22]
    refine (if_neg (fun z => by have := (ctb hb) ▸ z; omega)).trans ?_
    rw [io_succ]
    rfl
  | m + 1, k + 1, b, acc, hb, hk => by
    have hb10 : b < 10 := by omega
    have hi20 : i < 20 := by have := h.2.2.2.2.1; have := h.2.2.2.2.2.2.1; omega
    obtain ⟨m1, m2⟩ := h.1 b hb10
    obtain ⟨b1, b2⟩ := qpt_b (k := part) hp hQ
    have bd : M b * qpt Q p part ≤ 90000 * 20 := Nat.mul_le_mul m2 (by omega)
    have bd2 : M b * qpt Q p part / Q ≤ M b * qpt Q p part := Nat.div_le_self _ _
    rw [sX8_splitOrders_22]
    refine (if_pos (Eq.mpr (ctb hb) (by omega))).trans ((zck_e hτ.k).trans ((zb_e ((j_orderOf hτ hi20 hb10).trans (congrArg some m1))).trans ((zb_e (r_quantityOf h2 (by omega) (by omega) (by omega))).trans ((zb_e (r_share m2 (by omega) (by omega) h2)).trans ?_))))
    unfold sX8_splitOrders_58
    rw [io_succ (i := b)]
    have e : nac (pos1 (sF M Q (qpt Q p part))) b (m + 1) = pos1 (sF M Q (qpt Q p part)) b + nac (pos1 (sF M Q (qpt Q p part))) (b + 1) m := rfl
    by_cases g : 0 < M b * qpt Q p part / Q
    · have e1 : pos1 (sF M Q (qpt Q p part)) b = 1 := if_pos g
      refine (if_pos (Eq.mpr (io_pos (by omega)) g)).trans ?_
      rw [io_succ (i := acc), j_so22 hτ h hp hp4 hQ h2 hpt m k (b + 1) (acc + 1) (by omega) (by omega), e, e1]
      congr 2
      omega
    · have e1 : pos1 (sF M Q (qpt Q p part)) b = 0 := if_neg g
      refine (if_neg (fun z => g (Eq.mp (io_pos (by omega)) z))).trans ?_
      rw [Int32.add_zero, j_so22 hτ h hp hp4 hQ h2 hpt m k (b + 1) acc (by omega) (by omega), e, e1]
      congr 2
      omega
theorem j_so13 (hτ : JR τ S) (h : Spl (sA S) i M Q R sl) (hp : 2 ≤ p) (hp4 : p ≤ 4) (hQ : p ≤ Q) (h2 : Q ≤ 20) (hn : 1000 < n) : ∀ (m k part acc : Nat), part + m = p → m < k → sX8_splitOrders_13 n τ k 125 (Int32.ofNat i) (Int32.ofNat p) (Int32.ofNat acc) (Int32.ofNat Q) (Int32.ofNat part) = some (Int32.ofNat (acc + nac (pcn M Q p) part m))
  | m, 0, _, _, _, hk => absurd hk (by omega)
  | 0, k + 1, part, acc, hb, hk => by
    have hl : (Int32.ofNat part < Int32.ofNat p) = (part < p) := io_lt (by omega) (by omega)
    rw [sX8_splitOrders_13]
    exact (if_neg (fun z => by have := hl ▸ z; omega)).trans rfl
  | m + 1, k + 1, part, acc, hb, hk => by
    have hl : (Int32.ofNat part < Int32.ofNat p) = (part < p) := io_lt (by omega) (by omega)
    rw [sX8_splitOrders_13]
    refine (if_pos (hl.symm ▸ (show part < p by omega))).trans ?_
    refine (j_so22 hτ h hp hp4 hQ h2 (by omega) 10 n 0 acc rfl (by omega)).trans ?_
    refine (j_so13 hτ h hp hp4 hQ h2 hn m k (part + 1) _ (by omega) (by omega)).trans ?_
    have e : nac (pcn M Q p) part (m + 1) = pcn M Q p part + nac (pcn M Q p) (part + 1) m := rfl
    have ec : nac (pos1 (sF M Q (qpt Q p part))) 0 10 = pcn M Q p part := rfl
    rw [e, ec]
    congr 2
    omega
end
