/-! A LOT'S STANDING IS SETTLED -/
theorem zgR_e {α : Type} {σ : zW} {κ r k x : Nat} {c : Nat → Option α} (h : zK σ r = κ) (hx : zR σ r k = x) : zgR σ κ r k c = c x := by
  unfold zgR
  rw [if_pos h, hx]
theorem zgI_e {α : Type} {σ : zW} {κ r k : Nat} {x : Int32} {c : Int32 → Option α} (h : zK σ r = κ) (hx : zI σ r k = x) : zgI σ κ r k c = c x := by
  unfold zgI
  rw [if_pos h, hx]
theorem zck_e {α : Type} {σ : zW} {κ r : Nat} {X : Option α} (h : zK σ r = κ) : zck σ κ r X = X := if_pos h
theorem zb_e {α β : Type} {f : Option β} {v : β} {c : β → Option α} (h : f = some v) : zb f c = c v := by rw [h]; rfl
theorem zb2_e {α β : Type} {f : Option (β × zW)} {v : β} {s : zW} {c : β → zW → Option α} (h : f = some (v, s)) : zb2 f c = c v s := by rw [h]; rfl
theorem zpI_e {α : Type} {σ : zW} {κ r k : Nat} {v v' : Int32} {c : zW → Option α} (h : zK σ r = κ) (hv : v = v') : zpI σ κ r k v c = c (stI σ r k v') := by
  unfold zpI
  rw [if_pos h, hv]
theorem zaN_e {α : Type} {σ : zW} {r j L : Nat} {x : Int32} {c : Int32 → Option α} (h : zK σ r = 20) (hL : zL σ r = L) (hj : j < L) (h2 : L ≤ 2147483648) (hx : zI σ r j = x) : zaI σ r (Int32.ofNat j) c = c x := by
  unfold zaI
  rw [if_pos ⟨Or.inl h, by rw [hL]; exact io_zix hj (by omega)⟩, io_nat (by omega), hx]
theorem zaRN_e {α : Type} {σ : zW} {κ r j L x : Nat} {c : Nat → Option α} (h : zK σ r = κ) (hL : zL σ r = L) (hj : j < L) (h2 : L ≤ 2147483648) (hx : zR σ r j = x) : zaR σ κ r (Int32.ofNat j) c = c x := by
  unfold zaR
  rw [if_pos ⟨h, by rw [hL]; exact io_zix hj (by omega)⟩, io_nat (by omega), hx]
theorem zsN_e {α : Type} {σ : zW} {r j L : Nat} {v v' : Int32} {c : zW → Option α} (h : zK σ r = 20) (hL : zL σ r = L) (hj : j < L) (h2 : L ≤ 2147483648) (hv : v = v') : zsI σ r (Int32.ofNat j) v c = c (stI σ r j v') := by
  unfold zsI
  rw [if_pos ⟨h, by rw [hL]; exact io_zix hj (by omega)⟩, io_nat (by omega), hv]
def Stv (σ : zW) (v : Nat) (a : Nat → Int32) (i : Nat) : Prop := Arr σ v (lim a i) (tim a i) ∧ zI σ v 2 = Int32.ofNat (hou a i) ∧ zI σ v 3 = sLd a i ∧ zI σ v 4 = Int32.ofNat (sLm a i) ∧ zI σ v 5 = Int32.ofNat (sSc a i)
def Pv (v : Nat) : Nat → Prop := fun o => v ≤ o ∧ o < v + 3
theorem bsl_lmo {a : Nat → Int32} {i : Nat} : lmo (lim a i) (fb (lim a i) (tim a i) 10).1 = bsl a i := by
  unfold bsl bst
  cases (fb (lim a i) (tim a i) 10).1 <;> rfl
section
variable {σ : zW} {s v n i : Nat} {a : Nat → Int32}
theorem c_settle_end (hv : Vw σ v) (hl : Lt a i) (ha : Arr σ v (lim a i) (tim a i)) (hn : 1000 < n) (x : Nat) : ∃ σ', sX4_settle_128 n v v (Int32.ofNat (hou a i)) σ = some σ' ∧ Fr (Pv v) σ σ' ∧ Stv σ' v a i := by
  have hH := hou_le hl
  have hv2 : Vw (stI σ v 2 (Int32.ofNat (hou a i))) v := hv
  have n1 : ∀ b, zI (stI σ v 2 (Int32.ofNat (hou a i))) (v + 1) b = zI σ (v + 1) b := fun b => by rw [zI_st, if_neg (by omega)]
  have n2 : ∀ b, zI (stI σ v 2 (Int32.ofNat (hou a i))) (v + 2) b = zI σ (v + 2) b := fun b => by rw [zI_st, if_neg (by omega)]
  have ha2 : Arr (stI σ v 2 (Int32.ofNat (hou a i))) v (lim a i) (tim a i) := fun b hb => by
    rw [n1, n2]
    exact ha b hb
  have hf := c_findLeader (n := n) hv2 ha2 hn (H := hou a i) (by omega) (by rw [zI_st, if_pos ⟨rfl, rfl⟩])
  refine ⟨stV (stI σ v 2 (Int32.ofNat (hou a i))) v (sLd a i) (Int32.ofNat (sLm a i)) (Int32.ofNat (sSc a i)), ?_, ?_, ?_⟩
  · simp only [sX4_settle_128, zpI, hv.kV, zck, hv2.kV, if_true, hf, zb_some]
    rw [bsl_lmo]
    rfl
  · exact (((Fr.st ⟨Nat.le_refl _, by omega⟩).trans (Fr.st ⟨Nat.le_refl _, by omega⟩)).trans (Fr.st ⟨Nat.le_refl _, by omega⟩)).trans (Fr.st ⟨Nat.le_refl _, by omega⟩)
  · unfold stV
    refine ⟨fun b hb => ?_, ?_, ?_, ?_, ?_⟩
    · have e1 : ∀ x y z : Int32, zI (stI (stI (stI (stI σ v 2 (Int32.ofNat (hou a i))) v 3 x) v 4 y) v 5 z) (v + 1) b = zI σ (v + 1) b := fun x y z => by rw [zI_st, if_neg (by omega), zI_st, if_neg (by omega), zI_st, if_neg (by omega), n1]
      have e2 : ∀ x y z : Int32, zI (stI (stI (stI (stI σ v 2 (Int32.ofNat (hou a i))) v 3 x) v 4 y) v 5 z) (v + 2) b = zI σ (v + 2) b := fun x y z => by rw [zI_st, if_neg (by omega), zI_st, if_neg (by omega), zI_st, if_neg (by omega), n2]
      rw [e1, e2]
      exact ha b hb
    · rw [zI_st, if_neg (by omega), zI_st, if_neg (by omega), zI_st, if_neg (by omega), zI_st, if_pos ⟨rfl, rfl⟩]
    · rw [zI_st, if_neg (by omega), zI_st, if_neg (by omega), zI_st, if_pos ⟨rfl, rfl⟩]
    · rw [zI_st, if_neg (by omega), zI_st, if_pos ⟨rfl, rfl⟩]
    · rw [zI_st, if_pos ⟨rfl, rfl⟩]
theorem c_settle_l (h : Rep σ s a) (hv : Vw σ v) (hd : v + 3 ≤ s ∨ s + 112 ≤ v) (ht : Tb a) (hl : Lt a i) (hm : mk a ≤ 20) (hi : i < mk a) (hn : 1000 < n) : ∀ (d b k : Nat) (σ1 : zW), b + d = 10 → d < k → Fr (Pv v) σ σ1 → (∀ c, c < b → zI σ1 (v + 1) c = Int32.ofNat (lim a i c) ∧ zI σ1 (v + 2) c = Int32.ofNat (tim a i c)) →
    ∃ σ', sX4_settle_2 n k v (lo s i) (s + 1) (Int32.ofNat b) σ1 = some σ' ∧ Fr (Pv v) σ σ' ∧ Stv σ' v a i := by
  have hP : ∀ o, s ≤ o → o < s + 112 → ¬ Pv v o := fun o h1 h2 q => by
    obtain ⟨q1, q2⟩ := q
    omega
  have hvis : i < (a 23).toNatClampNeg := hi
  have hlo : lo s i = s + (12 + 5 * i) := rfl
  intro d
  induction d with
  | zero =>
    intro b k σ1 hb hk hF hA
    obtain ⟨k, rfl⟩ : ∃ k', k = k' + 1 := ⟨k - 1, by omega⟩
    have h1 := h.fr hF hP
    have hv1 := hv.fr hF
    have ha : Arr σ1 v (lim a i) (tim a i) := fun c hc => ⟨(hA c (by omega)).1, (hA c (by omega)).2, lim_le hl hc, tim_lt hl hc⟩
    obtain ⟨r1, r2⟩ := hl.1
    obtain ⟨σ', e1, e2, e3⟩ := c_settle_end hv1 hl ha hn 0
    refine ⟨σ', ?_, hF.trans e2, e3⟩
    rw [← e1, sX4_settle_2, show (10 : Int32) = Int32.ofNat 10 from rfl]
    simp (disch := omega) only [io_lt, show ¬ b < 10 by omega, if_false, zgI, zgR, zaI, zaR, zaC, zck, zb_some, zb2_some, zbx_inl, zbx_inr, zdv, true_or, or_true, true_and, and_true, if_true, ↓reduceIte, h1.1.kS, h1.1.r0, h1.1.r1, h1.1.r2, h1.1.r3, h1.1.r4, h1.1.kT, h1.1.rT0, h1.1.rT1, h1.1.kB, h1.1.lB, h1.1.kC, h1.1.lC, h1.1.kR, h1.1.lR, h1.1.kF, h1.1.lF, h1.1.kO, h1.1.lO, h1.1.kG, h1.1.rG0, h1.1.kG0, h1.1.lG0, h1.1.rG1, h1.1.kG1, h1.1.lG1, h1.1.rG2, h1.1.kG2, h1.1.lG2, h1.1.rG3, h1.1.kG3, h1.1.lG3, h1.1.rL, h1.1.kL, h1.1.rL0, h1.1.kL0, h1.1.lL0, h1.1.rL1, h1.1.kL1, h1.1.lL1, h1.1.rL2, h1.1.kL2, h1.1.lL2, h1.1.rL3, h1.1.kL3, h1.1.lL3, h1.rows, h1.bnd, h1.inc, h1.crd, h1.fee, h1.cnt, h1.num, h1.kept, h1.ev0, h1.ev1, h1.ev2, h1.ev3, h1.l0, h1.l1, h1.l2, h1.l3, h1.l4, h1.l5, h1.l6, h1.l7, h1.p0, h1.p1, h1.p2, h1.p3, r1, io_pos]
    unfold hou
    by_cases hq : 0 < qR a i
    · simp (disch := omega) only [if_pos hq, io_one, c_stepAt h1 ht, zgI, zgR, zaI, zaR, zaC, zck, zb_some, zb2_some, zbx_inl, zbx_inr, zdv, true_or, or_true, true_and, and_true, if_true, ↓reduceIte]
    · rw [if_neg hq, if_neg hq]
      rfl
  | succ d ih =>
    intro b k σ1 hb hk hF hA
    obtain ⟨k, rfl⟩ : ∃ k', k = k' + 1 := ⟨k - 1, by omega⟩
    have h1 := h.fr hF hP
    have hv1 := hv.fr hF
    obtain ⟨⟨m1, m2⟩, ⟨o1, o2⟩, ⟨d1, d2⟩, ⟨n1, n2⟩⟩ := hl.2.1 b (by omega)
    have hst := stp_le (a := a) (x := qM a i b)
    have hF2 : Fr (Pv v) σ (stI σ1 (v + 1) b (Int32.ofNat (lim a i b))) := hF.trans (Fr.st ⟨by omega, by omega⟩)
    have h2 := h.fr hF2 hP
    have hv2 := hv.fr hF2
    have hz : zix (Int32.ofNat b) 10 = True := io_zx (by omega) (by omega)
    have hF3 : Fr (Pv v) σ (stI (stI σ1 (v + 1) b (Int32.ofNat (lim a i b))) (v + 2) b (Int32.ofNat (tim a i b))) := hF2.trans (Fr.st ⟨by omega, by omega⟩)
    obtain ⟨σ', e1, e2, e3⟩ := ih (b + 1) k _ (by omega) (by omega) hF3 (fun c hc => by
      by_cases e : c = b
      · subst e
        refine ⟨?_, ?_⟩
        · rw [zI_st, if_neg (by omega), zI_st, if_pos ⟨rfl, rfl⟩]
        · rw [zI_st, if_pos ⟨rfl, rfl⟩]
      · refine ⟨?_, ?_⟩
        · rw [zI_st, if_neg (by omega), zI_st, if_neg (by omega)]
          exact (hA c (by omega)).1
        · rw [zI_st, if_neg (by omega), zI_st, if_neg (by omega)]
          exact (hA c (by omega)).2)
    refine ⟨σ', ?_, e2, e3⟩
    have hi20 : i < 20 := by omega
    have hb10 : b < 10 := by omega
    have hq10 : Int32.ofNat b < 10 := by
      rw [show (10 : Int32) = Int32.ofNat 10 from rfl, io_lt (by omega) (by omega)]
      exact hb10
    have hmx : (if Int32.ofNat (stp a (qM a i b)) < Int32.ofNat (qD a i b) then Int32.ofNat (qD a i b) else Int32.ofNat (stp a (qM a i b))) = Int32.ofNat (lim a i b) := mxi (by omega) (by omega)
    have hqe : (Int32.ofNat (stp a (qM a i b)) = Int32.ofNat (qD a i b)) = (stp a (qM a i b) = qD a i b) := io_eq (by omega) (by omega)
    have hql : (Int32.ofNat (qD a i b) < Int32.ofNat (stp a (qM a i b))) = (qD a i b < stp a (qM a i b)) := io_lt (by omega) (by omega)
    have hsu : Int32.ofNat b + 1 = Int32.ofNat (b + 1) := io_succ
    rw [← e1, ← hsu, sX4_settle_2]
    refine Eq.trans (if_pos hq10) ?_
    refine (zgR_e (h1.1.kL hi20) (h1.1.rL0 hi20)).trans ?_
    refine (zaN_e (h1.1.kL0 hi20) (h1.1.lL0 hi20) hb10 (by decide) ((h1.p0 hi20 hb10 hvis).trans m1)).trans ?_
    refine (zck_e h1.1.kT).trans ?_
    refine (zb_e (c_stepAt h1 ht (by omega) hn)).trans ?_
    refine (zgR_e (h1.1.kL hi20) (h1.1.rL2 hi20)).trans ?_
    refine (zaN_e (h1.1.kL2 hi20) (h1.1.lL2 hi20) hb10 (by decide) ((h1.p2 hi20 hb10 hvis).trans d1)).trans ?_
    refine (zgR_e hv1.kV hv1.v0).trans ?_
    refine (zsN_e hv1.kV1 hv1.lV1 hb10 (by decide) hmx).trans ?_
    by_cases q1 : stp a (qM a i b) = qD a i b
    · refine Eq.trans (if_pos (hqe.symm ▸ q1)) ?_
      refine (zgR_e hv2.kV hv2.v1).trans ?_
      refine (zgR_e (h2.1.kL hi20) (h2.1.rL1 hi20)).trans ?_
      refine (zaN_e (h2.1.kL1 hi20) (h2.1.lL1 hi20) hb10 (by decide) ((h2.p1 hi20 hb10 hvis).trans o1)).trans ?_
      refine (zgR_e (h2.1.kL hi20) (h2.1.rL3 hi20)).trans ?_
      refine (zaN_e (h2.1.kL3 hi20) (h2.1.lL3 hi20) hb10 (by decide) ((h2.p3 hi20 hb10 hvis).trans n1)).trans ?_
      refine (zsN_e (v' := Int32.ofNat (tim a i b)) hv2.kV2 hv2.lV2 hb10 (by decide) ((mni (by omega) (by omega)).trans ?_)).trans ?_
      · unfold tim
        rw [if_pos q1, Nat.min_comm]
      · rfl
    · refine Eq.trans (if_neg (fun q => q1 (hqe ▸ q))) ?_
      refine (zgR_e hv2.kV hv2.v1).trans ?_
      by_cases q2 : qD a i b < stp a (qM a i b)
      · refine Eq.trans (if_pos (hql.symm ▸ q2)) ?_
        refine (zgR_e (h2.1.kL hi20) (h2.1.rL1 hi20)).trans ?_
        refine (zaN_e (h2.1.kL1 hi20) (h2.1.lL1 hi20) hb10 (by decide) ((h2.p1 hi20 hb10 hvis).trans o1)).trans ?_
        refine (zsN_e (v' := Int32.ofNat (tim a i b)) hv2.kV2 hv2.lV2 hb10 (by decide) ?_).trans ?_
        · unfold tim
          rw [if_neg q1, if_pos q2]
        · rfl
      · refine Eq.trans (if_neg (fun q => q2 (hql ▸ q))) ?_
        refine (zgR_e (h2.1.kL hi20) (h2.1.rL3 hi20)).trans ?_
        refine (zaN_e (h2.1.kL3 hi20) (h2.1.lL3 hi20) hb10 (by decide) ((h2.p3 hi20 hb10 hvis).trans n1)).trans ?_
        refine (zsN_e (v' := Int32.ofNat (tim a i b)) hv2.kV2 hv2.lV2 hb10 (by decide) ?_).trans ?_
        · unfold tim
          rw [if_neg q1, if_neg q2]
        · rfl
theorem c_settle (h : Rep σ s a) (hv : Vw σ v) (hd : v + 3 ≤ s ∨ s + 112 ≤ v) (ht : Tb a) (hl : Lt a i) (hm : mk a ≤ 20) (hi : i < mk a) (hn : 1000 < n) : ∃ σ', fX4_settle n v (lo s i) (s + 1) σ = some σ' ∧ Fr (Pv v) σ σ' ∧ Stv σ' v a i :=
  c_settle_l h hv hd ht hl hm hi hn 10 0 n σ (by omega) (by omega) Fr.refl (fun c hc => by omega)
end
