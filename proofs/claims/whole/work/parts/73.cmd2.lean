/-! LOTS ARE OPENED, WITHDRAWN, BID FOR, CLOSED -/
theorem stN_congr {B I B' I' : Nat → Nat} {R x : Nat} (h : ∀ k, k < R → B k = B' k ∧ I k = I' k) : ∀ (f row s : Nat), row + f = R → stN B I R x f row s = stN B' I' R x f row s
  | 0, _, _, _ => rfl
  | f + 1, row, s, hr => by
    unfold stN
    rw [(h row (by omega)).2]
    by_cases q : row + 1 = R
    · rw [if_pos q, if_pos q]
    · rw [if_neg q, if_neg q, (h (row + 1) (by omega)).1]
      split
      · rfl
      · exact stN_congr h f (row + 1) _ (by omega)
theorem rwN_congr {B B' : Nat → Nat} {t : Nat} : ∀ k, (∀ j, j < k → B j = B' j) → rwN B t k = rwN B' t k
  | 0, _ => rfl
  | k + 1, h => by
    unfold rwN
    rw [h k (by omega), rwN_congr k (fun j hj => h j (by omega))]
theorem tab_congr {a a' : Nat → Int32} (ht : Tb a) (h : ∀ j, j < 13 → a' j = a j) (x : Nat) : stp a' x = stp a x ∧ nxt a' x = nxt a x := by
  have hR : tR a' = tR a := by unfold tR; rw [h 0 (by omega)]
  have h6 := ht.1.2.2.1
  have hB : ∀ k, k < tR a → tB a' k = tB a k ∧ tI a' k = tI a k := fun k hk => by
    unfold tB tI
    rw [h (1 + k) (by omega), h (7 + k) (by omega)]
    exact ⟨rfl, rfl⟩
  have e1 : ∀ y, stp a' y = stp a y := fun y => by
    unfold stp
    rw [hR]
    exact stN_congr (fun k hk => hB k hk) (tR a) 0 0 (by omega)
  refine ⟨e1 x, ?_⟩
  unfold nxt
  rw [e1 x]
  have e2 : rwo a' (stp a x) = rwo a (stp a x) := by
    unfold rwo
    rw [hR]
    exact rwN_congr (tR a) (fun j hj => (hB j hj).1)
  rw [e2, (hB _ (rwo_in ht (stp a x)).1).2]
theorem rNote_rm {a : Nat → Int32} {κ l β x : Int32} {c i k : Nat} (hc : c = 184 ∨ c = 584) (hi : i < 20) (hk : k ≤ 10) : rmK (rNote a κ l β x) c i k = rNote (rmK a c i k) κ l β x := by
  have e : kp (rmK a c i k) = kp a := by
    unfold kp rmK
    rw [if_neg (by omega)]
  funext j
  unfold rNote
  rw [e]
  by_cases h : (c + 10 * i ≤ j ∧ j < c + 10 * i + k) ∨ (c + 200 + 10 * i ≤ j ∧ j < c + 200 + 10 * i + k)
  · have z : ∀ f : Nat → Int32, rmK f c i k j = 0 := fun f => if_pos h
    rw [z, z]
    split
    · rw [if_neg (by omega), if_neg (by omega), if_neg (by omega), if_neg (by omega), if_neg (by omega)]
    · rfl
  · have z : ∀ f : Nat → Int32, rmK f c i k j = f j := fun f => if_neg h
    rw [z, z]
theorem up_rm {a : Nat → Int32} {c i k j0 : Nat} {v : Int32} (h : ¬ ((c + 10 * i ≤ j0 ∧ j0 < c + 10 * i + k) ∨ (c + 200 + 10 * i ≤ j0 ∧ j0 < c + 200 + 10 * i + k))) : rmK (up a j0 v) c i k = up (rmK a c i k) j0 v := by
  funext j
  unfold up
  by_cases e : j = j0
  · rw [if_pos e, e]
    show (if _ then _ else _) = v
    rw [if_neg h]
    exact if_pos rfl
  · rw [if_neg e]
    show (if _ then _ else _) = if _ then _ else _
    split
    · rfl
    · exact if_neg e
theorem oc_congr {a a' : Nat → Int32} {i : Nat} (h : ∀ b, b < 10 → a' (184 + 10 * i + b) = a (184 + 10 * i + b)) : oc a' i = oc a i := zsm_congr (fun b hb => by rw [h b hb])
theorem rNote_old {a : Nat → Int32} {κ l β x : Int32} {j : Nat} (h : j < 991) : rNote a κ l β x j = a j := by
  unfold rNote
  by_cases q : kp a < 250
  · rw [if_pos q, if_neg (by omega), if_neg (by omega), if_neg (by omega), if_neg (by omega), if_neg (by omega)]
  · rw [if_neg q]
theorem mk_note {a : Nat → Int32} {κ l β x : Int32} : mk (rNote a κ l β x) = mk a := by
  unfold mk
  rw [rNote_old (by omega)]
theorem met_led {a : Nat → Int32} {i : Nat} (hl : Lt a i) (h : met a i) : ∃ b, b < 10 ∧ sLd a i = Int32.ofNat b := by
  obtain ⟨h1, h2, -⟩ := h
  unfold sLd at h1 h2 ⊢
  by_cases q : bsl a i < hou a i
  · rw [if_pos q] at h2
    exact absurd rfl h2
  · rw [if_neg q] at h1 ⊢
    cases hB : bst a i with
    | none =>
      rw [hB] at h1
      exact absurd rfl h1
    | some b => exact ⟨b, (bst_lt hl hB).1, rfl⟩
section
variable {σ τ : zW} {S : St} {B c n i : Nat}
theorem c_price2 {a a1 : Nat → Int32} {s v : Nat} (h : Rep σ s a1) (ht1 : Tb a1) (hv : Vw σ v) (hs : Stv σ v a i) (ht : Tb a) (hl : Lt a i) (hn : 1000 < n) (he : ∀ x, nxt a1 x = nxt a x) : fX4_price n v (s + 1) σ = some (Int32.ofNat (sPr a i)) := by
  obtain ⟨hA, -, s3, s4, s5⟩ := hs
  have h1 := sLm_le hl
  have h2 := sSc_le hl
  have h3 := nxt_le ht h2
  have hd := sLd_none hl
  unfold fX4_price sPr
  refine (zgI_e hv.kV s3).trans ?_
  by_cases q : sLd a i = -1
  · refine Eq.trans (if_pos q) ?_
    rw [if_pos (hd.mp q)]
    rfl
  · refine Eq.trans (if_neg q) ?_
    rw [if_neg (fun z => q (hd.mpr z))]
    refine (zgI_e hv.kV s4).trans ?_
    refine (zgI_e hv.kV s5).trans ?_
    refine (zck_e h.1.kT).trans ?_
    refine (zb_e (c_stepAfter h ht1 h2 hn)).trans ?_
    unfold sX4_price_27
    rw [he, mni (by omega) (by omega), Nat.min_comm]
theorem c_meets2 {s v : Nat} {a : Nat → Int32} (hv : Vw σ v) (hs : Stv σ v a i) (hl : Lt a i) (hp : fX4_price n v (s + 1) σ = some (Int32.ofNat (sPr a i))) : fX4_meets n v (Int32.ofNat (qR a i)) (s + 1) σ = some (@ite _ (met a i) (Classical.propDecidable _) 1 0) := by
  have h1 := sPr_le hl
  have h2 := hl.1.2
  have s3 := hs.2.2.1
  have hlt : (Int32.ofNat (sPr a i) < Int32.ofNat (qR a i)) = (sPr a i < qR a i) := io_lt (by omega) (by omega)
  unfold fX4_meets
  refine (zgI_e hv.kV s3).trans ?_
  by_cases q : sLd a i = -1
  · rw [if_neg (fun z : met a i => z.1 q)]
    exact if_pos q
  · refine Eq.trans (if_neg q) ?_
    refine (zgI_e hv.kV s3).trans ?_
    by_cases q2 : sLd a i = 10
    · rw [if_neg (fun z : met a i => z.2.1 q2)]
      exact if_pos q2
    · refine Eq.trans (if_neg q2) ?_
      refine (zck_e hv.kV).trans ?_
      refine (zb_e hp).trans ?_
      by_cases q3 : sPr a i < qR a i
      · rw [if_neg (fun z : met a i => by have := z.2.2; omega)]
        exact if_pos (hlt.symm ▸ q3)
      · have q4 : met a i := ⟨q, q2, by omega⟩
        rw [if_pos q4]
        exact if_neg (fun z => q3 (hlt ▸ z))
/-- the view stays while the Sale is written -/
theorem Stv.fc {a : Nat → Int32} {σ' : zW} (h : Stv σ 117 a i) (hf : Fr (Ps 5) σ σ') : Stv σ' 117 a i := by
  have e : ∀ o, 117 ≤ o → zI σ' o = zI σ o := fun o ho => hf.2 o (fun q => by have := q.2; omega)
  unfold Stv Arr at h ⊢
  rw [e 117 (by omega), e (117 + 1) (by omega), e (117 + 2) (by omega)]
  exact h
theorem j_openLoop {Q : Int32 × zW → Prop} (hτ : JR τ S) (hi20 : i < 20) (hn : 1000 < n) (hQ : ∀ τ2, Sm τ (uA S (rmK (sA S) 584 i 10)) τ2 → wp (zck τ2 9 125 (zb (fX8_note n 125 1 (Int32.ofNat i) (-1) 0 τ2) fun σ1 => zck σ1 9 125 (zb (fX8_stand n 125 (Int32.ofNat i) σ1) fun σ2 => zgI σ2 9 125 10 fun x3 => some (x3, σ2)))) Q) : wp (sX8_open_66 n n 125 (Int32.ofNat i) 0 τ) Q := by
  have key : ∀ (d b k : Nat) (τ1 : zW), b + d = 10 → d < k → Sm τ (uA S (rmK (sA S) 584 i b)) τ1 → wp (sX8_open_66 n k 125 (Int32.ofNat i) (Int32.ofNat b) τ1) Q := by
    intro d
    induction d with
    | zero =>
      intro b k τ1 hb hk hW
      obtain ⟨k, rfl⟩ : ∃ k', k = k' + 1 := ⟨k - 1, by omega⟩
      have hb : b = 10 := by omega
      subst hb
      rw [sX8_open_66]
      exact hQ τ1 hW
    | succ d ih =>
      intro b k τ1 hb hk hW
      obtain ⟨k, rfl⟩ : ∃ k', k = k' + 1 := ⟨k - 1, by omega⟩
      rw [sX8_open_66]
      refine wpE (if_pos (io_10 (by omega))) ?_
      refine wpE (zck_e hW.1.k) ?_
      obtain ⟨τ2, e2, s2⟩ := jw_putB (n := n) (x := 0) (y := 0) hW.1 hi20 (show b < 10 by omega)
      refine wpE (zb_e e2) ?_
      rw [io_succ]
      refine ih (b + 1) k τ2 (by omega) (by omega) ?_
      have s3 := hW.tr s2
      have e3 : uA (uA S (rmK (sA S) 584 i b)) (put (sA (uA S (rmK (sA S) 584 i b))) 584 i b 0 0) = uA S (rmK (sA S) 584 i (b + 1)) := congrArg (uA S) rmK_succ
      rw [e3] at s3
      exact s3
  refine key 10 0 n τ (by omega) (by omega) ?_
  rw [rmK_zero]
  exact Sm.refl hτ
end
section
variable {S : St} {B c n : Nat}
theorem cmd_open (hS : SI S B) (hn : 30000 < n) (hcc : c ≤ 100000) (p : Int32) : CMD (fX7_tryOpen n 4 p) (fX8_open n 125 p) S B c lkS := by
  have hI := hS.1
  rcases lot_cases hI.1 p with ⟨i, rfl, him, hi20, v1, v2⟩ | ⟨v1, v2⟩
  · by_cases h0 : sA S (24 + 8 * i + 3) = 0
    · have I1 := hI.free (j0 := 24 + 8 * i + 3) (v := 1) (Or.inr (Or.inr ⟨i, hi20, Or.inr (Or.inr ⟨rfl, by decide⟩)⟩))
      have I2 := I1.free (j0 := 24 + 8 * i + 4) (v := sA S (24 + 8 * i + 4) + 1) (Or.inr (Or.inr ⟨i, hi20, Or.inl rfl⟩))
      have m2 : i < mk (up (up (sA S) (24 + 8 * i + 3) 1) (24 + 8 * i + 4) (sA S (24 + 8 * i + 4) + 1)) := by rw [mk_up (by omega), mk_up (by omega)]; exact him
      have I3 := I2.rm m2 (Or.inr rfl)
      have m3 : i < mk (rmK (up (up (sA S) (24 + 8 * i + 3) 1) (24 + 8 * i + 4) (sA S (24 + 8 * i + 4) + 1)) 584 i 10) := by rw [mk_rm (by omega)]; exact m2
      have I4 := I3.note (κ := 1) (l := Int32.ofNat i) (β := -1) (x := 0) rfl m3
      have m4 : i < mk (rNote (rmK (up (up (sA S) (24 + 8 * i + 3) 1) (24 + 8 * i + 4) (sA S (24 + 8 * i + 4) + 1)) 584 i 10) 1 (Int32.ofNat i) (-1) 0) := by rw [mk_note]; exact m3
      have hpr := sPr_le (I4.lt m4)
      have e4 : up (sA S) (24 + 8 * i + 3) 1 (24 + 8 * i + 4) = sA S (24 + 8 * i + 4) := up_ne (by omega)
      refine ⟨Int32.ofNat (sPr (rNote (rmK (up (up (sA S) (24 + 8 * i + 3) 1) (24 + 8 * i + 4) (sA S (24 + 8 * i + 4) + 1)) 584 i 10) 1 (Int32.ofNat i) (-1) 0) i), 0, uA (keepS S) (rNote (rmK (up (up (sA S) (24 + 8 * i + 3) 1) (24 + 8 * i + 4) (sA S (24 + 8 * i + 4) + 1)) 584 i 10) 1 (Int32.ofNat i) (-1) 0), ⟨hS.keep.row (I4.mono (by omega)) (by omega), rfl⟩, Or.inl ⟨io_ge0 (by omega), rfl⟩, fun σ hJ => ?_, fun τ hτ => ?_⟩
      · have hR := hJ.rep
        unfold fX7_tryOpen
        refine wpE (zgR_e hJ.x hJ.xs) ?_
        refine wpE (zck_e hR.1.kS) ?_
        refine wpE (zb_e (has_y hJ v1)) ?_
        refine wpE (if_neg one_ne) ?_
        refine wpE (zgR_e hJ.x hJ.xs) ?_
        refine wpE (zgR_e hR.1.kS hR.1.r3) ?_
        refine wpE (zaRN_e hR.1.kO hR.1.lO hi20 (by decide) (hR.1.rL hi20)) ?_
        refine wpE (zgI_e (hR.1.kL hi20) (hR.l3 hi20 him)) ?_
        refine wpE (if_pos h0) ?_
        refine wpE (zgR_e hJ.x hJ.xh) ?_
        refine wpE (zgR_e hJ.x hJ.xs) ?_
        refine wpE (zck_e hJ.kh) ?_
        obtain ⟨σ1, e1, J1, F1⟩ := cw_keep (n := n) hJ hI.1 (by omega) hcc
        refine wpE (zb_e e1) ?_
        have w2 := cw_fld (x := 1) J1 hi20 (by omega) (slo_l3 hi20) (by omega) (by omega)
        refine wpE (zpI_e (J1.rep.1.kL hi20) rfl) ?_
        have J2 := w2.1
        refine wpE (zgI_e (J2.rep.1.kL hi20) ((J2.rep.l4 hi20 (by show i < mk (up (sA S) _ _); rw [mk_up (by omega)]; exact him)).trans e4)) ?_
        have w3 := cw_fld (x := sA S (24 + 8 * i + 4) + 1) J2 hi20 (by omega) (slo_l4 hi20) (by omega) (by omega)
        refine wpE (zpI_e (J2.rep.1.kL hi20) rfl) ?_
        have J3 := w3.1
        refine wpE (zck_e (J3.rep.1.kL hi20)) ?_
        obtain ⟨σ4, e4', w4⟩ := cw_rmB (n := n) J3 (by omega) hi20
        refine wpE (zb_e e4') ?_
        have J4 := w4.1
        refine wpE (zgR_e J4.x J4.xs) ?_
        refine wpE (zgR_e J4.rep.1.kS J4.rep.1.r4) ?_
        refine wpE (zck_e J4.rep.1.kG) ?_
        obtain ⟨σ5, e5, w5⟩ := cw_note (n := n) (κ := 1) (l := Int32.ofNat i) (β := -1) (x := 0) J4 I3.1
        refine wpE (zb_e e5) ?_
        have J5 := w5.1
        refine wpE (zgR_e J5.x J5.xv) ?_
        refine wpE (zgR_e J5.x J5.xs) ?_
        refine wpE (zgR_e J5.rep.1.kS J5.rep.1.r0) ?_
        refine wpE (zck_e J5.vw.kV) ?_
        obtain ⟨σ6, e6, J6, F6, st6⟩ := c_settleJ (n := n) J5 I4 m4 (by omega)
        refine wpE (zb_e e6) ?_
        refine wpE (zgR_e J6.x J6.xv) ?_
        refine wpE (zgR_e J6.x J6.xs) ?_
        refine wpE (zgR_e J6.rep.1.kS J6.rep.1.r0) ?_
        refine wpE (zck_e J6.vw.kV) ?_
        refine wpE (zb_e (c_priceJ J6 I4 m4 (by omega) st6)) ?_
        exact wp_some ⟨rfl, J6, ((((F1.trans w2.2).trans w3.2).trans w4.2).trans w5.2).trans (FC.v F6)⟩
      · have hT := Tr.one (k := 0) hτ
        have h1 := hT.2.2
        unfold fX8_open
        refine wpE (zck_e hτ.k) ?_
        refine wpE (zb_e (jn_lot hτ v2)) ?_
        refine wpE (if_neg one_ne) ?_
        refine wpE (zck_e hτ.k) ?_
        refine wpE (zb_e (j_at3 hτ hi20)) ?_
        refine wpE (if_pos h0) ?_
        unfold sX8_open_27
        refine wpE (thr_set hτ) ?_
        refine wpE (if_pos rfl) ?_
        refine wpE (zck_e h1.k) ?_
        obtain ⟨τ1, e1, s1⟩ := jw_keep (n := n) h1 hn
        refine wpE (zb_e e1) ?_
        refine wpE (zck_e s1.1.k) ?_
        obtain ⟨τ2, e2, s2⟩ := jw_set (n := n) (p := 3) (x := 1) s1.1 hi20 (by decide)
        refine wpE (zb_e e2) ?_
        refine wpE (zck_e s2.1.k) ?_
        refine wpE (zb_e ((j_at4 s2.1 hi20).trans (congrArg some e4))) ?_
        refine wpE (zck_e s2.1.k) ?_
        obtain ⟨τ3, e3, s3⟩ := jw_set (n := n) (p := 4) (x := sA S (24 + 8 * i + 4) + 1) s2.1 hi20 (by decide)
        refine wpE (zb_e e3) ?_
        refine j_openLoop s3.1 hi20 (by omega) (fun τ4 s4 => ?_)
        refine wpE (zck_e s4.1.k) ?_
        obtain ⟨τ5, e5, s5⟩ := jw_note (n := n) (κ := 1) (l := Int32.ofNat i) (β := -1) (x := 0) s4.1 I3.1
        refine wpE (zb_e e5) ?_
        refine wpE (zck_e s5.1.k) ?_
        obtain ⟨τ6, e6, s6, st6⟩ := j_standS (n := n) s5.1 I4 m4 (by omega)
        refine wpE (zb_e e6) ?_
        refine wpE (zgI_e s6.1.k st6.2.2.2) ?_
        have hF := Sm.thr hT (((((s1.tr s2).tr s3).tr s4).tr s5).tr s6)
        exact wp_some ⟨hF.1, fun _ => rfl, hF.2.2, hF.2.1⟩
    · refine ⟨-3, 2, S, ⟨hS.mono (by omega), rfl⟩, Or.inr (Or.inr ⟨rfl, rfl⟩), fun σ hJ => ?_, fun τ hτ => ?_⟩
      · have hR := hJ.rep
        unfold fX7_tryOpen
        refine wpE (zgR_e hJ.x hJ.xs) ?_
        refine wpE (zck_e hR.1.kS) ?_
        refine wpE (zb_e (has_y hJ v1)) ?_
        refine wpE (if_neg one_ne) ?_
        refine wpE (zgR_e hJ.x hJ.xs) ?_
        refine wpE (zgR_e hR.1.kS hR.1.r3) ?_
        refine wpE (zaRN_e hR.1.kO hR.1.lO hi20 (by decide) (hR.1.rL hi20)) ?_
        refine wpE (zgI_e (hR.1.kL hi20) (hR.l3 hi20 him)) ?_
        refine wpE (if_neg h0) ?_
        exact wp_some ⟨rfl, Cw.refl hJ⟩
      · have hT := Tr.one (k := 2) hτ
        unfold fX8_open
        refine wpE (zck_e hτ.k) ?_
        refine wpE (zb_e (jn_lot hτ v2)) ?_
        refine wpE (if_neg one_ne) ?_
        refine wpE (zck_e hτ.k) ?_
        refine wpE (zb_e (j_at3 hτ hi20)) ?_
        refine wpE (if_neg h0) ?_
        unfold sX8_open_27
        refine wpE (thr_set hτ) ?_
        refine wpE (if_neg (by decide)) ?_
        exact wp_some ⟨hT.1, fun q => absurd q (by decide), hT.2.2, hT.2.1⟩
  · refine ⟨-1, 1, S, ⟨hS.mono (by omega), rfl⟩, Or.inr (Or.inl ⟨rfl, rfl⟩), fun σ hJ => ?_, fun τ hτ => ?_⟩
    · have hR := hJ.rep
      unfold fX7_tryOpen
      refine wpE (zgR_e hJ.x hJ.xs) ?_
      refine wpE (zck_e hR.1.kS) ?_
      refine wpE (zb_e (has_n hJ v1)) ?_
      refine wpE (if_pos rfl) ?_
      exact wp_some ⟨rfl, Cw.refl hJ⟩
    · have hT := Tr.one (k := 1) hτ
      unfold fX8_open
      refine wpE (zck_e hτ.k) ?_
      refine wpE (zb_e (jn_lot_x hτ v2)) ?_
      refine wpE (if_pos rfl) ?_
      unfold sX8_open_27
      refine wpE (thr_set hτ) ?_
      refine wpE (if_neg (by decide)) ?_
      exact wp_some ⟨hT.1, fun q => absurd q (by decide), hT.2.2, hT.2.1⟩
theorem cmd_withdraw (hS : SI S B) (hn : 30000 < n) (hcc : c ≤ 100000) (p : Int32) : CMD (fX7_tryWithdraw n 4 p) (fX8_withdraw n 125 p) S B c lkS := by
  have hI := hS.1
  rcases lot_cases hI.1 p with ⟨i, rfl, him, hi20, v1, v2⟩ | ⟨v1, v2⟩
  · by_cases h0 : sA S (24 + 8 * i + 3) = 0
    · have I1 := hI.rm him (c := 184) (Or.inl rfl)
      have m1 : i < mk (rmK (sA S) 184 i 10) := by rw [mk_rm (by omega)]; exact him
      have I2 := I1.free (j0 := 24 + 8 * i + 3) (v := 4) (Or.inr (Or.inr ⟨i, hi20, Or.inr (Or.inr ⟨rfl, by decide⟩)⟩))
      have m2 : i < mk (up (rmK (sA S) 184 i 10) (24 + 8 * i + 3) 4) := by rw [mk_up (by omega)]; exact m1
      have I3 := I2.note (κ := 5) (l := Int32.ofNat i) (β := -1) (x := 0) rfl m2
      have I2r := hI.free (j0 := 24 + 8 * i + 3) (v := 4) (Or.inr (Or.inr ⟨i, hi20, Or.inr (Or.inr ⟨rfl, by decide⟩)⟩))
      refine ⟨oc (sA S) i, 0, uA (keepS S) (rNote (up (rmK (sA S) 184 i 10) (24 + 8 * i + 3) 4) 5 (Int32.ofNat i) (-1) 0), ⟨hS.keep.row (I3.mono (by omega)) (by omega), rfl⟩, Or.inl ⟨by rw [oc_onm]; exact io_ge0 (by have := onm_le (a := sA S) (i := i); omega), rfl⟩, fun σ hJ => ?_, fun τ hτ => ?_⟩
      · have hR := hJ.rep
        unfold fX7_tryWithdraw
        refine wpE (zgR_e hJ.x hJ.xs) ?_
        refine wpE (zck_e hR.1.kS) ?_
        refine wpE (zb_e (has_y hJ v1)) ?_
        refine wpE (if_neg one_ne) ?_
        refine wpE (zgR_e hJ.x hJ.xs) ?_
        refine wpE (zgR_e hR.1.kS hR.1.r3) ?_
        refine wpE (zaRN_e hR.1.kO hR.1.lO hi20 (by decide) (hR.1.rL hi20)) ?_
        refine wpE (zgI_e (hR.1.kL hi20) (hR.l3 hi20 him)) ?_
        refine wpE (if_pos h0) ?_
        refine wpE (zgR_e hJ.x hJ.xh) ?_
        refine wpE (zgR_e hJ.x hJ.xs) ?_
        refine wpE (zck_e hJ.kh) ?_
        obtain ⟨σ1, e1, J1, F1⟩ := cw_keep (n := n) hJ hI.1 (by omega) hcc
        refine wpE (zb_e e1) ?_
        refine wpE (zck_e (J1.rep.1.kL hi20)) ?_
        refine wpE (zb_e (c_ordersLot J1.rep hI.1.2.1 (by omega) him)) ?_
        refine wpE (zck_e (J1.rep.1.kL hi20)) ?_
        obtain ⟨σ2, e2, w2⟩ := cw_rmO (n := n) J1 (by omega) hi20
        refine wpE (zb_e e2) ?_
        have J2 := w2.1
        have w3 := cw_fld (x := 4) J2 hi20 (by omega) (slo_l3 hi20) (by omega) (by omega)
        refine wpE (zpI_e (J2.rep.1.kL hi20) rfl) ?_
        have J3 := w3.1
        refine wpE (zgR_e J3.x J3.xs) ?_
        refine wpE (zgR_e J3.rep.1.kS J3.rep.1.r4) ?_
        refine wpE (zck_e J3.rep.1.kG) ?_
        obtain ⟨σ4, e4, w4⟩ := cw_note (n := n) (κ := 5) (l := Int32.ofNat i) (β := -1) (x := 0) J3 I2.1
        refine wpE (zb_e e4) ?_
        exact wp_some ⟨rfl, w4.1, ((F1.trans w2.2).trans w3.2).trans w4.2⟩
      · have hT := Tr.one (k := 0) hτ
        have h1 := hT.2.2
        unfold fX8_withdraw
        refine wpE (zck_e hτ.k) ?_
        refine wpE (zb_e (jn_lot hτ v2)) ?_
        refine wpE (if_neg one_ne) ?_
        refine wpE (zck_e hτ.k) ?_
        refine wpE (zb_e (j_at3 hτ hi20)) ?_
        refine wpE (if_pos h0) ?_
        unfold sX8_withdraw_27
        refine wpE (thr_set hτ) ?_
        refine wpE (if_pos rfl) ?_
        refine wpE (zck_e h1.k) ?_
        obtain ⟨τ1, e1, s1⟩ := jw_keep (n := n) h1 hn
        refine wpE (zb_e e1) ?_
        refine wpE (zck_e s1.1.k) ?_
        obtain ⟨τ2, e2, s2⟩ := jw_set (n := n) (p := 3) (x := 4) s1.1 hi20 (by decide)
        refine wpE (zb_e e2) ?_
        refine wpE (zck_e s2.1.k) ?_
        obtain ⟨τ3, e3, s3⟩ := jw_note (n := n) (κ := 5) (l := Int32.ofNat i) (β := -1) (x := 0) s2.1 I2r.1
        refine wpE (zb_e e3) ?_
        refine wpE (zck_e s3.1.k) ?_
        obtain ⟨p4, e4, u4, s4⟩ := jw_rmO (n := n) s3.1 (by omega) hi20
        refine wpE (zb2_e (v := p4.1) (s := p4.2) e4) ?_
        have eq : rmK (rNote (up (sA S) (24 + 8 * i + 3) 4) 5 (Int32.ofNat i) (-1) 0) 184 i 10 = rNote (up (rmK (sA S) 184 i 10) (24 + 8 * i + 3) 4) 5 (Int32.ofNat i) (-1) 0 := by
          rw [rNote_rm (Or.inl rfl) hi20 (by decide), up_rm (by omega)]
        have eo : oc (rNote (up (sA S) (24 + 8 * i + 3) 4) 5 (Int32.ofNat i) (-1) 0) i = oc (sA S) i := oc_congr (fun b hb => by rw [rNote_old (by omega), up_ne (by omega)])
        have hF := Sm.thr hT (((s1.tr s2).tr s3).tr s4)
        have hF2 : Tr τ (uA (keepS S) (rmK (rNote (up (sA S) (24 + 8 * i + 3) 4) 5 (Int32.ofNat i) (-1) 0) 184 i 10)) 0 p4.2 := hF
        rw [eq] at hF2
        exact wp_some ⟨hF2.1, fun _ => u4.trans eo, hF2.2.2, hF2.2.1⟩
    · refine ⟨-3, 2, S, ⟨hS.mono (by omega), rfl⟩, Or.inr (Or.inr ⟨rfl, rfl⟩), fun σ hJ => ?_, fun τ hτ => ?_⟩
      · have hR := hJ.rep
        unfold fX7_tryWithdraw
        refine wpE (zgR_e hJ.x hJ.xs) ?_
        refine wpE (zck_e hR.1.kS) ?_
        refine wpE (zb_e (has_y hJ v1)) ?_
        refine wpE (if_neg one_ne) ?_
        refine wpE (zgR_e hJ.x hJ.xs) ?_
        refine wpE (zgR_e hR.1.kS hR.1.r3) ?_
        refine wpE (zaRN_e hR.1.kO hR.1.lO hi20 (by decide) (hR.1.rL hi20)) ?_
        refine wpE (zgI_e (hR.1.kL hi20) (hR.l3 hi20 him)) ?_
        refine wpE (if_neg h0) ?_
        exact wp_some ⟨rfl, Cw.refl hJ⟩
      · have hT := Tr.one (k := 2) hτ
        unfold fX8_withdraw
        refine wpE (zck_e hτ.k) ?_
        refine wpE (zb_e (jn_lot hτ v2)) ?_
        refine wpE (if_neg one_ne) ?_
        refine wpE (zck_e hτ.k) ?_
        refine wpE (zb_e (j_at3 hτ hi20)) ?_
        refine wpE (if_neg h0) ?_
        unfold sX8_withdraw_27
        refine wpE (thr_set hτ) ?_
        refine wpE (if_neg (by decide)) ?_
        exact wp_some ⟨hT.1, fun q => absurd q (by decide), hT.2.2, hT.2.1⟩
  · refine ⟨-1, 1, S, ⟨hS.mono (by omega), rfl⟩, Or.inr (Or.inl ⟨rfl, rfl⟩), fun σ hJ => ?_, fun τ hτ => ?_⟩
    · have hR := hJ.rep
      unfold fX7_tryWithdraw
      refine wpE (zgR_e hJ.x hJ.xs) ?_
      refine wpE (zck_e hR.1.kS) ?_
      refine wpE (zb_e (has_n hJ v1)) ?_
      refine wpE (if_pos rfl) ?_
      exact wp_some ⟨rfl, Cw.refl hJ⟩
    · have hT := Tr.one (k := 1) hτ
      unfold fX8_withdraw
      refine wpE (zck_e hτ.k) ?_
      refine wpE (zb_e (jn_lot_x hτ v2)) ?_
      refine wpE (if_pos rfl) ?_
      unfold sX8_withdraw_27
      refine wpE (thr_set hτ) ?_
      refine wpE (if_neg (by decide)) ?_
      exact wp_some ⟨hT.1, fun q => absurd q (by decide), hT.2.2, hT.2.1⟩
theorem rB_pos (x : Nat) {a : Nat → Int32} {i b : Nat} (h : rB a i b x = 0) : 0 < x ∧ stp a x = x := by
  unfold rB at h
  by_cases h1 : a (24 + 8 * i + 3) = 1
  · rw [if_pos h1] at h
    by_cases h2 : sLd a i = Int32.ofNat b
    · rw [if_pos h2] at h; exact absurd h (by decide)
    · rw [if_neg h2] at h
      by_cases h3 : x < nxt a (sPr a i)
      · rw [if_pos h3] at h; exact absurd h (by decide)
      · rw [if_neg h3] at h
        by_cases h4 : 0 < x ∧ stp a x = x
        · exact h4
        · rw [if_neg h4] at h; exact absurd h (by decide)
  · rw [if_neg h1] at h; exact absurd h (by decide)
theorem cmd_bid (hS : SI S B) (hB : B < 100000000) (hn : 30000 < n) (hcc : c ≤ 100000) (p q x : Int32) : CMD (fX7_tryBid n 4 p q x) (fX8_bid n 125 p q x) S B c lkO := by
  have hI := hS.1
  rcases lot_cases hI.1 p with ⟨i, rfl, him, hi20, v1, v2⟩ | ⟨v1, v2⟩
  · rcases bid_cases q with ⟨b, rfl, hb, w1, w2⟩ | ⟨w1, w2⟩
    · by_cases hx : 1 ≤ x ∧ x ≤ 99999
      · obtain ⟨y, rfl, hy1, hy2⟩ := in_cases 1 99999 (by decide) (by decide) hx
        have nx1 : ¬ Int32.ofNat y < 1 := Int32.not_lt.mpr hx.1
        have nx2 : ¬ 99999 < Int32.ofNat y := Int32.not_lt.mpr hx.2
        by_cases hr : rB (sA S) i b y = 0
        · have I1 := hI.bid him hb hy2 hB
          have m1 : i < mk (put (rNum (sA S)) 584 i b (Int32.ofNat y) (sA S 984 + 1)) := by rw [mk_put (by omega), mk_num]; exact him
          have I2 := I1.note (κ := 2) (l := Int32.ofNat i) (β := Int32.ofNat b) (x := Int32.ofNat y) rfl m1
          have m2 : i < mk (rNote (put (rNum (sA S)) 584 i b (Int32.ofNat y) (sA S 984 + 1)) 2 (Int32.ofNat i) (Int32.ofNat b) (Int32.ofNat y)) := by rw [mk_note]; exact m1
          have hpr := sPr_le (I2.lt m2)
          refine ⟨Int32.ofNat (sPr (rNote (put (rNum (sA S)) 584 i b (Int32.ofNat y) (sA S 984 + 1)) 2 (Int32.ofNat i) (Int32.ofNat b) (Int32.ofNat y)) i), 0, uA (keepS S) (rNote (put (rNum (sA S)) 584 i b (Int32.ofNat y) (sA S 984 + 1)) 2 (Int32.ofNat i) (Int32.ofNat b) (Int32.ofNat y)), ⟨hS.keep.row I2 (by omega), rfl⟩, Or.inl ⟨io_ge0 (by omega), rfl⟩, fun σ hJ => ?_, fun τ hτ => ?_⟩
          · have hR := hJ.rep
            unfold fX7_tryBid
            refine wpE (zgR_e hJ.x hJ.xs) ?_
            refine wpE (zck_e hR.1.kS) ?_
            refine wpE (zb_e (has_y hJ v1)) ?_
            refine wpE (if_neg one_ne) ?_
            refine wpE (zb_e (isb_y w1)) ?_
            refine wpE (if_neg one_ne) ?_
            refine wpE (if_neg nx1) ?_
            refine wpE (if_neg nx2) ?_
            refine wpE (zgR_e hJ.x hJ.xs) ?_
            refine wpE (zgR_e hR.1.kS hR.1.r3) ?_
            refine wpE (zaRN_e hR.1.kO hR.1.lO hi20 (by decide) (hR.1.rL hi20)) ?_
            refine wpE (zck_e hJ.x) ?_
            obtain ⟨p0, e0, u0, F0⟩ := c_bidReason (n := n) hJ hI him hb (by omega) hy2
            refine wpE (zb2_e (v := p0.1) (s := p0.2) e0) ?_
            refine wpE (if_pos (u0.trans hr)) ?_
            have J0 := hJ.v F0
            refine wpE (zgR_e J0.x J0.xh) ?_
            refine wpE (zgR_e J0.x J0.xs) ?_
            refine wpE (zck_e J0.kh) ?_
            obtain ⟨σ1, e1, J1, F1⟩ := cw_keep (n := n) J0 hI.1 (by omega) hcc
            refine wpE (zb_e e1) ?_
            refine wpE (zgR_e J1.x J1.xs) ?_
            refine wpE (zck_e J1.rep.1.kS) ?_
            obtain ⟨p2, e2, u2, J2, F2⟩ := cw_num (n := n) J1
            refine wpE (zb2_e (v := p2.1) (s := p2.2) e2) ?_
            rw [u2]
            refine wpE (zck_e (J2.rep.1.kL hi20)) ?_
            obtain ⟨σ3, e3, J3, F3⟩ := cw_putB (n := n) (x := Int32.ofNat y) (y := sA (keepS S) 984 + 1) J2 hi20 hb
            refine wpE (zb_e e3) ?_
            refine wpE (zgR_e J3.x J3.xs) ?_
            refine wpE (zgR_e J3.rep.1.kS J3.rep.1.r4) ?_
            refine wpE (zck_e J3.rep.1.kG) ?_
            obtain ⟨σ4, e4, J4, F4⟩ := cw_note (n := n) (κ := 2) (l := Int32.ofNat i) (β := Int32.ofNat b) (x := Int32.ofNat y) J3 I1.1
            refine wpE (zb_e e4) ?_
            refine wpE (zgR_e J4.x J4.xv) ?_
            refine wpE (zgR_e J4.x J4.xs) ?_
            refine wpE (zgR_e J4.rep.1.kS J4.rep.1.r0) ?_
            refine wpE (zck_e J4.vw.kV) ?_
            obtain ⟨σ5, e5, J5, F5, st5⟩ := c_settleJ (n := n) J4 I2 m2 (by omega)
            refine wpE (zb_e e5) ?_
            refine wpE (zgR_e J5.x J5.xv) ?_
            refine wpE (zgR_e J5.x J5.xs) ?_
            refine wpE (zgR_e J5.rep.1.kS J5.rep.1.r0) ?_
            refine wpE (zck_e J5.vw.kV) ?_
            refine wpE (zb_e (c_priceJ J5 I2 m2 (by omega) st5)) ?_
            exact wp_some ⟨rfl, J5, (((((FC.v F0).trans F1).trans F2).trans F3).trans F4).trans (FC.v F5)⟩
          · have hT := Tr.one (k := 0) hτ
            have h1 := hT.2.2
            unfold fX8_bid
            refine wpE (zck_e hτ.k) ?_
            refine wpE (zb_e (jn_lot hτ v2)) ?_
            refine wpE (if_neg one_ne) ?_
            refine wpE (zb_e (jn_bid w2)) ?_
            refine wpE (if_neg one_ne) ?_
            refine wpE (zb_e (jn_in hx)) ?_
            refine wpE (if_neg one_ne) ?_
            unfold sX8_bid_35
            refine wpE (thr_set hτ) ?_
            refine wpE (if_pos rfl) ?_
            refine wpE (zck_e h1.k) ?_
            obtain ⟨p0, e0, u0, s0⟩ := j_bidRefusal (n := n) h1 hI him hb (by omega) hy2
            refine wpE (zb2_e (v := p0.1) (s := p0.2) e0) ?_
            refine wpE (if_pos (u0.trans hr)) ?_
            refine wpE (zck_e s0.1.k) ?_
            obtain ⟨τ1, e1, s1⟩ := jw_keep (n := n) s0.1 hn
            refine wpE (zb_e e1) ?_
            refine wpE (zck_e s1.1.k) ?_
            obtain ⟨p2, e2, u2, s2⟩ := jw_num (n := n) s1.1
            refine wpE (zb2_e (v := p2.1) (s := p2.2) e2) ?_
            rw [u2]
            refine wpE (zck_e s2.1.k) ?_
            obtain ⟨τ3, e3, s3⟩ := jw_putB (n := n) (x := Int32.ofNat y) (y := sA (keepS S) 984 + 1) s2.1 hi20 hb
            refine wpE (zb_e e3) ?_
            refine wpE (zck_e s3.1.k) ?_
            obtain ⟨τ4, e4, s4⟩ := jw_note (n := n) (κ := 2) (l := Int32.ofNat i) (β := Int32.ofNat b) (x := Int32.ofNat y) s3.1 I1.1
            refine wpE (zb_e e4) ?_
            refine wpE (zck_e s4.1.k) ?_
            obtain ⟨τ5, e5, s5, st5⟩ := j_standS (n := n) s4.1 I2 m2 (by omega)
            refine wpE (zb_e e5) ?_
            refine wpE (zgI_e s5.1.k st5.2.2.2) ?_
            have hF := Sm.thr hT (((((s0.tr s1).tr s2).tr s3).tr s4).tr s5)
            exact wp_some ⟨hF.1, fun _ => rfl, hF.2.2, hF.2.1⟩
        · refine ⟨-5, 3, uR S (rB (sA S) i b y), ⟨hS.mono (by omega), rfl⟩, Or.inr (Or.inr (Or.inr ⟨rfl, rfl⟩)), fun σ hJ => ?_, fun τ hτ => ?_⟩
          · have hR := hJ.rep
            unfold fX7_tryBid
            refine wpE (zgR_e hJ.x hJ.xs) ?_
            refine wpE (zck_e hR.1.kS) ?_
            refine wpE (zb_e (has_y hJ v1)) ?_
            refine wpE (if_neg one_ne) ?_
            refine wpE (zb_e (isb_y w1)) ?_
            refine wpE (if_neg one_ne) ?_
            refine wpE (if_neg nx1) ?_
            refine wpE (if_neg nx2) ?_
            refine wpE (zgR_e hJ.x hJ.xs) ?_
            refine wpE (zgR_e hR.1.kS hR.1.r3) ?_
            refine wpE (zaRN_e hR.1.kO hR.1.lO hi20 (by decide) (hR.1.rL hi20)) ?_
            refine wpE (zck_e hJ.x) ?_
            obtain ⟨p0, e0, u0, F0⟩ := c_bidReason (n := n) hJ hI him hb (by omega) hy2
            refine wpE (zb2_e (v := p0.1) (s := p0.2) e0) ?_
            rw [u0]
            refine wpE (if_neg hr) ?_
            have J0 := hJ.v F0
            refine wpE (zpI_e J0.x rfl) ?_
            have w1 := J0.uR (r := rB (sA S) i b y)
            exact wp_some ⟨rfl, w1.1, (FC.v F0).trans w1.2⟩
          · have hT := Tr.one (k := 0) hτ
            have h1 := hT.2.2
            unfold fX8_bid
            refine wpE (zck_e hτ.k) ?_
            refine wpE (zb_e (jn_lot hτ v2)) ?_
            refine wpE (if_neg one_ne) ?_
            refine wpE (zb_e (jn_bid w2)) ?_
            refine wpE (if_neg one_ne) ?_
            refine wpE (zb_e (jn_in hx)) ?_
            refine wpE (if_neg one_ne) ?_
            unfold sX8_bid_35
            refine wpE (thr_set hτ) ?_
            refine wpE (if_pos rfl) ?_
            refine wpE (zck_e h1.k) ?_
            obtain ⟨p0, e0, u0, s0⟩ := j_bidRefusal (n := n) h1 hI him hb (by omega) hy2
            refine wpE (zb2_e (v := p0.1) (s := p0.2) e0) ?_
            rw [u0]
            refine wpE (if_neg hr) ?_
            refine wpE (zpI_e s0.1.k rfl) ?_
            have s2 := s0.1.uR (r := rB (sA S) i b y)
            refine wpE (zck_e s2.1.k) ?_
            refine wpE (zb2_e (jn_fail s2.1)) ?_
            have hF := (Sm.thr hT (s0.tr s2)).then (Tr.one (k := 3) s2.1)
            exact wp_some ⟨hF.1, fun q => absurd q (by decide), hF.2.2, hF.2.1⟩
      · refine ⟨-2, 2, S, ⟨hS.mono (by omega), rfl⟩, Or.inr (Or.inr (Or.inl ⟨rfl, rfl⟩)), fun σ hJ => ?_, fun τ hτ => ?_⟩
        · have hR := hJ.rep
          unfold fX7_tryBid
          refine wpE (zgR_e hJ.x hJ.xs) ?_
          refine wpE (zck_e hR.1.kS) ?_
          refine wpE (zb_e (has_y hJ v1)) ?_
          refine wpE (if_neg one_ne) ?_
          refine wpE (zb_e (isb_y w1)) ?_
          refine wpE (if_neg one_ne) ?_
          unfold sX7_tryBid_31
          by_cases h1 : x < 1
          · exact wpE (if_pos h1) (wp_some ⟨rfl, Cw.refl hJ⟩)
          · refine wpE (if_neg h1) ?_
            refine wpE (if_pos ?_) (wp_some ⟨rfl, Cw.refl hJ⟩)
            by_cases h2 : 99999 < x
            · exact h2
            · exact absurd ⟨Int32.not_lt.mp h1, Int32.not_lt.mp h2⟩ hx
        · have hT := Tr.one (k := 2) hτ
          unfold fX8_bid
          refine wpE (zck_e hτ.k) ?_
          refine wpE (zb_e (jn_lot hτ v2)) ?_
          refine wpE (if_neg one_ne) ?_
          refine wpE (zb_e (jn_bid w2)) ?_
          refine wpE (if_neg one_ne) ?_
          refine wpE (zb_e (jn_in_x hx)) ?_
          refine wpE (if_pos rfl) ?_
          unfold sX8_bid_35
          refine wpE (thr_set hτ) ?_
          refine wpE (if_neg (by decide)) ?_
          exact wp_some ⟨hT.1, fun q => absurd q (by decide), hT.2.2, hT.2.1⟩
    · refine ⟨-1, 1, S, ⟨hS.mono (by omega), rfl⟩, Or.inr (Or.inl ⟨rfl, rfl⟩), fun σ hJ => ?_, fun τ hτ => ?_⟩
      · have hR := hJ.rep
        unfold fX7_tryBid
        refine wpE (zgR_e hJ.x hJ.xs) ?_
        refine wpE (zck_e hR.1.kS) ?_
        refine wpE (zb_e (has_y hJ v1)) ?_
        refine wpE (if_neg one_ne) ?_
        refine wpE (zb_e (isb_n w1)) ?_
        refine wpE (if_pos rfl) ?_
        exact wp_some ⟨rfl, Cw.refl hJ⟩
      · have hT := Tr.one (k := 1) hτ
        unfold fX8_bid
        refine wpE (zck_e hτ.k) ?_
        refine wpE (zb_e (jn_lot hτ v2)) ?_
        refine wpE (if_neg one_ne) ?_
        refine wpE (zb_e (jn_bid_x w2)) ?_
        refine wpE (if_pos rfl) ?_
        unfold sX8_bid_16 sX8_bid_35
        refine wpE (thr_set hτ) ?_
        refine wpE (if_neg (by decide)) ?_
        exact wp_some ⟨hT.1, fun q => absurd q (by decide), hT.2.2, hT.2.1⟩
  · refine ⟨-1, 1, S, ⟨hS.mono (by omega), rfl⟩, Or.inr (Or.inl ⟨rfl, rfl⟩), fun σ hJ => ?_, fun τ hτ => ?_⟩
    · have hR := hJ.rep
      unfold fX7_tryBid
      refine wpE (zgR_e hJ.x hJ.xs) ?_
      refine wpE (zck_e hR.1.kS) ?_
      refine wpE (zb_e (has_n hJ v1)) ?_
      refine wpE (if_pos rfl) ?_
      exact wp_some ⟨rfl, Cw.refl hJ⟩
    · have hT := Tr.one (k := 1) hτ
      unfold fX8_bid
      refine wpE (zck_e hτ.k) ?_
      refine wpE (zb_e (jn_lot_x hτ v2)) ?_
      refine wpE (if_pos rfl) ?_
      unfold sX8_bid_16 sX8_bid_35
      refine wpE (thr_set hτ) ?_
      refine wpE (if_neg (by decide)) ?_
      exact wp_some ⟨hT.1, fun q => absurd q (by decide), hT.2.2, hT.2.1⟩
end
