/-! CALLS THAT WRITE: lots, rows, credits, offers -/
theorem up_comm {a : Nat → Int32} {i j : Nat} {x y : Int32} (h : i ≠ j) : up (up a i x) j y = up (up a j y) i x := by
  funext k
  unfold up
  by_cases h1 : k = i
  · rw [if_pos h1, if_pos h1, if_neg (by omega)]
  · rw [if_neg h1, if_neg h1]
theorem nac_ge {g : Nat → Nat} {m i e : Nat} (h1 : i ≤ e) (h2 : e < i + m) : g e ≤ nac g i m := by
  have := nac_set (g := g) (g' := fun j => if j = e then 0 else g j) m i h1 h2 (fun j _ _ h => if_neg h)
  rw [if_pos rfl] at this
  omega
def Opn (a : Nat → Int32) : Prop := ∃ e, e < mk a ∧ a (24 + 8 * e + 3) = 1
theorem opn_pos {a : Nat → Int32} (hc : Cn a) : 0 < zsm (mk a) (fun i => if a (24 + 8 * i + 3) = 1 then 1 else 0) ↔ Opn a := by
  have hm := hc.2.1
  have e : zsm (mk a) (fun i => if a (24 + 8 * i + 3) = 1 then 1 else 0) = Int32.ofNat (nac (fun i => if a (24 + 8 * i + 3) = 1 then 1 else 0) 0 (mk a)) := zsm_nat (fun _ _ => by split <;> rfl)
  have hl := nac_le (g := fun i => if a (24 + 8 * i + 3) = 1 then 1 else 0) (M := 1) (mk a) 0 (fun j _ _ => by show (if _ then 1 else 0) ≤ 1; split <;> omega)
  rw [e, io_pos (by omega)]
  constructor
  · intro h
    refine Classical.byContradiction fun q => ?_
    have := nac_le (g := fun i => if a (24 + 8 * i + 3) = 1 then 1 else 0) (M := 0) (mk a) 0 (fun j _ hj => by
      show (if _ then 1 else 0) ≤ 0
      rw [if_neg (fun z => q ⟨j, by omega, z⟩)]
      omega)
    omega
  · rintro ⟨i, h1, h2⟩
    have := nac_ge (g := fun i => if a (24 + 8 * i + 3) = 1 then 1 else 0) (m := mk a) (i := 0) (e := i) (by omega) (by omega)
    have h3 : (if a (24 + 8 * i + 3) = 1 then 1 else 0) ≤ nac (fun i => if a (24 + 8 * i + 3) = 1 then 1 else 0) 0 (mk a) := this
    rw [if_pos h2] at h3
    omega
section
variable {σ τ : zW} {S S' : St} {c n B i : Nat}
theorem j_hasOpen_l (hτ : JR τ S) (hc : Cn (sA S)) : ∀ (m k i : Nat), i + m = mk (sA S) → m < k → (sX8_hasOpenLot_4 n τ k 125 1 (Int32.ofNat i) = some 1) ∧ ((∃ e, i ≤ e ∧ e < mk (sA S) ∧ sA S (24 + 8 * e + 3) = 1) → sX8_hasOpenLot_4 n τ k 125 0 (Int32.ofNat i) = some 1) ∧ (¬ (∃ e, i ≤ e ∧ e < mk (sA S) ∧ sA S (24 + 8 * e + 3) = 1) → sX8_hasOpenLot_4 n τ k 125 0 (Int32.ofNat i) = some 0)
  | m, 0, _, _, hk => absurd hk (by omega)
  | 0, k + 1, i, hi, hk => by
    obtain ⟨h23, hm, -, -⟩ := hc
    have hlt : ¬ Int32.ofNat i < sA S 23 := by rw [h23, io_lt (by omega) (by omega)]; omega
    have f : ∀ v, sX8_hasOpenLot_4 n τ (k + 1) 125 v (Int32.ofNat i) = if v = 0 ∨ v = 1 then some v else none := fun v => by
      rw [sX8_hasOpenLot_4]
      exact (zgR_e hτ.k hτ.w).trans ((zaW_e (j := 23) hτ rfl (by decide)).trans (if_neg hlt))
    refine ⟨(f 1).trans (if_pos (Or.inr rfl)), fun ⟨e, h1, h2, _⟩ => by omega, fun _ => (f 0).trans (if_pos (Or.inl rfl))⟩
  | m + 1, k + 1, i, hi, hk => by
    have hc' := hc
    obtain ⟨h23, hm, -, -⟩ := hc
    have hlt : Int32.ofNat i < sA S 23 := by rw [h23, io_lt (by omega) (by omega)]; omega
    obtain ⟨g1, g2, g3⟩ := j_hasOpen_l hτ hc' m k (i + 1) (by omega) (by omega)
    have i1 : Int32.ofNat i + 1 = Int32.ofNat (i + 1) := io_succ
    have hd : ∀ v, sX8_hasOpenLot_4 n τ (k + 1) 125 v (Int32.ofNat i) = if v = 0 then zck τ 9 125 (zb (fX8_at n 125 (Int32.ofNat i) 3 τ) fun x3 => if x3 = 1 then sX8_hasOpenLot_29 n τ (sX8_hasOpenLot_4 n τ k) 125 (Int32.ofNat i) else sX8_hasOpenLot_34 n τ (sX8_hasOpenLot_4 n τ k) 125 (Int32.ofNat i) 0) else sX8_hasOpenLot_29 n τ (sX8_hasOpenLot_4 n τ k) 125 (Int32.ofNat i) := fun v => by
      rw [sX8_hasOpenLot_4]
      exact (zgR_e hτ.k hτ.w).trans ((zaW_e (j := 23) hτ rfl (by decide)).trans (if_pos hlt))
    have e29 : sX8_hasOpenLot_29 n τ (sX8_hasOpenLot_4 n τ k) 125 (Int32.ofNat i) = some 1 := by
      unfold sX8_hasOpenLot_29 sX8_hasOpenLot_34
      rw [i1]
      exact g1
    have e34 : sX8_hasOpenLot_34 n τ (sX8_hasOpenLot_4 n τ k) 125 (Int32.ofNat i) 0 = sX8_hasOpenLot_4 n τ k 125 0 (Int32.ofNat (i + 1)) := by
      unfold sX8_hasOpenLot_34
      rw [i1]
    have h0 := (hd 0).trans ((if_pos rfl).trans ((zck_e hτ.k).trans (zb_e (j_at3 hτ (show i < 20 by omega)))))
    refine ⟨(hd 1).trans ((if_neg one_ne).trans e29), fun ⟨e, h1, h2, h3⟩ => ?_, fun hx => ?_⟩
    · by_cases h : sA S (24 + 8 * i + 3) = 1
      · exact h0.trans ((if_pos h).trans e29)
      · refine h0.trans ((if_neg h).trans (e34.trans (g2 ⟨e, ?_, h2, h3⟩)))
        by_cases q : e = i
        · rw [q] at h3; exact absurd h3 h
        · omega
    · have h : ¬ sA S (24 + 8 * i + 3) = 1 := fun q => hx ⟨i, by omega, by omega, q⟩
      exact h0.trans ((if_neg h).trans (e34.trans (g3 (fun ⟨e, h1, h2, h3⟩ => hx ⟨e, by omega, h2, h3⟩))))
theorem j_hasOpen (hτ : JR τ S) (hc : Cn (sA S)) (hn : 1000 < n) : (Opn (sA S) → fX8_hasOpenLot n 125 τ = some 1) ∧ (¬ Opn (sA S) → fX8_hasOpenLot n 125 τ = some 0) := by
  have hm := hc.2.1
  obtain ⟨g1, g2, g3⟩ := j_hasOpen_l (n := n) hτ hc (mk (sA S)) n 0 (by omega) (by omega)
  unfold fX8_hasOpenLot
  exact ⟨fun ⟨e, h1, h2⟩ => g2 ⟨e, by omega, h1, h2⟩, fun h => g3 (fun ⟨e, _, h1, h2⟩ => h ⟨e, h1, h2⟩)⟩
theorem fin_ok {v v' : Int32} {σ1 : zW} (hv : v = v') (h : Cw σ S' c σ1) : wp (some ((Sum.inl v : Int32 ⊕ Nat), σ1)) (fun r => ∃ σ2, r = (.inl v', σ2) ∧ JC σ2 S' c ∧ FC σ σ2) := wp_some ⟨σ1, by rw [hv], h.1, h.2⟩
theorem o_addLot (hJ : JC σ S c) (hW : zK σ 131 = 23 ∧ zL σ 131 = 1) (hS : SI S (100 * c)) (hcc : c ≤ 512) (hn : 30000 < n) (p q x : Int32) : OPR (fL_addLot n 4 p q x 131) (fX8_addLot n 125 p q x) σ S c := by
  have rm := hJ.room (by omega)
  have hR := hJ.rep
  have hI := hS.1
  have hC := hI.1
  have e23 := hC.1
  have hm := hC.2.1
  have rest : ∀ τ : zW, JR τ S → (¬ (0 ≤ p ∧ p ≤ 5) ∨ ¬ (1 ≤ q ∧ q ≤ 20) ∨ ¬ (0 ≤ x ∧ x ≤ 90000)) → wp (fX8_addLot n 125 p q x τ) (fun r => Tr τ S 1 r.2) := fun τ hτ h => by
    unfold fX8_addLot
    have fin : wp (sX8_addLot_30 n 125 p q x 125 τ) (fun r => Tr τ S 1 r.2) := by
      unfold sX8_addLot_30 sX8_addLot_51
      refine wpE (thr_set hτ) ?_
      refine wpE (if_neg (by decide)) ?_
      exact wp_some (Tr.one hτ)
    by_cases h1 : 0 ≤ p ∧ p ≤ 5
    · refine wpE (zb_e (jn_in h1)) ?_
      refine wpE (if_neg one_ne) ?_
      by_cases h2 : 1 ≤ q ∧ q ≤ 20
      · refine wpE (zb_e (jn_in h2)) ?_
        refine wpE (if_neg one_ne) ?_
        have h3 : ¬ (0 ≤ x ∧ x ≤ 90000) := by
          rcases h with h | h | h
          · exact absurd h1 h
          · exact absurd h2 h
          · exact h
        refine wpE (zb_e (jn_in_x h3)) ?_
        refine wpE (if_pos rfl) ?_
        exact fin
      · refine wpE (zb_e (jn_in_x h2)) ?_
        refine wpE (if_pos rfl) ?_
        exact fin
    · refine wpE (zb_e (jn_in_x h1)) ?_
      refine wpE (if_pos rfl) ?_
      exact fin
  by_cases h1 : 0 ≤ p ∧ p ≤ 5
  · by_cases h2 : 1 ≤ q ∧ q ≤ 20
    · by_cases h3 : 0 ≤ x ∧ x ≤ 90000
      · by_cases h4 : mk (sA S) = 20
        · have hr : 20 < sA S 23 + 1 := by rw [e23, h4]; decide
          refine o_thr (e := 3) (k := 2) (X := fX7_addLot n 4 _ _ _) hJ hS rfl (by decide) ?_ (fun τ hτ => ?_)
          · unfold fX7_addLot
            refine wpE (zbx_l (cn_in h1)) ?_
            refine wpE (zbx_l (cn_in h2)) ?_
            refine wpE (zbx_l (cn_in h3)) ?_
            refine wpE (zck_e hJ.x) ?_
            refine wpE (zbx_r (cn_room_x hJ rm hr)) ?_
            exact wp_some rfl
          · unfold fX8_addLot
            refine wpE (zb_e (jn_in h1)) ?_
            refine wpE (if_neg one_ne) ?_
            refine wpE (zb_e (jn_in h2)) ?_
            refine wpE (if_neg one_ne) ?_
            refine wpE (zb_e (jn_in h3)) ?_
            refine wpE (if_neg one_ne) ?_
            refine wpE (zgR_e hτ.k hτ.w) ?_
            refine wpE (zaW_e (j := 23) hτ rfl (by decide)) ?_
            refine wpE (if_pos (by rw [e23, h4]; rfl)) ?_
            unfold sX8_addLot_51
            refine wpE (thr_set hτ) ?_
            refine wpE (if_neg (by decide)) ?_
            exact wp_some (Tr.one hτ)
        · have hr : ¬ 20 < sA S 23 + 1 := by
            rw [e23, io_succ]
            refine Int32.not_lt.mpr ?_
            have : (Int32.ofNat (mk (sA S) + 1) ≤ Int32.ofNat 20) = (mk (sA S) + 1 ≤ 20) := io_le (by omega) (by decide)
            exact this.symm ▸ (show mk (sA S) + 1 ≤ 20 by omega)
          have hne : ¬ sA S 23 = 20 := by
            rw [e23]
            intro z
            have := io_nat (i := mk (sA S)) (by omega)
            rw [z] at this
            exact h4 this.symm
          obtain ⟨sl, rfl, -, hsl⟩ := in_cases 0 5 (by decide) (by decide) h1
          obtain ⟨qq, rfl, hq1, hq2⟩ := in_cases 1 20 (by decide) (by decide) h2
          obtain ⟨rr, rfl, -, hrr⟩ := in_cases 0 90000 (by decide) (by decide) h3
          have I1 := hI.make (by omega) hsl hq1 hq2 hrr
          refine o_ok (v := Int32.ofNat (mk (sA S))) (S' := uA (keepS S) (rMk (sA S) (Int32.ofNat sl) (Int32.ofNat qq) (Int32.ofNat rr))) (X := fX7_addLot n 4 _ _ _) hJ hW (hS.keep.row (I1.1.mono (by omega)) (by omega)) ?_ (fun τ hτ => ?_)
          · unfold fX7_addLot
            refine wpE (zbx_l (cn_in h1)) ?_
            refine wpE (zbx_l (cn_in h2)) ?_
            refine wpE (zbx_l (cn_in h3)) ?_
            refine wpE (zck_e hJ.x) ?_
            refine wpE (zbx_l (cn_room hJ hr)) ?_
            refine wpE (zgR_e hJ.x hJ.xh) ?_
            refine wpE (zgR_e hJ.x hJ.xs) ?_
            refine wpE (zck_e hJ.kh) ?_
            obtain ⟨σ1, e1, J1, F1⟩ := cw_keep (n := n) hJ hC (by omega) (by omega)
            refine wpE (zb_e e1) ?_
            refine wpE (zgR_e J1.x J1.xs) ?_
            refine wpE (zck_e J1.rep.1.kS) ?_
            obtain ⟨p2, e2, u2, w2⟩ := cw_mk (n := n) (sl := Int32.ofNat sl) (q := Int32.ofNat qq) (r := Int32.ofNat rr) J1 hC (by omega) (show mk (sA S) < 20 by omega)
            refine wpE (zb2_e (v := p2.1) (s := p2.2) e2) ?_
            exact fin_ok u2 (Cw.tr ⟨J1, F1⟩ w2)
          · have hT := Tr.one (k := 0) hτ
            have t1 := hT.2.2
            unfold fX8_addLot
            refine wpE (zb_e (jn_in h1)) ?_
            refine wpE (if_neg one_ne) ?_
            refine wpE (zb_e (jn_in h2)) ?_
            refine wpE (if_neg one_ne) ?_
            refine wpE (zb_e (jn_in h3)) ?_
            refine wpE (if_neg one_ne) ?_
            refine wpE (zgR_e hτ.k hτ.w) ?_
            refine wpE (zaW_e (j := 23) hτ rfl (by decide)) ?_
            refine wpE (if_neg hne) ?_
            unfold sX8_addLot_51
            refine wpE (thr_set hτ) ?_
            refine wpE (if_pos rfl) ?_
            refine wpE (zck_e t1.k) ?_
            obtain ⟨τ1, e1, s1⟩ := jw_keep (n := n) t1 hn
            refine wpE (zb_e e1) ?_
            refine wpE (zck_e s1.1.k) ?_
            obtain ⟨p2, e2, u2, s2⟩ := jw_mk (n := n) (sl := Int32.ofNat sl) (q := Int32.ofNat qq) (r := Int32.ofNat rr) s1.1 hC (by omega) (show mk (sA S) < 20 by omega)
            refine wpE (zb2_e (v := p2.1) (s := p2.2) e2) ?_
            exact wp_some ⟨u2, Sm.thr hT (s1.tr s2)⟩
      · refine o_thr (e := 2) (k := 1) (X := fX7_addLot n 4 _ _ _) hJ hS rfl (by decide) ?_ (fun τ hτ => rest τ hτ (Or.inr (Or.inr h3)))
        unfold fX7_addLot
        refine wpE (zbx_l (cn_in h1)) ?_
        refine wpE (zbx_l (cn_in h2)) ?_
        refine wpE (zbx_r (cn_in_x rm h3)) ?_
        exact wp_some rfl
    · refine o_thr (e := 2) (k := 1) (X := fX7_addLot n 4 _ _ _) hJ hS rfl (by decide) ?_ (fun τ hτ => rest τ hτ (Or.inr (Or.inl h2)))
      unfold fX7_addLot
      refine wpE (zbx_l (cn_in h1)) ?_
      refine wpE (zbx_r (cn_in_x rm h2)) ?_
      exact wp_some rfl
  · refine o_thr (e := 2) (k := 1) (X := fX7_addLot n 4 _ _ _) hJ hS rfl (by decide) ?_ (fun τ hτ => rest τ hτ (Or.inl h1))
    unfold fX7_addLot
    refine wpE (zbx_r (cn_in_x rm h1)) ?_
    exact wp_some rfl
theorem o_setCredit (hJ : JC σ S c) (hW : zK σ 131 = 23 ∧ zL σ 131 = 1) (hS : SI S (100 * c)) (hcc : c ≤ 512) (hn : 30000 < n) (q x : Int32) : OPR (fL_setCredit n 4 q x 131) (fX8_setCredit n 125 q x) σ S c := by
  have rm := hJ.room (by omega)
  have hI := hS.1
  rcases bid_cases q with ⟨b, rfl, hb, w1, w2⟩ | ⟨w1, w2⟩
  · by_cases h3 : 0 ≤ x ∧ x ≤ 999999
    · have I1 : Inv (up (sA S) (13 + b) x) (100 * c) := hI.free (Or.inl ⟨by omega, by omega⟩)
      refine o_ok (v := sA S (13 + b)) (S' := uA (keepS S) (up (sA S) (13 + b) x)) (X := fX7_setCredit n 4 _ _) hJ hW (hS.keep.row (I1.mono (by omega)) (by omega)) ?_ (fun τ hτ => ?_)
      · unfold fX7_setCredit
        refine wpE (zbx_l (cn_bid w1)) ?_
        refine wpE (zbx_l (cn_in h3)) ?_
        refine wpE (zgR_e hJ.x hJ.xh) ?_
        refine wpE (zgR_e hJ.x hJ.xs) ?_
        refine wpE (zck_e hJ.kh) ?_
        obtain ⟨σ1, e1, J1, F1⟩ := cw_keep (n := n) hJ hI.1 (by omega) (by omega)
        have R1 := J1.rep
        refine wpE (zb_e e1) ?_
        refine wpE (zgR_e J1.x J1.xs) ?_
        refine wpE (zgR_e R1.1.kS R1.1.r1) ?_
        refine wpE (zaN_e R1.1.kR R1.1.lR hb (by decide) (R1.crd hb)) ?_
        refine wpE (zgR_e J1.x J1.xs) ?_
        refine wpE (zgR_e R1.1.kS R1.1.r1) ?_
        refine wpE (zsN_e R1.1.kR R1.1.lR hb (by decide) rfl) ?_
        exact fin_ok rfl (Cw.tr ⟨J1, F1⟩ (cw_at (o := 4) (k := b) J1 (by decide) (by omega) (slo_crd hb) (by omega) (by omega)))
      · have hT := Tr.one (k := 0) hτ
        have t1 := hT.2.2
        unfold fX8_setCredit
        refine wpE (zb_e (jn_bid w2)) ?_
        refine wpE (if_neg one_ne) ?_
        refine wpE (zb_e (jn_in h3)) ?_
        refine wpE (if_neg one_ne) ?_
        unfold sX8_setCredit_27
        refine wpE (thr_set hτ) ?_
        refine wpE (if_pos rfl) ?_
        refine wpE (zck_e t1.k) ?_
        obtain ⟨τ1, e1, s1⟩ := jw_keep (n := n) t1 hn
        refine wpE (zb_e e1) ?_
        refine wpE (zgR_e s1.1.k s1.1.w) ?_
        refine wpE (zaW_e (j := 13 + b) s1.1 iy13 (by omega)) ?_
        refine wpE (zgR_e s1.1.k s1.1.w) ?_
        refine jw_st (j := 13 + b) s1.1 iy13 (by omega) (fun s2 => ?_)
        exact wp_some ⟨rfl, Sm.thr hT (s1.tr s2)⟩
    · refine o_thr (e := 2) (k := 2) (X := fX7_setCredit n 4 _ _) hJ hS rfl (by decide) ?_ (fun τ hτ => ?_)
      · unfold fX7_setCredit
        refine wpE (zbx_l (cn_bid w1)) ?_
        refine wpE (zbx_r (cn_in_x rm h3)) ?_
        exact wp_some rfl
      · unfold fX8_setCredit
        refine wpE (zb_e (jn_bid w2)) ?_
        refine wpE (if_neg one_ne) ?_
        refine wpE (zb_e (jn_in_x h3)) ?_
        refine wpE (if_pos rfl) ?_
        unfold sX8_setCredit_27
        refine wpE (thr_set hτ) ?_
        refine wpE (if_neg (by decide)) ?_
        exact wp_some (Tr.one hτ)
  · refine o_thr (e := 1) (k := 1) (X := fX7_setCredit n 4 _ _) hJ hS rfl (by decide) ?_ (fun τ hτ => ?_)
    · unfold fX7_setCredit
      refine wpE (zbx_r (cn_bid_x rm w1)) ?_
      exact wp_some rfl
    · unfold fX8_setCredit
      refine wpE (zb_e (jn_bid_x w2)) ?_
      refine wpE (if_pos rfl) ?_
      unfold sX8_setCredit_27
      refine wpE (thr_set hτ) ?_
      refine wpE (if_neg (by decide)) ?_
      exact wp_some (Tr.one hτ)
theorem o_offer (hJ : JC σ S c) (hW : zK σ 131 = 23 ∧ zL σ 131 = 1) (hS : SI S (100 * c)) (hcc : c ≤ 512) (hn : 30000 < n) (p x : Int32) : OPR (fL_offer n 4 p x 131) (fX8_offer n 125 p x) σ S c := by
  have rm := hJ.room (by omega)
  have hR := hJ.rep
  have hI := hS.1
  rcases lot_cases hI.1 p with ⟨i, rfl, him, hi20, v1, v2⟩ | ⟨v1, v2⟩
  · obtain ⟨l2, l2'⟩ := (hI.lt him).1
    have hx1 : (0 ≤ x ∧ x ≤ sA S (24 + 8 * i + 2) - 1) ↔ (0 ≤ x ∧ x < sA S (24 + 8 * i + 2)) := by
      constructor
      · rintro ⟨h1, h2⟩
        refine ⟨h1, ?_⟩
        obtain ⟨k, rfl, hk, -⟩ := io_of h1
        rw [l2] at h2 ⊢
        by_cases z : qR (sA S) i = 0
        · rw [z] at h2
          have : (0 : Int32) ≤ Int32.ofNat 0 - 1 := Int32.le_trans h1 h2
          exact absurd this (by decide)
        · rw [io_one (by omega), io_le hk (by omega)] at h2
          rw [io_lt hk (by omega)]
          omega
      · rintro ⟨h1, h2⟩
        refine ⟨h1, ?_⟩
        obtain ⟨k, rfl, hk, -⟩ := io_of h1
        rw [l2] at h2 ⊢
        rw [io_lt hk (by omega)] at h2
        rw [io_one (by omega), io_le hk (by omega)]
        omega
    by_cases hx : 0 ≤ x ∧ x < sA S (24 + 8 * i + 2)
    · have hxx := hx1.mpr hx
      by_cases h3 : sA S (24 + 8 * i + 3) = 3
      · have I1 : Inv (up (up (sA S) (24 + 8 * i + 2) x) (24 + 8 * i + 3) 0) (100 * c) := by
          obtain ⟨k, rfl, hk, -⟩ := io_of hx.1
          have h2 := hx.2
          rw [l2, io_lt hk (by omega)] at h2
          refine hI.flds him (fun j hj => ?_) ⟨k, by omega, ?_⟩ (fun z => ?_)
          · rw [up_ne (by omega), up_ne (by omega)]
          · rw [up_ne (by omega), up_self]
          · rw [up_self] at z
            exact absurd z (by decide)
        have m1 : i < mk (up (up (sA S) (24 + 8 * i + 2) x) (24 + 8 * i + 3) 0) := by rw [mk_up (by omega), mk_up (by omega)]; exact him
        have I2 := I1.note (κ := 8) (l := Int32.ofNat i) (β := -1) (x := x) rfl m1
        refine o_ok (v := sA S (24 + 8 * i + 2)) (S' := uA (keepS S) (rNote (up (up (sA S) (24 + 8 * i + 2) x) (24 + 8 * i + 3) 0) 8 (Int32.ofNat i) (-1) x)) (X := fX7_offer n 4 _ _) hJ hW (hS.keep.row (I2.mono (by omega)) (by omega)) ?_ (fun τ hτ => ?_)
        · unfold fX7_offer
          refine wpE (zck_e hJ.x) ?_
          refine wpE (zbx_l (cn_lot hJ v1)) ?_
          refine wpE (zgR_e hJ.x hJ.xs) ?_
          refine wpE (zgR_e hR.1.kS hR.1.r3) ?_
          refine wpE (zaRN_e hR.1.kO hR.1.lO hi20 (by decide) (hR.1.rL hi20)) ?_
          refine wpE (zgI_e (hR.1.kL hi20) (hR.l2 hi20 him)) ?_
          refine wpE (zbx_l (cn_in hxx)) ?_
          refine wpE (zbx_l (cn_st hJ him hi20 h3)) ?_
          refine wpE (zgR_e hJ.x hJ.xh) ?_
          refine wpE (zgR_e hJ.x hJ.xs) ?_
          refine wpE (zck_e hJ.kh) ?_
          obtain ⟨σ1, e1, J1, F1⟩ := cw_keep (n := n) hJ hI.1 (by omega) (by omega)
          refine wpE (zb_e e1) ?_
          refine wpE (zpI_e (J1.rep.1.kL hi20) rfl) ?_
          have w2 := cw_fld (x := x) J1 hi20 (by omega) (slo_l2 hi20) (by omega) (by omega)
          refine wpE (zpI_e (w2.1.rep.1.kL hi20) rfl) ?_
          have w3 := cw_fld (x := 0) w2.1 hi20 (by omega) (slo_l3 hi20) (by omega) (by omega)
          have J3 := w3.1
          refine wpE (zgR_e J3.x J3.xs) ?_
          refine wpE (zgR_e J3.rep.1.kS J3.rep.1.r4) ?_
          refine wpE (zck_e J3.rep.1.kG) ?_
          obtain ⟨σ4, e4, w4⟩ := cw_note (n := n) (κ := 8) (l := Int32.ofNat i) (β := -1) (x := x) J3 I1.1
          refine wpE (zb_e e4) ?_
          exact fin_ok rfl ((((Cw.tr ⟨J1, F1⟩ w2)).tr w3).tr w4)
        · have hT := Tr.one (k := 0) hτ
          have t1 := hT.2.2
          unfold fX8_offer
          refine wpE (zck_e hτ.k) ?_
          refine wpE (zb_e (jn_lot hτ v2)) ?_
          refine wpE (if_neg one_ne) ?_
          refine wpE (if_neg (Int32.not_lt.mpr hx.1)) ?_
          refine wpE (zck_e hτ.k) ?_
          refine wpE (zb_e (j_at2 hτ hi20)) ?_
          refine wpE (if_pos hx.2) ?_
          refine wpE (zck_e hτ.k) ?_
          refine wpE (zb_e (j_at3 hτ hi20)) ?_
          refine wpE (if_pos h3) ?_
          unfold sX8_offer_46
          refine wpE (thr_set hτ) ?_
          refine wpE (if_pos rfl) ?_
          refine wpE (zck_e t1.k) ?_
          obtain ⟨τ1, e1, s1⟩ := jw_keep (n := n) t1 hn
          refine wpE (zb_e e1) ?_
          refine wpE (zck_e s1.1.k) ?_
          refine wpE (zb_e (j_at2 s1.1 hi20)) ?_
          refine wpE (zck_e s1.1.k) ?_
          obtain ⟨τ2, e2, s2⟩ := jw_set (n := n) (p := 2) (x := x) s1.1 hi20 (by decide)
          refine wpE (zb_e e2) ?_
          refine wpE (zck_e s2.1.k) ?_
          obtain ⟨τ3, e3, s3⟩ := jw_set (n := n) (p := 3) (x := 0) s2.1 hi20 (by decide)
          refine wpE (zb_e e3) ?_
          refine wpE (zck_e s3.1.k) ?_
          obtain ⟨τ4, e4, s4⟩ := jw_note (n := n) (κ := 8) (l := Int32.ofNat i) (β := -1) (x := x) s3.1 I1.1
          refine wpE (zb_e e4) ?_
          exact wp_some ⟨rfl, Sm.thr hT (((s1.tr s2).tr s3).tr s4)⟩
      · refine o_thr (e := 3) (k := 3) (X := fX7_offer n 4 _ _) hJ hS rfl (by decide) ?_ (fun τ hτ => ?_)
        · unfold fX7_offer
          refine wpE (zck_e hJ.x) ?_
          refine wpE (zbx_l (cn_lot hJ v1)) ?_
          refine wpE (zgR_e hJ.x hJ.xs) ?_
          refine wpE (zgR_e hR.1.kS hR.1.r3) ?_
          refine wpE (zaRN_e hR.1.kO hR.1.lO hi20 (by decide) (hR.1.rL hi20)) ?_
          refine wpE (zgI_e (hR.1.kL hi20) (hR.l2 hi20 him)) ?_
          refine wpE (zbx_l (cn_in hxx)) ?_
          refine wpE (zbx_r (cn_st_x hJ rm him hi20 h3)) ?_
          exact wp_some rfl
        · unfold fX8_offer
          refine wpE (zck_e hτ.k) ?_
          refine wpE (zb_e (jn_lot hτ v2)) ?_
          refine wpE (if_neg one_ne) ?_
          refine wpE (if_neg (Int32.not_lt.mpr hx.1)) ?_
          refine wpE (zck_e hτ.k) ?_
          refine wpE (zb_e (j_at2 hτ hi20)) ?_
          refine wpE (if_pos hx.2) ?_
          refine wpE (zck_e hτ.k) ?_
          refine wpE (zb_e (j_at3 hτ hi20)) ?_
          refine wpE (if_neg h3) ?_
          unfold sX8_offer_46
          refine wpE (thr_set hτ) ?_
          refine wpE (if_neg (by decide)) ?_
          exact wp_some (Tr.one hτ)
    · refine o_thr (e := 2) (k := 2) (X := fX7_offer n 4 _ _) hJ hS rfl (by decide) ?_ (fun τ hτ => ?_)
      · unfold fX7_offer
        refine wpE (zck_e hJ.x) ?_
        refine wpE (zbx_l (cn_lot hJ v1)) ?_
        refine wpE (zgR_e hJ.x hJ.xs) ?_
        refine wpE (zgR_e hR.1.kS hR.1.r3) ?_
        refine wpE (zaRN_e hR.1.kO hR.1.lO hi20 (by decide) (hR.1.rL hi20)) ?_
        refine wpE (zgI_e (hR.1.kL hi20) (hR.l2 hi20 him)) ?_
        refine wpE (zbx_r (cn_in_x rm (fun q => hx (hx1.mp q)))) ?_
        exact wp_some rfl
      · unfold fX8_offer
        refine wpE (zck_e hτ.k) ?_
        refine wpE (zb_e (jn_lot hτ v2)) ?_
        refine wpE (if_neg one_ne) ?_
        have fin : wp (sX8_offer_27 n 125 (Int32.ofNat i) x 125 τ) (fun r => Tr τ S 2 r.2) := by
          unfold sX8_offer_27 sX8_offer_46
          refine wpE (thr_set hτ) ?_
          refine wpE (if_neg (by decide)) ?_
          exact wp_some (Tr.one hτ)
        by_cases h0 : x < 0
        · refine wpE (if_pos h0) ?_
          exact fin
        · refine wpE (if_neg h0) ?_
          refine wpE (zck_e hτ.k) ?_
          refine wpE (zb_e (j_at2 hτ hi20)) ?_
          refine wpE (if_neg (fun z => hx ⟨Int32.not_lt.mp h0, z⟩)) ?_
          exact fin
  · refine o_thr (e := 1) (k := 1) (X := fX7_offer n 4 _ _) hJ hS rfl (by decide) ?_ (fun τ hτ => ?_)
    · unfold fX7_offer
      refine wpE (zck_e hJ.x) ?_
      refine wpE (zbx_r (cn_lot_x hJ rm v1)) ?_
      exact wp_some rfl
    · unfold fX8_offer
      refine wpE (zck_e hτ.k) ?_
      refine wpE (zb_e (jn_lot_x hτ v2)) ?_
      refine wpE (if_pos rfl) ?_
      unfold sX8_offer_46
      refine wpE (thr_set hτ) ?_
      refine wpE (if_neg (by decide)) ?_
      exact wp_some (Tr.one hτ)
theorem o_setRows (hJ : JC σ S c) (hW : zK σ 131 = 23 ∧ zL σ 131 = 1) (hS : SI S (100 * c)) (hcc : c ≤ 512) (hn : 30000 < n) (p x y : Int32) : OPR (fL_setRows n 4 p x y 131) (fX8_setRows n 125 p x y) σ S c := by
  have rm := hJ.room (by omega)
  have hR := hJ.rep
  have hI := hS.1
  have hC := hI.1
  obtain ⟨t1, t2, t3, t4⟩ := hI.2.1.1
  by_cases hp : (0 ≤ p ∧ p ≤ 5) ∧ ¬ sA S 0 < p
  · obtain ⟨r, rfl, -, hr⟩ := in_cases 0 5 (by decide) (by decide) hp.1
    have hp6 : Int32.ofNat r < 6 := by
      have : (Int32.ofNat r < Int32.ofNat 6) = (r < 6) := io_lt (by omega) (by decide)
      exact this.symm ▸ (show r < 6 by omega)
    have hrt : r ≤ tR (sA S) := by
      have := hp.2
      rw [t1, io_lt (by omega) (by omega)] at this
      omega
    have hr0 : (Int32.ofNat r = 0) ↔ r = 0 := ⟨fun z => by have := io_nat (i := r) (by omega); rw [z] at this; exact this.symm, fun z => by rw [z]; rfl⟩
    -- the class: may the row follow
    let fol : Prop := (r = 0 ∧ x = 0) ∨ (1 ≤ r ∧ sA S (1 + (r - 1)) < x)
    have cf1 : fol → fX5_canFollow n 6 (Int32.ofNat r) x σ = some 1 := fun h => by
      unfold fX5_canFollow
      rcases h with ⟨g1, g2⟩ | ⟨g1, g2⟩
      · exact (if_pos (hr0.mpr g1)).trans ((if_pos g2).trans (if_pos (Or.inr rfl)))
      · refine (if_neg (fun z => by have := hr0.mp z; omega)).trans ((zgR_e hR.1.kT hR.1.rT0).trans ?_)
        rw [io_one g1]
        exact (zaN_e hR.1.kB hR.1.lB (show r - 1 < 6 by omega) (by decide) (hR.bnd (by omega))).trans ((if_pos g2).trans (if_pos (Or.inr rfl)))
    have cf0 : ¬ fol → fX5_canFollow n 6 (Int32.ofNat r) x σ = some 0 := fun h => by
      unfold fX5_canFollow
      by_cases g : r = 0
      · exact (if_pos (hr0.mpr g)).trans ((if_neg (fun z => h (Or.inl ⟨g, z⟩))).trans (if_pos (Or.inl rfl)))
      · refine (if_neg (fun z => g (hr0.mp z))).trans ((zgR_e hR.1.kT hR.1.rT0).trans ?_)
        rw [io_one (by omega)]
        exact (zaN_e hR.1.kB hR.1.lB (show r - 1 < 6 by omega) (by decide) (hR.bnd (by omega))).trans ((if_neg (fun z => h (Or.inr ⟨by omega, z⟩))).trans (if_pos (Or.inl rfl)))
    -- the reference comes to the same question
    have head : ∀ (τ : zW) (Q : Int32 × zW → Prop), JR τ S → (fol → wp (sX8_setRows_65 n 125 (Int32.ofNat r) x y 1 (stI τ 125 0 0)) Q) → (¬ fol → wp (sX8_setRows_65 n 125 (Int32.ofNat r) x y 0 (stI τ 125 0 0)) Q) → wp (fX8_setRows n 125 (Int32.ofNat r) x y τ) Q := fun τ Q hτ q1 q0 => by
      have h2 := (Tr.one (k := 0) hτ).2.2
      unfold fX8_setRows
      refine wpE (zpI_e hτ.k rfl) ?_
      refine wpE (zb_e (jn_in hp.1)) ?_
      refine wpE (if_neg one_ne) ?_
      refine wpE (zgR_e h2.k h2.w) ?_
      refine wpE (zaW_e (j := 0) h2 rfl (by decide)) ?_
      refine wpE (if_neg hp.2) ?_
      by_cases g : r = 0
      · refine wpE (if_pos (hr0.mpr g)) ?_
        by_cases g2 : x = 0
        · exact wpE (if_pos g2) (q1 (Or.inl ⟨g, g2⟩))
        · exact wpE (if_neg g2) (q0 (fun z => by rcases z with z | z; exact g2 z.2; omega))
      · have e1 : (1 + Int32.ofNat r) - 1 = Int32.ofNat (1 + (r - 1)) := by rw [iy1, io_one (by omega)]; congr 1; omega
        refine wpE (if_neg (fun z => g (hr0.mp z))) ?_
        refine wpE (zgR_e h2.k h2.w) ?_
        refine wpE (zaW_e (j := 1 + (r - 1)) h2 e1 (by omega)) ?_
        by_cases g2 : sA S (1 + (r - 1)) < x
        · exact wpE (if_pos g2) (q1 (Or.inr ⟨by omega, g2⟩))
        · exact wpE (if_neg g2) (q0 (fun z => by rcases z with z | z; omega; exact g2 z.2))
    by_cases hb : (0 ≤ x ∧ x ≤ 90000) ∧ (1 ≤ y ∧ y ≤ 5000)
    · by_cases hf : fol
      · by_cases ho : Opn (sA S)
        · refine o_thr (e := 3) (k := 3) (X := fX7_setRows n 4 _ _ _) hJ hS rfl (by decide) ?_ (fun τ hτ => head τ _ hτ (fun _ => ?_) (fun z => absurd hf z))
          · unfold fX7_setRows
            refine wpE (if_neg (Int32.not_lt.mpr hp.1.1)) ?_
            refine wpE (if_pos hp6) ?_
            refine wpE (zgR_e hJ.x hJ.xs) ?_
            refine wpE (zgR_e hR.1.kS hR.1.r0) ?_
            refine wpE (zgI_e hR.1.kT hR.rows) ?_
            refine wpE (if_neg hp.2) ?_
            refine wpE (zbx_l (cn_in hb.1)) ?_
            refine wpE (zbx_l (cn_in hb.2)) ?_
            refine wpE (zgR_e hJ.x hJ.xs) ?_
            refine wpE (zgR_e hR.1.kS hR.1.r0) ?_
            refine wpE (zck_e hR.1.kT) ?_
            refine wpE (zb_e (cf1 hf)) ?_
            refine wpE (if_neg one_ne) ?_
            refine wpE (zgR_e hJ.x hJ.xs) ?_
            refine wpE (zck_e hR.1.kS) ?_
            refine wpE (zb_e (c_lotsIn hR hC (by omega) 1)) ?_
            refine wpE (if_pos ((opn_pos hC).mpr ho)) ?_
            refine wpE (zth_e rm.1 rm.2) ?_
            exact wp_some rfl
          · have h2 := (Tr.one (k := 0) hτ).2.2
            unfold sX8_setRows_65
            refine wpE (zb_e (jn_in hb.1)) ?_
            refine wpE (if_neg one_ne) ?_
            refine wpE (zb_e (jn_in hb.2)) ?_
            refine wpE (if_neg one_ne) ?_
            refine wpE (if_neg one_ne) ?_
            refine wpE (zck_e h2.k) ?_
            refine wpE (zb_e ((j_hasOpen h2 hC (by omega)).1 ho)) ?_
            refine wpE (if_neg one_ne) ?_
            refine wpE (zck_e h2.k) ?_
            refine wpE (zb2_e (jn_fail h2)) ?_
            exact wp_some (Tr.two hτ)
        · obtain ⟨xx, rfl, -, hxx⟩ := in_cases 0 90000 (by decide) (by decide) hb.1
          obtain ⟨yy, rfl, hy1, hy2⟩ := in_cases 1 5000 (by decide) (by decide) hb.2
          have I1 : Inv (rRow (sA S) r (Int32.ofNat xx) (Int32.ofNat yy)) (100 * c) := hI.rows hr hrt hxx hy1 hy2 (by
            rcases hf with ⟨g1, g2⟩ | ⟨g1, g2⟩
            · refine Or.inl ⟨g1, ?_⟩
              have := io_nat (i := xx) (by omega)
              rw [g2] at this
              exact this.symm
            · refine Or.inr ⟨g1, ?_⟩
              obtain ⟨b1, b2, -⟩ := hI.2.1.2.1 (r - 1) (by omega)
              rw [b1, io_lt (by omega) (by omega)] at g2
              exact g2)
          refine o_ok (v := Int32.ofNat (r + 1)) (S' := uA (keepS S) (rRow (sA S) r (Int32.ofNat xx) (Int32.ofNat yy))) (X := fX7_setRows n 4 _ _ _) hJ hW (hS.keep.row (I1.mono (by omega)) (by omega)) ?_ (fun τ hτ => head τ _ hτ (fun _ => ?_) (fun z => absurd hf z))
          · unfold fX7_setRows
            refine wpE (if_neg (Int32.not_lt.mpr hp.1.1)) ?_
            refine wpE (if_pos hp6) ?_
            refine wpE (zgR_e hJ.x hJ.xs) ?_
            refine wpE (zgR_e hR.1.kS hR.1.r0) ?_
            refine wpE (zgI_e hR.1.kT hR.rows) ?_
            refine wpE (if_neg hp.2) ?_
            refine wpE (zbx_l (cn_in hb.1)) ?_
            refine wpE (zbx_l (cn_in hb.2)) ?_
            refine wpE (zgR_e hJ.x hJ.xs) ?_
            refine wpE (zgR_e hR.1.kS hR.1.r0) ?_
            refine wpE (zck_e hR.1.kT) ?_
            refine wpE (zb_e (cf1 hf)) ?_
            refine wpE (if_neg one_ne) ?_
            refine wpE (zgR_e hJ.x hJ.xs) ?_
            refine wpE (zck_e hR.1.kS) ?_
            refine wpE (zb_e (c_lotsIn hR hC (by omega) 1)) ?_
            refine wpE (if_neg (fun z => ho ((opn_pos hC).mp z))) ?_
            refine wpE (zgR_e hJ.x hJ.xh) ?_
            refine wpE (zgR_e hJ.x hJ.xs) ?_
            refine wpE (zck_e hJ.kh) ?_
            obtain ⟨σ1, e1, J1, F1⟩ := cw_keep (n := n) hJ hI.1 (by omega) (by omega)
            have R1 := J1.rep
            refine wpE (zb_e e1) ?_
            refine wpE (zgR_e J1.x J1.xs) ?_
            refine wpE (zgR_e R1.1.kS R1.1.r0) ?_
            refine wpE (zck_e R1.1.kT) ?_
            have w2 := cw_at (x := Int32.ofNat xx) (o := 2) (k := r) J1 (by decide) (by omega) (slo_bnd (show r < 6 by omega)) (by omega) (by omega)
            have w3 := cw_at (x := Int32.ofNat yy) (o := 3) (k := r) w2.1 (by decide) (by omega) (slo_inc (show r < 6 by omega)) (by omega) (by omega)
            have w4 := cw_at (x := Int32.ofNat (r + 1)) (o := 1) (k := 2) w3.1 (by decide) (by omega) slo_rows (by omega) (by omega)
            have R2 := w2.1.rep
            have R3 := w3.1.rep
            have R4 := w4.1.rep
            have es : fX5_putLast n (5 + 1) (Int32.ofNat r) (Int32.ofNat xx) (Int32.ofNat yy) σ1 = some (stI (stI (stI σ1 (5 + 2) r (Int32.ofNat xx)) (5 + 3) r (Int32.ofNat yy)) (5 + 1) 2 (Int32.ofNat (r + 1))) := by
              unfold fX5_putLast
              refine (zgR_e R1.1.kT R1.1.rT0).trans ?_
              refine (zsN_e R1.1.kB R1.1.lB (show r < 6 by omega) (by decide) rfl).trans ?_
              refine (zgR_e R2.1.kT R2.1.rT1).trans ?_
              refine (zsN_e R2.1.kC R2.1.lC (show r < 6 by omega) (by decide) rfl).trans ?_
              exact zpI_e R3.1.kT io_succ
            refine wpE (zb_e es) ?_
            refine wpE (zgR_e w4.1.x w4.1.xs) ?_
            refine wpE (zgR_e R4.1.kS R4.1.r0) ?_
            refine wpE (zgI_e R4.1.kT R4.rows) ?_
            exact fin_ok (up_self (a := up (up (sA S) (1 + r) (Int32.ofNat xx)) (7 + r) (Int32.ofNat yy)) (j := 0) (v := Int32.ofNat (r + 1))) (((Cw.tr ⟨J1, F1⟩ w2).tr w3).tr w4)
          · have hT := Tr.one (k := 0) hτ
            have h2 := hT.2.2
            unfold sX8_setRows_65
            refine wpE (zb_e (jn_in hb.1)) ?_
            refine wpE (if_neg one_ne) ?_
            refine wpE (zb_e (jn_in hb.2)) ?_
            refine wpE (if_neg one_ne) ?_
            refine wpE (if_neg one_ne) ?_
            refine wpE (zck_e h2.k) ?_
            refine wpE (zb_e ((j_hasOpen h2 hC (by omega)).2 ho)) ?_
            refine wpE (if_pos rfl) ?_
            refine wpE (zck_e h2.k) ?_
            obtain ⟨τ1, e1, s1⟩ := jw_keep (n := n) h2 hn
            refine wpE (zb_e e1) ?_
            refine wpE (zgR_e s1.1.k s1.1.w) ?_
            refine jw_st (j := 0) s1.1 rfl (by omega) (fun s2 => ?_)
            refine wpE (zgR_e s2.1.k s2.1.w) ?_
            refine jw_st (j := 1 + r) s2.1 iy1 (by omega) (fun s3 => ?_)
            refine wpE (zgR_e s3.1.k s3.1.w) ?_
            refine jw_st (j := 7 + r) s3.1 iy7 (by omega) (fun s4 => ?_)
            have hF := Sm.thr hT (((s1.tr s2).tr s3).tr s4)
            have er : up (up (up (sA S) 0 (Int32.ofNat r + 1)) (1 + r) (Int32.ofNat xx)) (7 + r) (Int32.ofNat yy) = rRow (sA S) r (Int32.ofNat xx) (Int32.ofNat yy) := by
              unfold rRow
              rw [io_succ, up_comm (i := 0) (j := 1 + r) (by omega), up_comm (i := 0) (j := 7 + r) (by omega)]
            refine wp_some ⟨io_succ, ?_⟩
            rw [← er]
            exact hF
      · refine o_thr (e := 2) (k := 2) (X := fX7_setRows n 4 _ _ _) hJ hS rfl (by decide) ?_ (fun τ hτ => head τ _ hτ (fun z => absurd z hf) (fun _ => ?_))
        · unfold fX7_setRows
          refine wpE (if_neg (Int32.not_lt.mpr hp.1.1)) ?_
          refine wpE (if_pos hp6) ?_
          refine wpE (zgR_e hJ.x hJ.xs) ?_
          refine wpE (zgR_e hR.1.kS hR.1.r0) ?_
          refine wpE (zgI_e hR.1.kT hR.rows) ?_
          refine wpE (if_neg hp.2) ?_
          refine wpE (zbx_l (cn_in hb.1)) ?_
          refine wpE (zbx_l (cn_in hb.2)) ?_
          refine wpE (zgR_e hJ.x hJ.xs) ?_
          refine wpE (zgR_e hR.1.kS hR.1.r0) ?_
          refine wpE (zck_e hR.1.kT) ?_
          refine wpE (zb_e (cf0 hf)) ?_
          refine wpE (if_pos rfl) ?_
          refine wpE (zth_e rm.1 rm.2) ?_
          exact wp_some rfl
        · have h2 := (Tr.one (k := 0) hτ).2.2
          unfold sX8_setRows_65
          refine wpE (zb_e (jn_in hb.1)) ?_
          refine wpE (if_neg one_ne) ?_
          refine wpE (zb_e (jn_in hb.2)) ?_
          refine wpE (if_neg one_ne) ?_
          refine wpE (if_pos rfl) ?_
          unfold sX8_setRows_93
          refine wpE (zck_e h2.k) ?_
          refine wpE (zb2_e (jn_fail h2)) ?_
          exact wp_some (Tr.two hτ)
    · have fin : ∀ (τ : zW) (v : Int32), JR τ S → wp (sX8_setRows_65 n 125 (Int32.ofNat r) x y v (stI τ 125 0 0)) (fun r => Tr τ S 2 r.2) := fun τ v hτ => by
        have h2 := (Tr.one (k := 0) hτ).2.2
        have g : wp (sX8_setRows_93 n 125 (stI τ 125 0 0)) (fun r => Tr τ S 2 r.2) := by
          unfold sX8_setRows_93
          refine wpE (zck_e h2.k) ?_
          refine wpE (zb2_e (jn_fail h2)) ?_
          exact wp_some (Tr.two hτ)
        unfold sX8_setRows_65
        by_cases g1 : 0 ≤ x ∧ x ≤ 90000
        · refine wpE (zb_e (jn_in g1)) ?_
          refine wpE (if_neg one_ne) ?_
          refine wpE (zb_e (jn_in_x (fun z => hb ⟨g1, z⟩))) ?_
          refine wpE (if_pos rfl) ?_
          exact g
        · refine wpE (zb_e (jn_in_x g1)) ?_
          refine wpE (if_pos rfl) ?_
          exact g
      refine o_thr (e := 2) (k := 2) (X := fX7_setRows n 4 _ _ _) hJ hS rfl (by decide) ?_ (fun τ hτ => head τ _ hτ (fun _ => fin τ 1 hτ) (fun _ => fin τ 0 hτ))
      unfold fX7_setRows
      refine wpE (if_neg (Int32.not_lt.mpr hp.1.1)) ?_
      refine wpE (if_pos hp6) ?_
      refine wpE (zgR_e hJ.x hJ.xs) ?_
      refine wpE (zgR_e hR.1.kS hR.1.r0) ?_
      refine wpE (zgI_e hR.1.kT hR.rows) ?_
      refine wpE (if_neg hp.2) ?_
      by_cases g1 : 0 ≤ x ∧ x ≤ 90000
      · refine wpE (zbx_l (cn_in g1)) ?_
        refine wpE (zbx_r (cn_in_x rm (fun z => hb ⟨g1, z⟩))) ?_
        exact wp_some rfl
      · refine wpE (zbx_r (cn_in_x rm g1)) ?_
        exact wp_some rfl
  · have ht : ∀ Q : (Int32 ⊕ Nat) × zW → Prop, Q (.inr 1, nwX σ) → wp (sX7_setRows_24 n σ) Q := fun Q q => by
      unfold sX7_setRows_24
      refine wpE (zth_e rm.1 rm.2) ?_
      exact wp_some q
    refine o_thr (e := 1) (k := 1) (X := fX7_setRows n 4 _ _ _) hJ hS rfl (by decide) ?_ (fun τ hτ => ?_)
    · unfold fX7_setRows
      by_cases h0 : p < 0
      · refine wpE (if_pos h0) ?_
        exact ht _ rfl
      · by_cases h6 : p < 6
        · have h5 : 0 ≤ p ∧ p ≤ 5 := by
            have g := Int32.not_lt.mp h0
            obtain ⟨k, rfl, hk, -⟩ := io_of g
            have e1 : (Int32.ofNat k < Int32.ofNat 6) = (k < 6) := io_lt hk (by decide)
            have e2 : (Int32.ofNat k ≤ Int32.ofNat 5) = (k ≤ 5) := io_le hk (by decide)
            have : k < 6 := e1 ▸ h6
            exact ⟨g, e2.symm ▸ (show k ≤ 5 by omega)⟩
          refine wpE (if_neg h0) ?_
          refine wpE (if_pos h6) ?_
          refine wpE (zgR_e hJ.x hJ.xs) ?_
          refine wpE (zgR_e hR.1.kS hR.1.r0) ?_
          refine wpE (zgI_e hR.1.kT hR.rows) ?_
          by_cases h7 : sA S 0 < p
          · refine wpE (if_pos h7) ?_
            exact ht _ rfl
          · exact absurd ⟨h5, h7⟩ hp
        · refine wpE (if_neg h0) ?_
          refine wpE (if_neg h6) ?_
          exact ht _ rfl
    · have h2 := (Tr.one (k := 0) hτ).2.2
      have g : wp (sX8_setRows_24 n 125 (stI τ 125 0 0)) (fun r => Tr τ S 1 r.2) := by
        unfold sX8_setRows_24
        refine wpE (zck_e h2.k) ?_
        refine wpE (zb2_e (jn_fail h2)) ?_
        exact wp_some (Tr.two hτ)
      unfold fX8_setRows
      by_cases h5 : 0 ≤ p ∧ p ≤ 5
      · refine wpE (zpI_e hτ.k rfl) ?_
        refine wpE (zb_e (jn_in h5)) ?_
        refine wpE (if_neg one_ne) ?_
        refine wpE (zgR_e h2.k h2.w) ?_
        refine wpE (zaW_e (j := 0) h2 rfl (by decide)) ?_
        by_cases h7 : sA S 0 < p
        · refine wpE (if_pos h7) ?_
          exact g
        · exact absurd ⟨h5, h7⟩ hp
      · refine wpE (zpI_e hτ.k rfl) ?_
        refine wpE (zb_e (jn_in_x h5)) ?_
        refine wpE (if_pos rfl) ?_
        exact g
end
