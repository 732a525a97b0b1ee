/-! WHO LEADS WHERE, EXPOSURES, REASONS -/
theorem sLd_lim {a : Nat → Int32} {i b : Nat} (hl : Lt a i) (hb : b < 10) (h : sLd a i = Int32.ofNat b) : sLm a i = lim a i b := by
  unfold sLd at h
  unfold sLm
  by_cases hq : bsl a i < hou a i
  · rw [if_pos hq] at h
    exfalso
    have := congrArg Int32.toNatClampNeg h
    rw [io_nat (by omega)] at this
    have e : (10 : Int32).toNatClampNeg = 10 := rfl
    omega
  · rw [if_neg hq] at h
    rw [if_neg hq]
    cases hB : bst a i with
    | none =>
      rw [hB] at h
      exfalso
      have := io_m1 (b := b) (by omega)
      rw [show bco none = -1 from rfl] at h
      exact this ▸ h.symm
    | some B =>
      rw [hB] at h
      obtain ⟨g1, g2⟩ := bst_lt hl hB
      have h : Int32.ofNat B = Int32.ofNat b := h
      have := congrArg Int32.toNatClampNeg h
      rw [io_nat (by omega), io_nat (by omega)] at this
      unfold bsl
      rw [hB, this]
/-- the prices paid and the limits led with -/
noncomputable def xpg (a : Nat → Int32) (b : Int32) (i : Nat) : Int32 := if a (24 + 8 * i + 3) = 1 then (if sLd a i = b then Int32.ofNat (sLm a i) else 0) else 0
noncomputable def xpo (a : Nat → Int32) (b : Int32) : Int32 := zac (xpg a b) 0 (mk a) (zsm (mk a) (fun i => if a (24 + 8 * i + 3) = 2 ∧ a (24 + 8 * i + 6) = b then a (24 + 8 * i + 7) else 0))
noncomputable def ldg (a : Nat → Int32) (b : Int32) (i : Nat) : Int32 := if a (24 + 8 * i + 3) = 1 then (if sLd a i = b then 1 else 0) else 0
theorem zac_step {g : Nat → Int32} {i m : Nat} {acc : Int32} : zac g i (m + 1) acc = zac g (i + 1) m (acc + g i) := rfl
theorem i32_add0 {x : Int32} : x + 0 = x := Int32.add_zero x
section
variable {σ τ : zW} {S : St} {c n i b B : Nat}
theorem c_settleJ (hJ : JC σ S c) (hI : Inv (sA S) B) (hi : i < mk (sA S)) (hn : 1000 < n) : wp (fX4_settle n 117 (lo 5 i) (5 + 1) σ) (fun σ' => JC σ' S c ∧ Fr (Pv 117) σ σ' ∧ Stv σ' 117 (sA S) i) := by
  obtain ⟨σ', e, f, st⟩ := c_settle (n := n) hJ.rep hJ.vw (Or.inr (by decide)) hI.2.1 (hI.lt hi) hI.1.2.1 hi hn
  exact ⟨σ', e, hJ.v f, f, st⟩
theorem c_priceJ (hJ : JC σ S c) (hI : Inv (sA S) B) (hi : i < mk (sA S)) (hn : 1000 < n) (hs : Stv σ 117 (sA S) i) : fX4_price n 117 (5 + 1) σ = some (Int32.ofNat (sPr (sA S) i)) := c_price hJ.rep hJ.vw hs hI.2.1 (hI.lt hi) hn
theorem c_exposureOf (hJ : JC σ S c) (hI : Inv (sA S) B) (hn : 1000 < n) (bb : Int32) : wp (fX7_exposureOf n 4 bb σ) (fun p => p.1 = xpo (sA S) bb ∧ Fr (Pv 117) σ p.2) := by
  have hC := hI.1
  have hCC := hC
  obtain ⟨h23, hm, -, -⟩ := hC
  have key : ∀ (d j k : Nat) (acc : Int32) (σ1 : zW), j + d = mk (sA S) → d < k → Fr (Pv 117) σ σ1 → wp (sX7_exposureOf_11 n k 4 bb acc (Int32.ofNat j) σ1) (fun p => p.1 = zac (xpg (sA S) bb) j d acc ∧ Fr (Pv 117) σ p.2) := by
    intro d
    induction d with
    | zero =>
      intro j k acc σ1 hj hk hF
      obtain ⟨k, rfl⟩ : ∃ k', k = k' + 1 := ⟨k - 1, by omega⟩
      have J1 := hJ.v hF
      rw [sX7_exposureOf_11]
      refine wpE (zgR_e J1.x J1.xs) ?_
      refine wpE (zgI_e J1.rep.1.kS (J1.rep.cnt.trans h23)) ?_
      refine wpE (if_neg (by rw [io_lt (by omega) (by omega)]; omega)) ?_
      exact wp_some ⟨rfl, hF⟩
    | succ d ih =>
      intro j k acc σ1 hj hk hF
      obtain ⟨k, rfl⟩ : ∃ k', k = k' + 1 := ⟨k - 1, by omega⟩
      have J1 := hJ.v hF
      have hj20 : j < 20 := by omega
      have hjm : j < mk (sA S) := by omega
      rw [sX7_exposureOf_11, zac_step]
      refine wpE (zgR_e J1.x J1.xs) ?_
      refine wpE (zgI_e J1.rep.1.kS (J1.rep.cnt.trans h23)) ?_
      refine wpE (if_pos (by rw [io_lt (by omega) (by omega)]; omega)) ?_
      refine wpE (zgR_e J1.x J1.xs) ?_
      refine wpE (zgR_e J1.rep.1.kS J1.rep.1.r3) ?_
      refine wpE (zaRN_e J1.rep.1.kO J1.rep.1.lO hj20 (by decide) (J1.rep.1.rL hj20)) ?_
      refine wpE (zgI_e (J1.rep.1.kL hj20) (J1.rep.l3 hj20 hjm)) ?_
      by_cases hop : sA S (24 + 8 * j + 3) = 1
      · refine wpE (if_pos hop) ?_
        refine wpE (zgR_e J1.x J1.xv) ?_
        refine wpE (zgR_e J1.x J1.xs) ?_
        refine wpE (zgR_e J1.rep.1.kS J1.rep.1.r0) ?_
        refine wpE (zck_e J1.vw.kV) ?_
        obtain ⟨σ2, e2, J2, F2, st2⟩ := c_settleJ (n := n) J1 hI hjm hn
        refine wpE (zb_e e2) ?_
        refine wpE (zgR_e J2.x J2.xv) ?_
        refine wpE (zgI_e J2.vw.kV st2.2.2.1) ?_
        by_cases hl : sLd (sA S) j = bb
        · refine wpE (if_pos hl) ?_
          refine wpE (zgR_e J2.x J2.xv) ?_
          refine wpE (zgI_e J2.vw.kV st2.2.2.2.1) ?_
          unfold sX7_exposureOf_82
          rw [io_succ, show xpg (sA S) bb j = Int32.ofNat (sLm (sA S) j) by unfold xpg; rw [if_pos hop, if_pos hl]]
          exact ih (j + 1) k _ σ2 (by omega) (by omega) (hF.trans F2)
        · refine wpE (if_neg hl) ?_
          unfold sX7_exposureOf_82
          rw [io_succ, show xpg (sA S) bb j = 0 by unfold xpg; rw [if_pos hop, if_neg hl], i32_add0]
          exact ih (j + 1) k _ σ2 (by omega) (by omega) (hF.trans F2)
      · refine wpE (if_neg hop) ?_
        unfold sX7_exposureOf_82
        rw [io_succ, show xpg (sA S) bb j = 0 by unfold xpg; rw [if_neg hop], i32_add0]
        exact ih (j + 1) k _ σ1 (by omega) (by omega) hF
  unfold fX7_exposureOf
  refine wpE (zgR_e hJ.x hJ.xs) ?_
  refine wpE (zck_e hJ.rep.1.kS) ?_
  refine wpE (zb_e (c_pricesTo hJ.rep hCC hn bb)) ?_
  exact key (mk (sA S)) 0 n _ σ (by omega) (by omega) Fr.refl
theorem c_leadsOf (hJ : JC σ S c) (hI : Inv (sA S) B) (hn : 1000 < n) (bb : Int32) : wp (fX7_leadsOf n 4 bb σ) (fun p => p.1 = zac (ldg (sA S) bb) 0 (mk (sA S)) 0 ∧ Fr (Pv 117) σ p.2) := by
  obtain ⟨h23, hm, -, -⟩ := hI.1
  have key : ∀ (d j k : Nat) (acc : Int32) (σ1 : zW), j + d = mk (sA S) → d < k → Fr (Pv 117) σ σ1 → wp (sX7_leadsOf_4 n k 4 bb acc (Int32.ofNat j) σ1) (fun p => p.1 = zac (ldg (sA S) bb) j d acc ∧ Fr (Pv 117) σ p.2) := by
    intro d
    induction d with
    | zero =>
      intro j k acc σ1 hj hk hF
      obtain ⟨k, rfl⟩ : ∃ k', k = k' + 1 := ⟨k - 1, by omega⟩
      have J1 := hJ.v hF
      rw [sX7_leadsOf_4]
      refine wpE (zgR_e J1.x J1.xs) ?_
      refine wpE (zgI_e J1.rep.1.kS (J1.rep.cnt.trans h23)) ?_
      refine wpE (if_neg (by rw [io_lt (by omega) (by omega)]; omega)) ?_
      exact wp_some ⟨rfl, hF⟩
    | succ d ih =>
      intro j k acc σ1 hj hk hF
      obtain ⟨k, rfl⟩ : ∃ k', k = k' + 1 := ⟨k - 1, by omega⟩
      have J1 := hJ.v hF
      have hj20 : j < 20 := by omega
      have hjm : j < mk (sA S) := by omega
      rw [sX7_leadsOf_4, zac_step]
      refine wpE (zgR_e J1.x J1.xs) ?_
      refine wpE (zgI_e J1.rep.1.kS (J1.rep.cnt.trans h23)) ?_
      refine wpE (if_pos (by rw [io_lt (by omega) (by omega)]; omega)) ?_
      refine wpE (zgR_e J1.x J1.xs) ?_
      refine wpE (zgR_e J1.rep.1.kS J1.rep.1.r3) ?_
      refine wpE (zaRN_e J1.rep.1.kO J1.rep.1.lO hj20 (by decide) (J1.rep.1.rL hj20)) ?_
      refine wpE (zgI_e (J1.rep.1.kL hj20) (J1.rep.l3 hj20 hjm)) ?_
      by_cases hop : sA S (24 + 8 * j + 3) = 1
      · refine wpE (if_pos hop) ?_
        refine wpE (zgR_e J1.x J1.xv) ?_
        refine wpE (zgR_e J1.x J1.xs) ?_
        refine wpE (zgR_e J1.rep.1.kS J1.rep.1.r0) ?_
        refine wpE (zck_e J1.vw.kV) ?_
        obtain ⟨σ2, e2, J2, F2, st2⟩ := c_settleJ (n := n) J1 hI hjm hn
        refine wpE (zb_e e2) ?_
        refine wpE (zgR_e J2.x J2.xv) ?_
        refine wpE (zgI_e J2.vw.kV st2.2.2.1) ?_
        by_cases hl : sLd (sA S) j = bb
        · refine wpE (if_pos hl) ?_
          unfold sX7_leadsOf_68
          rw [io_succ, show ldg (sA S) bb j = 1 by unfold ldg; rw [if_pos hop, if_pos hl]]
          exact ih (j + 1) k _ σ2 (by omega) (by omega) (hF.trans F2)
        · refine wpE (if_neg hl) ?_
          unfold sX7_leadsOf_68
          rw [io_succ, show ldg (sA S) bb j = 0 by unfold ldg; rw [if_pos hop, if_neg hl], i32_add0]
          exact ih (j + 1) k _ σ2 (by omega) (by omega) (hF.trans F2)
      · refine wpE (if_neg hop) ?_
        unfold sX7_leadsOf_68
        rw [io_succ, show ldg (sA S) bb j = 0 by unfold ldg; rw [if_neg hop], i32_add0]
        exact ih (j + 1) k _ σ1 (by omega) (by omega) hF
  unfold fX7_leadsOf
  exact key (mk (sA S)) 0 n _ σ (by omega) (by omega) Fr.refl
/-- the reference goes on with its state as it was -/
def Sm (τ : zW) (S : St) (τ' : zW) : Prop := JR τ' S ∧ Fr PR τ τ' ∧ zI τ' 125 0 = zI τ 125 0
theorem Sm.refl {τ : zW} {S : St} (h : JR τ S) : Sm τ S τ := ⟨h, Fr.refl, rfl⟩
theorem Sm.trans {τ τ1 τ2 : zW} {S : St} (h : Sm τ S τ1) (h2 : Sm τ1 S τ2) : Sm τ S τ2 := ⟨h2.1, h.2.1.trans h2.2.1, h2.2.2.trans h.2.2⟩
theorem j_standS (hτ : JR τ S) (hI : Inv (sA S) B) (hi : i < mk (sA S)) (hn : 1000 < n) : wp (fX8_stand n 125 (Int32.ofNat i) τ) (fun τ' => Sm τ S τ' ∧ Std τ' (sA S) i) := by
  obtain ⟨τ', e, h1, h2, h3, h4⟩ := j_stand (n := n) hτ hI.2.1 (hI.lt hi) hn (by have := hI.1.2.1; omega)
  exact ⟨τ', e, ⟨h1, h2, h4⟩, h3⟩
theorem j_isLeading (hτ : JR τ S) (hI : Inv (sA S) B) (hi : i < mk (sA S)) (hn : 1000 < n) (bb : Int32) : wp (fX8_isLeading n 125 (Int32.ofNat i) bb τ) (fun p => p.1 = (if sA S (24 + 8 * i + 3) = 1 then (if sLd (sA S) i = bb then 1 else 0) else 0) ∧ Sm τ S p.2 ∧ (sA S (24 + 8 * i + 3) = 1 → Std p.2 (sA S) i)) := by
  have hi20 : i < 20 := by have := hI.1.2.1; omega
  unfold fX8_isLeading
  refine wpE (zck_e hτ.k) ?_
  refine wpE (zb_e (j_at3 hτ hi20)) ?_
  by_cases hop : sA S (24 + 8 * i + 3) = 1
  · refine wpE (if_pos hop) ?_
    refine wpE (zck_e hτ.k) ?_
    obtain ⟨τ1, e1, s1, st1⟩ := j_standS (n := n) hτ hI hi hn
    refine wpE (zb_e e1) ?_
    refine wpE (zgI_e s1.1.k st1.1) ?_
    by_cases hl : sLd (sA S) i = bb
    · refine wpE (if_pos hl) ?_
      rw [if_pos hop, if_pos hl]
      exact wp_some ⟨rfl, s1, fun _ => st1⟩
    · refine wpE (if_neg hl) ?_
      rw [if_pos hop, if_neg hl]
      exact wp_some ⟨rfl, s1, fun _ => st1⟩
  · refine wpE (if_neg hop) ?_
    rw [if_neg hop]
    exact wp_some ⟨rfl, Sm.refl hτ, fun q => absurd q hop⟩
theorem one_ne : ¬ (1 : Int32) = 0 := by decide
theorem j_exposureOf (hτ : JR τ S) (hI : Inv (sA S) B) (hn : 1000 < n) (hb : b < 10) : wp (fX8_exposureOf n 125 (Int32.ofNat b) τ) (fun p => p.1 = xpo (sA S) (Int32.ofNat b) ∧ Sm τ S p.2) := by
  have hC := hI.1
  have hCC := hC
  obtain ⟨h23, hm, -, -⟩ := hC
  have key : ∀ (d j k : Nat) (acc : Int32) (τ1 : zW), j + d = mk (sA S) → d < k → Sm τ S τ1 → wp (sX8_exposureOf_9 n k 125 (Int32.ofNat b) acc (Int32.ofNat j) τ1) (fun p => p.1 = zac (xpg (sA S) (Int32.ofNat b)) j d acc ∧ Sm τ S p.2) := by
    intro d
    induction d with
    | zero =>
      intro j k acc τ1 hj hk hF
      obtain ⟨k, rfl⟩ : ∃ k', k = k' + 1 := ⟨k - 1, by omega⟩
      rw [sX8_exposureOf_9]
      refine wpE (zgR_e hF.1.k hF.1.w) ?_
      refine wpE (zaW_e (j := 23) hF.1 rfl (by decide)) ?_
      refine wpE (if_neg (by rw [h23, io_lt (by omega) (by omega)]; omega)) ?_
      exact wp_some ⟨rfl, hF⟩
    | succ d ih =>
      intro j k acc τ1 hj hk hF
      obtain ⟨k, rfl⟩ : ∃ k', k = k' + 1 := ⟨k - 1, by omega⟩
      have hjm : j < mk (sA S) := by omega
      rw [sX8_exposureOf_9, zac_step]
      refine wpE (zgR_e hF.1.k hF.1.w) ?_
      refine wpE (zaW_e (j := 23) hF.1 rfl (by decide)) ?_
      refine wpE (if_pos (by rw [h23, io_lt (by omega) (by omega)]; omega)) ?_
      refine wpE (zck_e hF.1.k) ?_
      obtain ⟨p2, e2, v2, s2, st2⟩ := j_isLeading (n := n) hF.1 hI hjm hn (Int32.ofNat b)
      refine wpE (zb2_e (v := p2.1) (s := p2.2) e2) ?_
      rw [v2]
      by_cases hop : sA S (24 + 8 * j + 3) = 1
      · by_cases hl : sLd (sA S) j = Int32.ofNat b
        · refine wpE (if_neg (by rw [if_pos hop, if_pos hl]; exact one_ne)) ?_
          refine wpE (zck_e s2.1.k) ?_
          refine wpE (zb_e (j_limitOf s2.1 hI.2.1 (hI.lt hjm) hn (by omega) hb)) ?_
          unfold sX8_exposureOf_40
          rw [io_succ, show xpg (sA S) (Int32.ofNat b) j = Int32.ofNat (lim (sA S) j b) by unfold xpg; rw [if_pos hop, if_pos hl, sLd_lim (hI.lt hjm) hb hl]]
          exact ih (j + 1) k _ _ (by omega) (by omega) (hF.trans s2)
        · refine wpE (if_pos (by rw [if_pos hop, if_neg hl])) ?_
          unfold sX8_exposureOf_40
          rw [io_succ, show xpg (sA S) (Int32.ofNat b) j = 0 by unfold xpg; rw [if_pos hop, if_neg hl]]
          exact ih (j + 1) k _ _ (by omega) (by omega) (hF.trans s2)
      · refine wpE (if_pos (by rw [if_neg hop])) ?_
        unfold sX8_exposureOf_40
        rw [io_succ, show xpg (sA S) (Int32.ofNat b) j = 0 by unfold xpg; rw [if_neg hop]]
        exact ih (j + 1) k _ _ (by omega) (by omega) (hF.trans s2)
  unfold fX8_exposureOf
  refine wpE (zck_e hτ.k) ?_
  refine wpE (zb_e (j_boughtBy hτ hCC hn (Int32.ofNat b) 1)) ?_
  have e : zsm (mk (sA S)) (fun i => if sA S (24 + 8 * i + 3) = 2 ∧ sA S (24 + 8 * i + 6) = Int32.ofNat b then (if (1 : Int32) = 0 then 1 else if (1 : Int32) = 1 then sA S (24 + 8 * i + 7) else prr (sA S (24 + 8 * i + 7))) else 0) = zsm (mk (sA S)) (fun i => if sA S (24 + 8 * i + 3) = 2 ∧ sA S (24 + 8 * i + 6) = Int32.ofNat b then sA S (24 + 8 * i + 7) else 0) := rfl
  rw [e]
  exact key (mk (sA S)) 0 n _ τ (by omega) (by omega) (Sm.refl hτ)
theorem j_leads (hτ : JR τ S) (hI : Inv (sA S) B) (hn : 1000 < n) (bb : Int32) : wp (fX8_leads n 125 bb τ) (fun p => p.1 = zac (ldg (sA S) bb) 0 (mk (sA S)) 0 ∧ Sm τ S p.2) := by
  obtain ⟨h23, hm, -, -⟩ := hI.1
  have key : ∀ (d j k : Nat) (acc : Int32) (τ1 : zW), j + d = mk (sA S) → d < k → Sm τ S τ1 → wp (sX8_leads_4 n k 125 bb acc (Int32.ofNat j) τ1) (fun p => p.1 = zac (ldg (sA S) bb) j d acc ∧ Sm τ S p.2) := by
    intro d
    induction d with
    | zero =>
      intro j k acc τ1 hj hk hF
      obtain ⟨k, rfl⟩ : ∃ k', k = k' + 1 := ⟨k - 1, by omega⟩
      rw [sX8_leads_4]
      refine wpE (zgR_e hF.1.k hF.1.w) ?_
      refine wpE (zaW_e (j := 23) hF.1 rfl (by decide)) ?_
      refine wpE (if_neg (by rw [h23, io_lt (by omega) (by omega)]; omega)) ?_
      exact wp_some ⟨rfl, hF⟩
    | succ d ih =>
      intro j k acc τ1 hj hk hF
      obtain ⟨k, rfl⟩ : ∃ k', k = k' + 1 := ⟨k - 1, by omega⟩
      have hjm : j < mk (sA S) := by omega
      rw [sX8_leads_4, zac_step]
      refine wpE (zgR_e hF.1.k hF.1.w) ?_
      refine wpE (zaW_e (j := 23) hF.1 rfl (by decide)) ?_
      refine wpE (if_pos (by rw [h23, io_lt (by omega) (by omega)]; omega)) ?_
      refine wpE (zck_e hF.1.k) ?_
      obtain ⟨p2, e2, v2, s2, st2⟩ := j_isLeading (n := n) hF.1 hI hjm hn bb
      refine wpE (zb2_e (v := p2.1) (s := p2.2) e2) ?_
      rw [v2]
      have hg : ldg (sA S) bb j = if sA S (24 + 8 * j + 3) = 1 then (if sLd (sA S) j = bb then 1 else 0) else 0 := rfl
      by_cases hl : ldg (sA S) bb j = 0
      · refine wpE (if_pos (hg ▸ hl)) ?_
        unfold sX8_leads_30
        rw [io_succ, hl]
        exact ih (j + 1) k _ _ (by omega) (by omega) (hF.trans s2)
      · refine wpE (if_neg (hg ▸ hl)) ?_
        unfold sX8_leads_30
        have h1 : ldg (sA S) bb j = 1 := by
          rw [hg] at hl ⊢
          split
          · split
            · rfl
            · next q1 q2 => rw [if_pos q1, if_neg q2] at hl; exact absurd rfl hl
          · next q1 => rw [if_neg q1] at hl; exact absurd rfl hl
        rw [io_succ, h1]
        exact ih (j + 1) k _ _ (by omega) (by omega) (hF.trans s2)
  unfold fX8_leads
  exact key (mk (sA S)) 0 n _ τ (by omega) (by omega) (Sm.refl hτ)
/-! reasons -/
def rO (a : Nat → Int32) (i b : Nat) (x : Int32) : Int32 := if a (24 + 8 * i + 3) = 0 ∨ a (24 + 8 * i + 3) = 1 then (if a (184 + 10 * i + b) < x then (if a (13 + b) < x then 8 else if a (184 + 10 * i + b) = 0 ∧ tot a = 40 then 9 else 0) else 7) else 6
noncomputable def rB (a : Nat → Int32) (i b x : Nat) : Int32 := if a (24 + 8 * i + 3) = 1 then (if sLd a i = Int32.ofNat b then 2 else if x < nxt a (sPr a i) then 3 else if 0 < x ∧ stp a x = x then (if a (13 + b) < Int32.ofNat x + xpo a (Int32.ofNat b) then 5 else 0) else 4) else 1
theorem c_orderReason (hJ : JC σ S c) (hI : Inv (sA S) B) (hi : i < mk (sA S)) (hb : b < 10) (hn : 1000 < n) (x : Int32) : fX7_orderReason n 4 (lo 5 i) (Int32.ofNat b) x σ = some (rO (sA S) i b x) := by
  have hi20 : i < 20 := by have := hI.1.2.1; omega
  have hR := hJ.rep
  have ho := hI.2.2.2.2.1
  have e18 : sX7_orderReason_18 n σ 4 (lo 5 i) (Int32.ofNat b) x = some (if sA S (184 + 10 * i + b) < x then (if sA S (13 + b) < x then 8 else if sA S (184 + 10 * i + b) = 0 ∧ tot (sA S) = 40 then 9 else 0) else 7) := by
    apply wp_eq
    unfold sX7_orderReason_18
    refine wpE (zgR_e (hR.1.kL hi20) (hR.1.rL0 hi20)) ?_
    refine wpE (zaN_e (hR.1.kL0 hi20) (hR.1.lL0 hi20) hb (by decide) (hR.p0 hi20 hb hi)) ?_
    by_cases h1 : sA S (184 + 10 * i + b) < x
    · refine wpE (if_pos h1) ?_
      refine wpE (zgR_e hJ.x hJ.xs) ?_
      refine wpE (zgR_e hR.1.kS hR.1.r1) ?_
      refine wpE (zaN_e hR.1.kR hR.1.lR hb (by decide) (hR.crd hb)) ?_
      rw [if_pos h1]
      by_cases h2 : sA S (13 + b) < x
      · refine wpE (if_pos h2) ?_
        rw [if_pos h2]
        exact wp_some rfl
      · refine wpE (if_neg h2) ?_
        refine wpE (zgR_e (hR.1.kL hi20) (hR.1.rL0 hi20)) ?_
        refine wpE (zaN_e (hR.1.kL0 hi20) (hR.1.lL0 hi20) hb (by decide) (hR.p0 hi20 hb hi)) ?_
        rw [if_neg h2]
        by_cases h3 : sA S (184 + 10 * i + b) = 0
        · refine wpE (if_pos h3) ?_
          refine wpE (zgR_e hJ.x hJ.xs) ?_
          refine wpE (zck_e hR.1.kS) ?_
          refine wpE (zb_e ((c_orderCount hR hI.1 hn).trans (congrArg some tot_zsm))) ?_
          have e40 : (Int32.ofNat (tot (sA S)) < 40) = (tot (sA S) < 40) := io_lt (b := 40) (by omega) (by decide)
          by_cases h4 : tot (sA S) < 40
          · refine wpE (if_pos (e40.symm ▸ h4)) ?_
            rw [if_neg (fun q => by have := q.2; omega)]
            exact wp_some rfl
          · refine wpE (if_neg (fun q => h4 (e40 ▸ q))) ?_
            rw [if_pos ⟨h3, by omega⟩]
            exact wp_some rfl
        · refine wpE (if_neg h3) ?_
          rw [if_neg (fun q => h3 q.1)]
          exact wp_some rfl
    · refine wpE (if_neg h1) ?_
      rw [if_neg h1]
      exact wp_some rfl
  apply wp_eq
  unfold fX7_orderReason rO
  refine wpE (zgI_e (hR.1.kL hi20) (hR.l3 hi20 hi)) ?_
  by_cases h0 : sA S (24 + 8 * i + 3) = 0
  · refine wpE (if_pos h0) ?_
    rw [if_pos (Or.inl h0)]
    exact wpE e18 (wp_some rfl)
  · refine wpE (if_neg h0) ?_
    refine wpE (zgI_e (hR.1.kL hi20) (hR.l3 hi20 hi)) ?_
    by_cases h1 : sA S (24 + 8 * i + 3) = 1
    · refine wpE (if_pos h1) ?_
      rw [if_pos (Or.inr h1)]
      exact wpE e18 (wp_some rfl)
    · refine wpE (if_neg h1) ?_
      rw [if_neg (fun q => by rcases q with q | q; exact h0 q; exact h1 q)]
      exact wp_some rfl
theorem j_orderRefusal (hτ : JR τ S) (hI : Inv (sA S) B) (hi : i < mk (sA S)) (hb : b < 10) (hn : 1000 < n) (x : Int32) : fX8_orderRefusal n 125 (Int32.ofNat i) (Int32.ofNat b) x τ = some (rO (sA S) i b x) := by
  have hi20 : i < 20 := by have := hI.1.2.1; omega
  have ho := hI.2.2.2.2.1
  have e40 : (Int32.ofNat (tot (sA S)) = 40) = (tot (sA S) = 40) := io_eq (b := 40) (by omega) (by decide)
  have i13 : (13 : Int32) + Int32.ofNat b = Int32.ofNat (13 + b) := iy13
  have e49 : ∀ y : Int32, sX8_orderRefusal_49 n τ 125 (Int32.ofNat i) (Int32.ofNat b) x 1 y = some (if sA S (184 + 10 * i + b) < x then (if sA S (13 + b) < x then 8 else if y = 0 then 0 else 9) else 7) := by
    intro y
    apply wp_eq
    unfold sX8_orderRefusal_49
    refine wpE (if_neg one_ne) ?_
    refine wpE (zck_e hτ.k) ?_
    refine wpE (zb_e (j_orderOf hτ hi20 hb)) ?_
    by_cases h1 : sA S (184 + 10 * i + b) < x
    · refine wpE (if_pos h1) ?_
      refine wpE (zgR_e hτ.k hτ.w) ?_
      refine wpE (zaW_e hτ i13 (by omega)) ?_
      rw [if_pos h1]
      by_cases h2 : sA S (13 + b) < x
      · refine wpE (if_pos h2) ?_
        rw [if_pos h2]
        exact wp_some rfl
      · refine wpE (if_neg h2) ?_
        rw [if_neg h2]
        by_cases h3 : y = 0
        · refine wpE (if_pos h3) ?_
          rw [if_pos h3]
          exact wp_some rfl
        · refine wpE (if_neg h3) ?_
          rw [if_neg h3]
          exact wp_some rfl
    · refine wpE (if_neg h1) ?_
      rw [if_neg h1]
      exact wp_some rfl
  have e490 : ∀ y : Int32, sX8_orderRefusal_49 n τ 125 (Int32.ofNat i) (Int32.ofNat b) x 0 y = some 6 := fun y => by
    unfold sX8_orderRefusal_49
    exact if_pos rfl
  have e24 : ∀ y : Int32, y = 0 ∨ y = 1 → sX8_orderRefusal_24 n τ 125 (Int32.ofNat i) (Int32.ofNat b) x y = some (if y = 1 then (if sA S (184 + 10 * i + b) < x then (if sA S (13 + b) < x then 8 else if sA S (184 + 10 * i + b) = 0 ∧ tot (sA S) = 40 then 9 else 0) else 7) else 6) := by
    intro y hy
    apply wp_eq
    unfold sX8_orderRefusal_24
    refine wpE (zck_e hτ.k) ?_
    refine wpE (zb_e ((j_allOrders hτ hI.1 hn).trans (congrArg some tot_zsm))) ?_
    by_cases h4 : tot (sA S) = 40
    · refine wpE (if_pos (e40.symm ▸ h4)) ?_
      refine wpE (zck_e hτ.k) ?_
      refine wpE (zb_e (j_orderOf hτ hi20 hb)) ?_
      by_cases h5 : sA S (184 + 10 * i + b) = 0
      · refine wpE (if_pos h5) ?_
        rcases hy with rfl | rfl
        · exact wpE (e490 1) (wp_some rfl)
        · refine wpE (e49 1) (wp_some ?_)
          rw [if_pos rfl, if_pos (show sA S (184 + 10 * i + b) = 0 ∧ tot (sA S) = 40 from ⟨h5, h4⟩), if_neg one_ne]
      · refine wpE (if_neg h5) ?_
        unfold sX8_orderRefusal_48
        rcases hy with rfl | rfl
        · exact wpE (e490 0) (wp_some rfl)
        · refine wpE (e49 0) (wp_some ?_)
          rw [if_pos rfl, if_pos rfl, if_neg (fun q : sA S (184 + 10 * i + b) = 0 ∧ tot (sA S) = 40 => h5 q.1)]
    · refine wpE (if_neg (fun q => h4 (e40 ▸ q))) ?_
      unfold sX8_orderRefusal_48
      rcases hy with rfl | rfl
      · exact wpE (e490 0) (wp_some rfl)
      · refine wpE (e49 0) (wp_some ?_)
        rw [if_pos rfl, if_pos rfl, if_neg (fun q : sA S (184 + 10 * i + b) = 0 ∧ tot (sA S) = 40 => h4 q.2)]
  apply wp_eq
  unfold fX8_orderRefusal rO
  refine wpE (zck_e hτ.k) ?_
  refine wpE (zb_e (j_at3 hτ hi20)) ?_
  by_cases h0 : sA S (24 + 8 * i + 3) = 0
  · refine wpE (if_pos h0) ?_
    unfold sX8_orderRefusal_19
    rw [if_pos (Or.inl h0)]
    exact wpE (e24 1 (Or.inr rfl)) (wp_some rfl)
  · refine wpE (if_neg h0) ?_
    refine wpE (zck_e hτ.k) ?_
    refine wpE (zb_e (j_at3 hτ hi20)) ?_
    by_cases h1 : sA S (24 + 8 * i + 3) = 1
    · refine wpE (if_pos h1) ?_
      unfold sX8_orderRefusal_19
      rw [if_pos (Or.inr h1)]
      exact wpE (e24 1 (Or.inr rfl)) (wp_some rfl)
    · refine wpE (if_neg h1) ?_
      rw [if_neg (fun q : sA S (24 + 8 * i + 3) = 0 ∨ sA S (24 + 8 * i + 3) = 1 => by rcases q with q | q; exact h0 q; exact h1 q)]
      exact wpE (e24 0 (Or.inl rfl)) (wp_some rfl)
theorem c_bidReason (hJ : JC σ S c) (hI : Inv (sA S) B) (hi : i < mk (sA S)) (hb : b < 10) (hn : 1000 < n) {x : Nat} (hx : x ≤ 99999) : wp (fX7_bidReason n 4 (lo 5 i) (Int32.ofNat b) (Int32.ofNat x) σ) (fun p => p.1 = rB (sA S) i b x ∧ Fr (Pv 117) σ p.2) := by
  have hi20 : i < 20 := by have := hI.1.2.1; omega
  have hR := hJ.rep
  have hpr := sPr_le (hI.lt hi)
  have hnx := nxt_le hI.2.1 hpr
  unfold fX7_bidReason rB
  refine wpE (zgI_e (hR.1.kL hi20) (hR.l3 hi20 hi)) ?_
  by_cases h0 : sA S (24 + 8 * i + 3) = 1
  · refine wpE (if_pos h0) ?_
    rw [if_pos h0]
    refine wpE (zgR_e hJ.x hJ.xv) ?_
    refine wpE (zgR_e hJ.x hJ.xs) ?_
    refine wpE (zgR_e hR.1.kS hR.1.r0) ?_
    refine wpE (zck_e hJ.vw.kV) ?_
    obtain ⟨σ1, e1, J1, F1, st1⟩ := c_settleJ (n := n) hJ hI hi hn
    refine wpE (zb_e e1) ?_
    have R1 := J1.rep
    refine wpE (zgR_e J1.x J1.xv) ?_
    refine wpE (zgI_e J1.vw.kV st1.2.2.1) ?_
    by_cases h1 : sLd (sA S) i = Int32.ofNat b
    · refine wpE (if_pos h1) ?_
      rw [if_pos h1]
      exact wp_some ⟨rfl, F1⟩
    · refine wpE (if_neg h1) ?_
      rw [if_neg h1]
      refine wpE (zgR_e J1.x J1.xs) ?_
      refine wpE (zgR_e R1.1.kS R1.1.r0) ?_
      refine wpE (zgR_e J1.x J1.xv) ?_
      refine wpE (zgR_e J1.x J1.xs) ?_
      refine wpE (zgR_e R1.1.kS R1.1.r0) ?_
      refine wpE (zck_e J1.vw.kV) ?_
      refine wpE (zb_e (c_priceJ J1 hI hi hn st1)) ?_
      refine wpE (zck_e R1.1.kT) ?_
      refine wpE (zb_e (c_stepAfter R1 hI.2.1 hpr hn)) ?_
      have e3 : (Int32.ofNat x < Int32.ofNat (nxt (sA S) (sPr (sA S) i))) = (x < nxt (sA S) (sPr (sA S) i)) := io_lt (by omega) (by omega)
      by_cases h2 : x < nxt (sA S) (sPr (sA S) i)
      · refine wpE (if_pos (e3.symm ▸ h2)) ?_
        rw [if_pos h2]
        exact wp_some ⟨rfl, F1⟩
      · refine wpE (if_neg (fun q => h2 (e3 ▸ q))) ?_
        rw [if_neg h2]
        refine wpE (zgR_e J1.x J1.xs) ?_
        refine wpE (zgR_e R1.1.kS R1.1.r0) ?_
        refine wpE (zck_e R1.1.kT) ?_
        refine wpE (zb_e (c_isStep R1 hI.2.1 hx hn)) ?_
        by_cases h3 : 0 < x ∧ stp (sA S) x = x
        · refine wpE (if_neg (by rw [if_pos h3]; exact one_ne)) ?_
          rw [if_pos h3]
          refine wpE (zck_e J1.x) ?_
          obtain ⟨p2, e2, v2, F2⟩ := c_exposureOf (n := n) J1 hI hn (Int32.ofNat b)
          refine wpE (zb2_e (v := p2.1) (s := p2.2) e2) ?_
          have J2 := J1.v F2
          have R2 := J2.rep
          rw [v2]
          refine wpE (zgR_e J2.x J2.xs) ?_
          refine wpE (zgR_e R2.1.kS R2.1.r1) ?_
          refine wpE (zaN_e R2.1.kR R2.1.lR hb (by decide) (R2.crd hb)) ?_
          by_cases h4 : sA S (13 + b) < Int32.ofNat x + xpo (sA S) (Int32.ofNat b)
          · refine wpE (if_pos h4) ?_
            rw [if_pos h4]
            exact wp_some ⟨rfl, F1.trans F2⟩
          · refine wpE (if_neg h4) ?_
            rw [if_neg h4]
            exact wp_some ⟨rfl, F1.trans F2⟩
        · refine wpE (if_pos (by rw [if_neg h3])) ?_
          rw [if_neg h3]
          exact wp_some ⟨rfl, F1⟩
  · refine wpE (if_neg h0) ?_
    rw [if_neg h0]
    exact wp_some ⟨rfl, Fr.refl⟩
theorem j_bidRefusal (hτ : JR τ S) (hI : Inv (sA S) B) (hi : i < mk (sA S)) (hb : b < 10) (hn : 1000 < n) {x : Nat} (hx : x ≤ 99999) : wp (fX8_bidRefusal n 125 (Int32.ofNat i) (Int32.ofNat b) (Int32.ofNat x) τ) (fun p => p.1 = rB (sA S) i b x ∧ Sm τ S p.2) := by
  have hi20 : i < 20 := by have := hI.1.2.1; omega
  have hpr := sPr_le (hI.lt hi)
  have hnx := nxt_le hI.2.1 hpr
  have i13 : (13 : Int32) + Int32.ofNat b = Int32.ofNat (13 + b) := iy13
  unfold fX8_bidRefusal rB
  refine wpE (zck_e hτ.k) ?_
  refine wpE (zb_e (j_at3 hτ hi20)) ?_
  by_cases h0 : sA S (24 + 8 * i + 3) = 1
  · refine wpE (if_pos h0) ?_
    rw [if_pos h0]
    refine wpE (zck_e hτ.k) ?_
    obtain ⟨p1, e1, v1, s1, st1⟩ := j_isLeading (n := n) hτ hI hi hn (Int32.ofNat b)
    refine wpE (zb2_e (v := p1.1) (s := p1.2) e1) ?_
    rw [v1, if_pos h0]
    have st := st1 h0
    by_cases h1 : sLd (sA S) i = Int32.ofNat b
    · refine wpE (if_neg (by rw [if_pos h1]; exact one_ne)) ?_
      rw [if_pos h1]
      exact wp_some ⟨rfl, s1⟩
    · refine wpE (if_pos (by rw [if_neg h1])) ?_
      rw [if_neg h1]
      refine wpE (zgI_e s1.1.k st.2.2.2) ?_
      refine wpE (zck_e s1.1.k) ?_
      refine wpE (zb_e (j_stepAbove s1.1 hI.2.1 hn hpr)) ?_
      have e3 : (Int32.ofNat x < Int32.ofNat (nxt (sA S) (sPr (sA S) i))) = (x < nxt (sA S) (sPr (sA S) i)) := io_lt (by omega) (by omega)
      by_cases h2 : x < nxt (sA S) (sPr (sA S) i)
      · refine wpE (if_pos (e3.symm ▸ h2)) ?_
        rw [if_pos h2]
        exact wp_some ⟨rfl, s1⟩
      · refine wpE (if_neg (fun q => h2 (e3 ▸ q))) ?_
        rw [if_neg h2]
        refine wpE (zck_e s1.1.k) ?_
        refine wpE (zb_e (j_isStep s1.1 hI.2.1 hn hx)) ?_
        by_cases h3 : 0 < x ∧ stp (sA S) x = x
        · refine wpE (if_neg (by rw [if_pos h3]; exact one_ne)) ?_
          rw [if_pos h3]
          refine wpE (zck_e s1.1.k) ?_
          obtain ⟨p2, e2, v2, s2⟩ := j_exposureOf (n := n) s1.1 hI hn hb
          refine wpE (zb2_e (v := p2.1) (s := p2.2) e2) ?_
          rw [v2]
          refine wpE (zgR_e s2.1.k s2.1.w) ?_
          refine wpE (zaW_e s2.1 i13 (by omega)) ?_
          unfold sX8_bidRefusal_73
          by_cases h4 : sA S (13 + b) < Int32.ofNat x + xpo (sA S) (Int32.ofNat b)
          · refine wpE (if_pos h4) ?_
            rw [if_pos h4]
            exact wp_some ⟨rfl, s1.trans s2⟩
          · refine wpE (if_neg h4) ?_
            rw [if_neg h4]
            exact wp_some ⟨rfl, s1.trans s2⟩
        · refine wpE (if_pos (by rw [if_neg h3])) ?_
          rw [if_neg h3]
          unfold sX8_bidRefusal_73
          exact wp_some ⟨rfl, s1⟩
  · refine wpE (if_neg h0) ?_
    rw [if_neg h0]
    exact wp_some ⟨rfl, Sm.refl hτ⟩
end
