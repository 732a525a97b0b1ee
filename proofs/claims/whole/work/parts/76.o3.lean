/-! CALLS: accounts and events -/
theorem prr_sold {a : Nat → Int32} {B i : Nat} (h : Inv a B) (hi : i < mk a) (hs : a (24 + 8 * i + 3) = 2) : prr (a (24 + 8 * i + 7)) = prm (a (24 + 8 * i + 7)) := by
  obtain ⟨-, p, hp, e⟩ := (h.2.2.1 i hi).2.2.2.1 hs
  rw [e]
  exact prr_prm (by omega)
def bPr (a : Nat → Int32) (b : Int32) : Int32 := zsm (mk a) (fun i => if a (24 + 8 * i + 3) = 2 ∧ a (24 + 8 * i + 6) = b then a (24 + 8 * i + 7) else 0)
def bPm (a : Nat → Int32) (b : Int32) : Int32 := zsm (mk a) (fun i => if a (24 + 8 * i + 3) = 2 ∧ a (24 + 8 * i + 6) = b then prm (a (24 + 8 * i + 7)) else 0)
def bCt (a : Nat → Int32) (b : Int32) : Int32 := zsm (mk a) (fun i => if a (24 + 8 * i + 3) = 2 ∧ a (24 + 8 * i + 6) = b then 1 else 0)
def sPf (a : Nat → Int32) (b : Int32) : Int32 := zsm (mk a) (fun i => if a (24 + 8 * i + 0) = b ∧ a (24 + 8 * i + 3) = 2 then a (24 + 8 * i + 7) else 0)
def sCm (a : Nat → Int32) (b : Int32) : Int32 := zsm (mk a) (fun i => if a (24 + 8 * i + 0) = b ∧ a (24 + 8 * i + 3) = 2 then cms (a (24 + 8 * i + 7)) else 0)
def sCt (a : Nat → Int32) (b st : Int32) : Int32 := zsm (mk a) (fun i => if a (24 + 8 * i + 0) = b ∧ a (24 + 8 * i + 3) = st then 1 else 0)
section
variable {σ τ : zW} {S S' : St} {c n B : Nat}
theorem j_b1 (hτ : JR τ S) (hI : Inv (sA S) B) (hn : 1000 < n) (b : Int32) : fX8_boughtBy n 125 b 1 τ = some (bPr (sA S) b) := j_boughtBy hτ hI.1 hn b 1
theorem j_b0 (hτ : JR τ S) (hI : Inv (sA S) B) (hn : 1000 < n) (b : Int32) : fX8_boughtBy n 125 b 0 τ = some (bCt (sA S) b) := j_boughtBy hτ hI.1 hn b 0
theorem j_b2 (hτ : JR τ S) (hI : Inv (sA S) B) (hn : 1000 < n) (b : Int32) : fX8_boughtBy n 125 b 2 τ = some (bPm (sA S) b) := by
  rw [j_boughtBy hτ hI.1 hn b 2]
  refine congrArg some (zsm_congr (fun i hi => ?_))
  by_cases h : sA S (24 + 8 * i + 3) = 2 ∧ sA S (24 + 8 * i + 6) = b
  · rw [if_pos h, if_pos h, if_neg (by decide), if_neg (by decide)]
    exact prr_sold hI hi h.1
  · rw [if_neg h, if_neg h]
theorem j_s0 (hτ : JR τ S) (hI : Inv (sA S) B) (hn : 1000 < n) (b : Int32) : fX8_soldBy n 125 b 0 τ = some (sPf (sA S) b) := by
  rw [j_soldBy hτ hI.1 hn b 0]
  refine congrArg some (zsm_congr (fun i hi => ?_))
  rw [if_neg (show ¬ (0 : Int32) = 5 by decide), if_pos rfl]
theorem j_s1 (hτ : JR τ S) (hI : Inv (sA S) B) (hn : 1000 < n) (b : Int32) : fX8_soldBy n 125 b 1 τ = some (sCm (sA S) b) := by
  rw [j_soldBy hτ hI.1 hn b 1]
  refine congrArg some (zsm_congr (fun i hi => ?_))
  rw [if_neg (show ¬ (1 : Int32) = 5 by decide), if_neg (show ¬ (1 : Int32) = 0 by decide), if_pos rfl]
theorem j_s4 (hτ : JR τ S) (hI : Inv (sA S) B) (hn : 1000 < n) (b : Int32) : fX8_soldBy n 125 b 4 τ = some (sCt (sA S) b 2) := by
  rw [j_soldBy hτ hI.1 hn b 4]
  refine congrArg some (zsm_congr (fun i hi => ?_))
  rw [if_neg (show ¬ (4 : Int32) = 5 by decide), if_neg (show ¬ (4 : Int32) = 0 by decide), if_neg (show ¬ (4 : Int32) = 1 by decide)]
theorem j_s5 (hτ : JR τ S) (hI : Inv (sA S) B) (hn : 1000 < n) (b : Int32) : fX8_soldBy n 125 b 5 τ = some (sCt (sA S) b 3) := by
  rw [j_soldBy hτ hI.1 hn b 5]
  refine congrArg some (zsm_congr (fun i hi => ?_))
  rw [if_pos rfl, if_neg (show ¬ (5 : Int32) = 0 by decide), if_neg (show ¬ (5 : Int32) = 1 by decide)]
theorem j_gets (hτ : JR τ S) (hI : Inv (sA S) B) (hn : 1000 < n) {s : Nat} (hs : s < 6) : fX8_gets n 125 (Int32.ofNat s) τ = some (sPf (sA S) (Int32.ofNat s) - sCm (sA S) (Int32.ofNat s) - sA S (985 + s)) := by
  apply wp_eq
  unfold fX8_gets
  refine wpE (zck_e hτ.k) ?_
  refine wpE (zb_e (j_s0 hτ hI hn _)) ?_
  refine wpE (zck_e hτ.k) ?_
  refine wpE (zb_e (j_s1 hτ hI hn _)) ?_
  refine wpE (zgR_e hτ.k hτ.w) ?_
  refine wpE (zaW_e hτ iy985 (by omega)) ?_
  exact wp_some rfl
theorem c_proceedsOf (hJ : JC σ S c) (hI : Inv (sA S) B) (hn : 1000 < n) {s : Nat} (hs : s < 6) : fX3_proceedsOf n 5 (Int32.ofNat s) σ = some (sPf (sA S) (Int32.ofNat s) - sCm (sA S) (Int32.ofNat s) - sA S (985 + s)) := by
  have hR := hJ.rep
  apply wp_eq
  unfold fX3_proceedsOf
  refine wpE (zck_e hR.1.kS) ?_
  refine wpE (zb_e (c_pricesFor hR hI.1 hn _)) ?_
  refine wpE (zck_e hR.1.kS) ?_
  refine wpE (zb_e (c_commissionsOf hR hI.1 hn _)) ?_
  refine wpE (zgR_e hR.1.kS hR.1.r2) ?_
  refine wpE (zaN_e hR.1.kF hR.1.lF hs (by decide) (hR.fee hs)) ?_
  exact wp_some rfl

theorem o_bidder (hJ : JC σ S c) (hW : zK σ 131 = 23 ∧ zL σ 131 = 1) (hS : SI S (100 * c)) (hcc : c ≤ 512) (hn : 30000 < n) (q w : Int32) : OPR (fL_bidder n 4 q w 131) (fX8_bidder n 125 q w) σ S c := by
  have rm := hJ.room (by omega)
  have hR := hJ.rep
  have hI := hS.1
  rcases bid_cases q with ⟨b, rfl, hb, w1, w2⟩ | ⟨w1, w2⟩
  · by_cases hw : 0 ≤ w ∧ w ≤ 6
    · obtain ⟨x, rfl, -, hx⟩ := in_cases 0 6 (by decide) (by decide) hw
      have hx7 : x = 0 ∨ x = 1 ∨ x = 2 ∨ x = 3 ∨ x = 4 ∨ x = 5 ∨ x = 6 := by omega
      rcases hx7 with rfl | rfl | rfl | rfl | rfl | rfl | rfl
      · refine o_rd (v := sA S (13 + b)) (X := fX7_bidder n 4 _ _) hJ hS hW ?_ (fun τ hτ => ?_)
        · unfold fX7_bidder
          refine wpE (zbx_l (cn_bid w1)) ?_
          refine wpE (zbx_l (cn_in hw)) ?_
          refine wpE (if_pos (by decide)) ?_
          refine wpE (zgR_e hJ.x hJ.xs) ?_
          refine wpE (zgR_e hR.1.kS hR.1.r1) ?_
          refine wpE (zaN_e hR.1.kR hR.1.lR hb (by decide) (hR.crd hb)) ?_
          exact fin_rd hJ
        · have hT := Tr.one (k := 0) hτ
          have h2 := hT.2.2
          unfold fX8_bidder
          refine wpE (zb_e (jn_bid w2)) ?_
          refine wpE (if_neg one_ne) ?_
          refine wpE (zb_e (jn_in hw)) ?_
          refine wpE (if_neg one_ne) ?_
          unfold sX8_bidder_27
          refine wpE (thr_set hτ) ?_
          refine wpE (if_pos rfl) ?_
          refine wpE (if_pos (by decide)) ?_
          refine wpE (zgR_e h2.k h2.w) ?_
          refine wpE (zaW_e h2 iy13 (by omega)) ?_
          exact wp_some ⟨rfl, hT⟩
      · refine o_rd (v := bPr (sA S) (Int32.ofNat b)) (X := fX7_bidder n 4 _ _) hJ hS hW ?_ (fun τ hτ => ?_)
        · unfold fX7_bidder
          refine wpE (zbx_l (cn_bid w1)) ?_
          refine wpE (zbx_l (cn_in hw)) ?_
          refine wpE (if_neg (by decide)) ?_
          refine wpE (if_pos (by decide)) ?_
          refine wpE (zgR_e hJ.x hJ.xs) ?_
          refine wpE (zck_e hR.1.kS) ?_
          refine wpE (zb_e (c_pricesTo hR hI.1 (by omega) _)) ?_
          exact fin_rd hJ
        · have hT := Tr.one (k := 0) hτ
          have h2 := hT.2.2
          unfold fX8_bidder
          refine wpE (zb_e (jn_bid w2)) ?_
          refine wpE (if_neg one_ne) ?_
          refine wpE (zb_e (jn_in hw)) ?_
          refine wpE (if_neg one_ne) ?_
          unfold sX8_bidder_27
          refine wpE (thr_set hτ) ?_
          refine wpE (if_pos rfl) ?_
          refine wpE (if_neg (by decide)) ?_
          refine wpE (if_pos (by decide)) ?_
          refine wpE (zck_e h2.k) ?_
          refine wpE (zb_e (j_b1 h2 hI (by omega) _)) ?_
          exact wp_some ⟨rfl, hT⟩
      · refine o_rd (v := bPm (sA S) (Int32.ofNat b)) (X := fX7_bidder n 4 _ _) hJ hS hW ?_ (fun τ hτ => ?_)
        · unfold fX7_bidder
          refine wpE (zbx_l (cn_bid w1)) ?_
          refine wpE (zbx_l (cn_in hw)) ?_
          refine wpE (if_neg (by decide)) ?_
          refine wpE (if_neg (by decide)) ?_
          refine wpE (if_pos (by decide)) ?_
          refine wpE (zgR_e hJ.x hJ.xs) ?_
          refine wpE (zck_e hR.1.kS) ?_
          refine wpE (zb_e (c_premiumsOf hR hI.1 (by omega) _)) ?_
          exact fin_rd hJ
        · have hT := Tr.one (k := 0) hτ
          have h2 := hT.2.2
          unfold fX8_bidder
          refine wpE (zb_e (jn_bid w2)) ?_
          refine wpE (if_neg one_ne) ?_
          refine wpE (zb_e (jn_in hw)) ?_
          refine wpE (if_neg one_ne) ?_
          unfold sX8_bidder_27
          refine wpE (thr_set hτ) ?_
          refine wpE (if_pos rfl) ?_
          refine wpE (if_neg (by decide)) ?_
          refine wpE (if_neg (by decide)) ?_
          refine wpE (if_pos (by decide)) ?_
          refine wpE (zck_e h2.k) ?_
          refine wpE (zb_e (j_b2 h2 hI (by omega) _)) ?_
          exact wp_some ⟨rfl, hT⟩
      · refine o_rd (v := bPr (sA S) (Int32.ofNat b) + bPm (sA S) (Int32.ofNat b)) (X := fX7_bidder n 4 _ _) hJ hS hW ?_ (fun τ hτ => ?_)
        · unfold fX7_bidder
          refine wpE (zbx_l (cn_bid w1)) ?_
          refine wpE (zbx_l (cn_in hw)) ?_
          refine wpE (if_neg (by decide)) ?_
          refine wpE (if_neg (by decide)) ?_
          refine wpE (if_neg (by decide)) ?_
          refine wpE (if_pos (by decide)) ?_
          refine wpE (zgR_e hJ.x hJ.xs) ?_
          refine wpE (zck_e hR.1.kS) ?_
          refine wpE (zb_e (c_pricesTo hR hI.1 (by omega) _)) ?_
          refine wpE (zgR_e hJ.x hJ.xs) ?_
          refine wpE (zck_e hR.1.kS) ?_
          refine wpE (zb_e (c_premiumsOf hR hI.1 (by omega) _)) ?_
          exact fin_rd hJ
        · have hT := Tr.one (k := 0) hτ
          have h2 := hT.2.2
          unfold fX8_bidder
          refine wpE (zb_e (jn_bid w2)) ?_
          refine wpE (if_neg one_ne) ?_
          refine wpE (zb_e (jn_in hw)) ?_
          refine wpE (if_neg one_ne) ?_
          unfold sX8_bidder_27
          refine wpE (thr_set hτ) ?_
          refine wpE (if_pos rfl) ?_
          refine wpE (if_neg (by decide)) ?_
          refine wpE (if_neg (by decide)) ?_
          refine wpE (if_neg (by decide)) ?_
          refine wpE (if_pos (by decide)) ?_
          refine wpE (zck_e h2.k) ?_
          refine wpE (zb_e (j_b1 h2 hI (by omega) _)) ?_
          refine wpE (zck_e h2.k) ?_
          refine wpE (zb_e (j_b2 h2 hI (by omega) _)) ?_
          exact wp_some ⟨rfl, hT⟩
      · refine o_rd (v := bCt (sA S) (Int32.ofNat b)) (X := fX7_bidder n 4 _ _) hJ hS hW ?_ (fun τ hτ => ?_)
        · unfold fX7_bidder
          refine wpE (zbx_l (cn_bid w1)) ?_
          refine wpE (zbx_l (cn_in hw)) ?_
          refine wpE (if_neg (by decide)) ?_
          refine wpE (if_neg (by decide)) ?_
          refine wpE (if_neg (by decide)) ?_
          refine wpE (if_neg (by decide)) ?_
          refine wpE (if_pos (by decide)) ?_
          refine wpE (zgR_e hJ.x hJ.xs) ?_
          refine wpE (zck_e hR.1.kS) ?_
          refine wpE (zb_e (c_lotsTo hR hI.1 (by omega) _)) ?_
          exact fin_rd hJ
        · have hT := Tr.one (k := 0) hτ
          have h2 := hT.2.2
          unfold fX8_bidder
          refine wpE (zb_e (jn_bid w2)) ?_
          refine wpE (if_neg one_ne) ?_
          refine wpE (zb_e (jn_in hw)) ?_
          refine wpE (if_neg one_ne) ?_
          unfold sX8_bidder_27
          refine wpE (thr_set hτ) ?_
          refine wpE (if_pos rfl) ?_
          refine wpE (if_neg (by decide)) ?_
          refine wpE (if_neg (by decide)) ?_
          refine wpE (if_neg (by decide)) ?_
          refine wpE (if_neg (by decide)) ?_
          refine wpE (if_pos (by decide)) ?_
          refine wpE (zck_e h2.k) ?_
          refine wpE (zb_e (j_b0 h2 hI (by omega) _)) ?_
          exact wp_some ⟨rfl, hT⟩
      · refine o_rd (v := xpo (sA S) (Int32.ofNat b)) (X := fX7_bidder n 4 _ _) hJ hS hW ?_ (fun τ hτ => ?_)
        · unfold fX7_bidder
          refine wpE (zbx_l (cn_bid w1)) ?_
          refine wpE (zbx_l (cn_in hw)) ?_
          refine wpE (if_neg (by decide)) ?_
          refine wpE (if_neg (by decide)) ?_
          refine wpE (if_neg (by decide)) ?_
          refine wpE (if_neg (by decide)) ?_
          refine wpE (if_neg (by decide)) ?_
          refine wpE (if_pos (by decide)) ?_
          refine wpE (zck_e hJ.x) ?_
          obtain ⟨p2, e2, u2, F2⟩ := c_exposureOf (n := n) hJ hI (by omega) (Int32.ofNat b)
          refine wpE (zb2_e (v := p2.1) (s := p2.2) e2) ?_
          rw [u2]
          exact wp_some ⟨_, rfl, hJ.v F2, FC.v F2⟩
        · have hT := Tr.one (k := 0) hτ
          have h2 := hT.2.2
          unfold fX8_bidder
          refine wpE (zb_e (jn_bid w2)) ?_
          refine wpE (if_neg one_ne) ?_
          refine wpE (zb_e (jn_in hw)) ?_
          refine wpE (if_neg one_ne) ?_
          unfold sX8_bidder_27
          refine wpE (thr_set hτ) ?_
          refine wpE (if_pos rfl) ?_
          refine wpE (if_neg (by decide)) ?_
          refine wpE (if_neg (by decide)) ?_
          refine wpE (if_neg (by decide)) ?_
          refine wpE (if_neg (by decide)) ?_
          refine wpE (if_neg (by decide)) ?_
          refine wpE (if_pos (by decide)) ?_
          refine wpE (zck_e h2.k) ?_
          obtain ⟨p2, e2, u2, s2⟩ := j_exposureOf (n := n) h2 hI (by omega) hb
          refine wpE (zb2_e (v := p2.1) (s := p2.2) e2) ?_
          exact wp_some ⟨u2, Sm.thr hT s2⟩
      · refine o_rd (v := zac (ldg (sA S) (Int32.ofNat b)) 0 (mk (sA S)) 0) (X := fX7_bidder n 4 _ _) hJ hS hW ?_ (fun τ hτ => ?_)
        · unfold fX7_bidder
          refine wpE (zbx_l (cn_bid w1)) ?_
          refine wpE (zbx_l (cn_in hw)) ?_
          refine wpE (if_neg (by decide)) ?_
          refine wpE (if_neg (by decide)) ?_
          refine wpE (if_neg (by decide)) ?_
          refine wpE (if_neg (by decide)) ?_
          refine wpE (if_neg (by decide)) ?_
          refine wpE (if_neg (by decide)) ?_
          refine wpE (zck_e hJ.x) ?_
          obtain ⟨p2, e2, u2, F2⟩ := c_leadsOf (n := n) hJ hI (by omega) (Int32.ofNat b)
          refine wpE (zb2_e (v := p2.1) (s := p2.2) e2) ?_
          rw [u2]
          exact wp_some ⟨_, rfl, hJ.v F2, FC.v F2⟩
        · have hT := Tr.one (k := 0) hτ
          have h2 := hT.2.2
          unfold fX8_bidder
          refine wpE (zb_e (jn_bid w2)) ?_
          refine wpE (if_neg one_ne) ?_
          refine wpE (zb_e (jn_in hw)) ?_
          refine wpE (if_neg one_ne) ?_
          unfold sX8_bidder_27
          refine wpE (thr_set hτ) ?_
          refine wpE (if_pos rfl) ?_
          refine wpE (if_neg (by decide)) ?_
          refine wpE (if_neg (by decide)) ?_
          refine wpE (if_neg (by decide)) ?_
          refine wpE (if_neg (by decide)) ?_
          refine wpE (if_neg (by decide)) ?_
          refine wpE (if_neg (by decide)) ?_
          refine wpE (zck_e h2.k) ?_
          obtain ⟨p2, e2, u2, s2⟩ := j_leads (n := n) h2 hI (by omega) (Int32.ofNat b)
          refine wpE (zb2_e (v := p2.1) (s := p2.2) e2) ?_
          exact wp_some ⟨u2, Sm.thr hT s2⟩
    · refine o_thr (e := 2) (k := 2) (X := fX7_bidder n 4 _ _) hJ hS rfl (by decide) ?_ (fun τ hτ => ?_)
      · unfold fX7_bidder
        refine wpE (zbx_l (cn_bid w1)) ?_
        refine wpE (zbx_r (cn_in_x rm hw)) ?_
        exact wp_some rfl
      · unfold fX8_bidder
        refine wpE (zb_e (jn_bid w2)) ?_
        refine wpE (if_neg one_ne) ?_
        refine wpE (zb_e (jn_in_x hw)) ?_
        refine wpE (if_pos rfl) ?_
        unfold sX8_bidder_27
        refine wpE (thr_set hτ) ?_
        refine wpE (if_neg (by decide)) ?_
        exact wp_some (Tr.one hτ)
  · refine o_thr (e := 1) (k := 1) (X := fX7_bidder n 4 _ _) hJ hS rfl (by decide) ?_ (fun τ hτ => ?_)
    · unfold fX7_bidder
      refine wpE (zbx_r (cn_bid_x rm w1)) ?_
      exact wp_some rfl
    · unfold fX8_bidder
      refine wpE (zb_e (jn_bid_x w2)) ?_
      refine wpE (if_pos rfl) ?_
      unfold sX8_bidder_27
      refine wpE (thr_set hτ) ?_
      refine wpE (if_neg (by decide)) ?_
      exact wp_some (Tr.one hτ)
theorem sel_cases (p : Int32) : (∃ s, p = Int32.ofNat s ∧ s < 6 ∧ ¬ p < 0 ∧ p < 6 ∧ (0 ≤ p ∧ p ≤ 5)) ∨ ((p < 0 ∨ (¬ p < 0 ∧ ¬ p < 6)) ∧ ¬ (0 ≤ p ∧ p ≤ 5)) := by
  by_cases h0 : 0 ≤ p
  · obtain ⟨i, rfl, hi, -⟩ := io_of h0
    have e1 : (Int32.ofNat i < 6) = (i < 6) := io_lt (b := 6) hi (by decide)
    have e2 : (Int32.ofNat i ≤ 5) = (i ≤ 5) := io_le (b := 5) hi (by decide)
    by_cases h : i < 6
    · exact Or.inl ⟨i, rfl, h, Int32.not_lt.mpr h0, e1.symm ▸ h, ⟨h0, e2.symm ▸ (show i ≤ 5 by omega)⟩⟩
    · exact Or.inr ⟨Or.inr ⟨Int32.not_lt.mpr h0, fun q => h (e1 ▸ q)⟩, fun q => by have := e2 ▸ q.2; omega⟩
  · exact Or.inr ⟨Or.inl (Int32.not_le.mp h0), fun q => h0 q.1⟩
theorem o_seller (hJ : JC σ S c) (hW : zK σ 131 = 23 ∧ zL σ 131 = 1) (hS : SI S (100 * c)) (hcc : c ≤ 512) (hn : 30000 < n) (q w : Int32) : OPR (fL_seller n 4 q w 131) (fX8_seller n 125 q w) σ S c := by
  have rm := hJ.room (by omega)
  have hR := hJ.rep
  have hI := hS.1
  rcases sel_cases q with ⟨b, rfl, hb, w1, w3, w2⟩ | ⟨w1, w2⟩
  · by_cases hw : 0 ≤ w ∧ w ≤ 5
    · obtain ⟨x, rfl, -, hx⟩ := in_cases 0 5 (by decide) (by decide) hw
      have hx7 : x = 0 ∨ x = 1 ∨ x = 2 ∨ x = 3 ∨ x = 4 ∨ x = 5 := by omega
      rcases hx7 with rfl | rfl | rfl | rfl | rfl | rfl
      · refine o_rd (v := sPf (sA S) (Int32.ofNat b)) (X := fX7_seller n 4 _ _) hJ hS hW ?_ (fun τ hτ => ?_)
        · unfold fX7_seller
          refine wpE (if_neg w1) ?_
          refine wpE (if_pos w3) ?_
          refine wpE (zbx_l (cn_in hw)) ?_
          refine wpE (if_pos (by decide)) ?_
          refine wpE (zgR_e hJ.x hJ.xs) ?_
          refine wpE (zck_e hR.1.kS) ?_
          refine wpE (zb_e (c_pricesFor hR hI.1 (by omega) _)) ?_
          exact fin_rd hJ
        · have hT := Tr.one (k := 0) hτ
          have h2 := hT.2.2
          unfold fX8_seller
          refine wpE (zb_e (jn_in w2)) ?_
          refine wpE (if_neg one_ne) ?_
          refine wpE (zb_e (jn_in hw)) ?_
          refine wpE (if_neg one_ne) ?_
          unfold sX8_seller_28
          refine wpE (thr_set hτ) ?_
          refine wpE (if_pos rfl) ?_
          refine wpE (if_neg (by decide)) ?_
          refine wpE (if_neg (by decide)) ?_
          refine wpE (zck_e h2.k) ?_
          refine wpE (zb_e (j_s0 h2 hI (by omega) _)) ?_
          exact wp_some ⟨rfl, hT⟩
      · refine o_rd (v := sCm (sA S) (Int32.ofNat b)) (X := fX7_seller n 4 _ _) hJ hS hW ?_ (fun τ hτ => ?_)
        · unfold fX7_seller
          refine wpE (if_neg w1) ?_
          refine wpE (if_pos w3) ?_
          refine wpE (zbx_l (cn_in hw)) ?_
          refine wpE (if_neg (by decide)) ?_
          refine wpE (if_pos (by decide)) ?_
          refine wpE (zgR_e hJ.x hJ.xs) ?_
          refine wpE (zck_e hR.1.kS) ?_
          refine wpE (zb_e (c_commissionsOf hR hI.1 (by omega) _)) ?_
          exact fin_rd hJ
        · have hT := Tr.one (k := 0) hτ
          have h2 := hT.2.2
          unfold fX8_seller
          refine wpE (zb_e (jn_in w2)) ?_
          refine wpE (if_neg one_ne) ?_
          refine wpE (zb_e (jn_in hw)) ?_
          refine wpE (if_neg one_ne) ?_
          unfold sX8_seller_28
          refine wpE (thr_set hτ) ?_
          refine wpE (if_pos rfl) ?_
          refine wpE (if_neg (by decide)) ?_
          refine wpE (if_neg (by decide)) ?_
          refine wpE (zck_e h2.k) ?_
          refine wpE (zb_e (j_s1 h2 hI (by omega) _)) ?_
          exact wp_some ⟨rfl, hT⟩
      · refine o_rd (v := sA S (985 + b)) (X := fX7_seller n 4 _ _) hJ hS hW ?_ (fun τ hτ => ?_)
        · unfold fX7_seller
          refine wpE (if_neg w1) ?_
          refine wpE (if_pos w3) ?_
          refine wpE (zbx_l (cn_in hw)) ?_
          refine wpE (if_neg (by decide)) ?_
          refine wpE (if_neg (by decide)) ?_
          refine wpE (if_pos (by decide)) ?_
          refine wpE (zgR_e hJ.x hJ.xs) ?_
          refine wpE (zgR_e hR.1.kS hR.1.r2) ?_
          refine wpE (zaN_e hR.1.kF hR.1.lF hb (by decide) (hR.fee hb)) ?_
          exact fin_rd hJ
        · have hT := Tr.one (k := 0) hτ
          have h2 := hT.2.2
          unfold fX8_seller
          refine wpE (zb_e (jn_in w2)) ?_
          refine wpE (if_neg one_ne) ?_
          refine wpE (zb_e (jn_in hw)) ?_
          refine wpE (if_neg one_ne) ?_
          unfold sX8_seller_28
          refine wpE (thr_set hτ) ?_
          refine wpE (if_pos rfl) ?_
          refine wpE (if_pos (by decide)) ?_
          refine wpE (zgR_e h2.k h2.w) ?_
          refine wpE (zaW_e h2 iy985 (by omega)) ?_
          exact wp_some ⟨rfl, hT⟩
      · refine o_rd (v := sPf (sA S) (Int32.ofNat b) - sCm (sA S) (Int32.ofNat b) - sA S (985 + b)) (X := fX7_seller n 4 _ _) hJ hS hW ?_ (fun τ hτ => ?_)
        · unfold fX7_seller
          refine wpE (if_neg w1) ?_
          refine wpE (if_pos w3) ?_
          refine wpE (zbx_l (cn_in hw)) ?_
          refine wpE (if_neg (by decide)) ?_
          refine wpE (if_neg (by decide)) ?_
          refine wpE (if_neg (by decide)) ?_
          refine wpE (if_pos (by decide)) ?_
          refine wpE (zgR_e hJ.x hJ.xs) ?_
          refine wpE (zck_e hR.1.kS) ?_
          refine wpE (zb_e (c_proceedsOf hJ hI (by omega) hb)) ?_
          exact fin_rd hJ
        · have hT := Tr.one (k := 0) hτ
          have h2 := hT.2.2
          unfold fX8_seller
          refine wpE (zb_e (jn_in w2)) ?_
          refine wpE (if_neg one_ne) ?_
          refine wpE (zb_e (jn_in hw)) ?_
          refine wpE (if_neg one_ne) ?_
          unfold sX8_seller_28
          refine wpE (thr_set hτ) ?_
          refine wpE (if_pos rfl) ?_
          refine wpE (if_neg (by decide)) ?_
          refine wpE (if_pos (by decide)) ?_
          refine wpE (zck_e h2.k) ?_
          refine wpE (zb_e (j_gets h2 hI (by omega) hb)) ?_
          exact wp_some ⟨rfl, hT⟩
      · refine o_rd (v := sCt (sA S) (Int32.ofNat b) 2) (X := fX7_seller n 4 _ _) hJ hS hW ?_ (fun τ hτ => ?_)
        · unfold fX7_seller
          refine wpE (if_neg w1) ?_
          refine wpE (if_pos w3) ?_
          refine wpE (zbx_l (cn_in hw)) ?_
          refine wpE (if_neg (by decide)) ?_
          refine wpE (if_neg (by decide)) ?_
          refine wpE (if_neg (by decide)) ?_
          refine wpE (if_neg (by decide)) ?_
          refine wpE (if_pos (by decide)) ?_
          refine wpE (zgR_e hJ.x hJ.xs) ?_
          refine wpE (zck_e hR.1.kS) ?_
          refine wpE (zb_e (c_lotsOf hR hI.1 (by omega) _ _)) ?_
          exact fin_rd hJ
        · have hT := Tr.one (k := 0) hτ
          have h2 := hT.2.2
          unfold fX8_seller
          refine wpE (zb_e (jn_in w2)) ?_
          refine wpE (if_neg one_ne) ?_
          refine wpE (zb_e (jn_in hw)) ?_
          refine wpE (if_neg one_ne) ?_
          unfold sX8_seller_28
          refine wpE (thr_set hτ) ?_
          refine wpE (if_pos rfl) ?_
          refine wpE (if_neg (by decide)) ?_
          refine wpE (if_neg (by decide)) ?_
          refine wpE (zck_e h2.k) ?_
          refine wpE (zb_e (j_s4 h2 hI (by omega) _)) ?_
          exact wp_some ⟨rfl, hT⟩
      · refine o_rd (v := sCt (sA S) (Int32.ofNat b) 3) (X := fX7_seller n 4 _ _) hJ hS hW ?_ (fun τ hτ => ?_)
        · unfold fX7_seller
          refine wpE (if_neg w1) ?_
          refine wpE (if_pos w3) ?_
          refine wpE (zbx_l (cn_in hw)) ?_
          refine wpE (if_neg (by decide)) ?_
          refine wpE (if_neg (by decide)) ?_
          refine wpE (if_neg (by decide)) ?_
          refine wpE (if_neg (by decide)) ?_
          refine wpE (if_neg (by decide)) ?_
          refine wpE (zgR_e hJ.x hJ.xs) ?_
          refine wpE (zck_e hR.1.kS) ?_
          refine wpE (zb_e (c_lotsOf hR hI.1 (by omega) _ _)) ?_
          exact fin_rd hJ
        · have hT := Tr.one (k := 0) hτ
          have h2 := hT.2.2
          unfold fX8_seller
          refine wpE (zb_e (jn_in w2)) ?_
          refine wpE (if_neg one_ne) ?_
          refine wpE (zb_e (jn_in hw)) ?_
          refine wpE (if_neg one_ne) ?_
          unfold sX8_seller_28
          refine wpE (thr_set hτ) ?_
          refine wpE (if_pos rfl) ?_
          refine wpE (if_neg (by decide)) ?_
          refine wpE (if_neg (by decide)) ?_
          refine wpE (zck_e h2.k) ?_
          refine wpE (zb_e (j_s5 h2 hI (by omega) _)) ?_
          exact wp_some ⟨rfl, hT⟩
    · refine o_thr (e := 2) (k := 2) (X := fX7_seller n 4 _ _) hJ hS rfl (by decide) ?_ (fun τ hτ => ?_)
      · unfold fX7_seller
        refine wpE (if_neg w1) ?_
        refine wpE (if_pos w3) ?_
        refine wpE (zbx_r (cn_in_x rm hw)) ?_
        exact wp_some rfl
      · unfold fX8_seller
        refine wpE (zb_e (jn_in w2)) ?_
        refine wpE (if_neg one_ne) ?_
        refine wpE (zb_e (jn_in_x hw)) ?_
        refine wpE (if_pos rfl) ?_
        unfold sX8_seller_28
        refine wpE (thr_set hτ) ?_
        refine wpE (if_neg (by decide)) ?_
        exact wp_some (Tr.one hτ)
  · refine o_thr (e := 1) (k := 1) (X := fX7_seller n 4 _ _) hJ hS rfl (by decide) ?_ (fun τ hτ => ?_)
    · unfold fX7_seller sX7_seller_10
      rcases w1 with w1 | ⟨w1, w3⟩
      · refine wpE (if_pos w1) ?_
        refine wpE (zth_e rm.1 rm.2) ?_
        exact wp_some rfl
      · refine wpE (if_neg w1) ?_
        refine wpE (if_neg w3) ?_
        refine wpE (zth_e rm.1 rm.2) ?_
        exact wp_some rfl
    · unfold fX8_seller
      refine wpE (zb_e (jn_in_x w2)) ?_
      refine wpE (if_pos rfl) ?_
      unfold sX8_seller_28
      refine wpE (thr_set hτ) ?_
      refine wpE (if_neg (by decide)) ?_
      exact wp_some (Tr.one hτ)
/-! events -/
theorem o_events (hJ : JC σ S c) (hW : zK σ 131 = 23 ∧ zL σ 131 = 1) (hS : SI S (100 * c)) (hcc : c ≤ 512) (hn : 30000 < n) (w : Int32) : OPR (fL_events n 4 w 131) (fX8_events n 125 w) σ S c := by
  have rm := hJ.room (by omega)
  have hC := hS.1.1
  have hR := hJ.rep
  by_cases hw : -1 ≤ w ∧ w ≤ 9
  · refine o_rd (v := zsm (kp (sA S)) (fun i => if w = -1 ∨ sA S (992 + 4 * i) = w then 1 else 0)) (X := fX7_events n 4 _) hJ hS hW ?_ (fun τ hτ => ?_)
    · unfold fX7_events
      refine wpE (zbx_l (cn_in hw)) ?_
      by_cases h1 : w = -1
      · refine wpE (if_pos h1) ?_
        refine wpE (zgR_e hJ.x hJ.xs) ?_
        refine wpE (zgR_e hR.1.kS hR.1.r4) ?_
        refine wpE (zgI_e hR.1.kG hR.kept) ?_
        have e : zsm (kp (sA S)) (fun i => if w = -1 ∨ sA S (992 + 4 * i) = w then 1 else 0) = sA S 991 := by
          rw [zsm_congr (g' := fun _ => 1) (fun j _ => if_pos (Or.inl h1)), zsm_one, hC.2.2.1]
        rw [e]
        exact fin_rd hJ
      · refine wpE (if_neg h1) ?_
        refine wpE (zgR_e hJ.x hJ.xs) ?_
        refine wpE (zgR_e hR.1.kS hR.1.r4) ?_
        refine wpE (zck_e hR.1.kG) ?_
        refine wpE (zb_e (c_countOf hR hC (by omega) w)) ?_
        have e : zsm (kp (sA S)) (fun i => if w = -1 ∨ sA S (992 + 4 * i) = w then 1 else 0) = zsm (kp (sA S)) (fun i => if sA S (992 + 4 * i + 0) = w then 1 else 0) := zsm_congr (fun j _ => by
          rw [Nat.add_zero]
          by_cases q : sA S (992 + 4 * j) = w
          · rw [if_pos q, if_pos (Or.inr q)]
          · rw [if_neg q, if_neg (fun z => by rcases z with z | z; exact h1 z; exact q z)])
        rw [e]
        exact fin_rd hJ
    · have hT := Tr.one (k := 0) hτ
      have h2 := hT.2.2
      unfold fX8_events
      refine wpE (zpI_e hτ.k rfl) ?_
      refine wpE (zb_e (jn_in hw)) ?_
      refine wpE (if_neg one_ne) ?_
      refine wpE (zck_e h2.k) ?_
      refine wpE (zb_e (j_eventsOf h2 hC (by omega) w)) ?_
      exact wp_some ⟨rfl, hT⟩
  · refine o_thr (e := 2) (k := 1) (X := fX7_events n 4 _) hJ hS rfl (by decide) ?_ (fun τ hτ => ?_)
    · unfold fX7_events
      refine wpE (zbx_r (cn_in_x rm hw)) ?_
      exact wp_some rfl
    · have h2 := (Tr.one (k := 0) hτ).2.2
      unfold fX8_events
      refine wpE (zpI_e hτ.k rfl) ?_
      refine wpE (zb_e (jn_in_x hw)) ?_
      refine wpE (if_pos rfl) ?_
      refine wpE (zck_e h2.k) ?_
      refine wpE (zb2_e (jn_fail h2)) ?_
      exact wp_some (Tr.two hτ)
theorem ev_cases {a : Nat → Int32} (hc : Cn a) (p : Int32) : (∃ k, p = Int32.ofNat k ∧ k < kp a ∧ k < 250 ∧ ¬ p < 0 ∧ p < a 991 ∧ (0 ≤ p ∧ p ≤ a 991 - 1)) ∨ ((p < 0 ∨ (¬ p < 0 ∧ ¬ p < a 991)) ∧ ¬ (0 ≤ p ∧ p ≤ a 991 - 1)) := by
  obtain ⟨-, -, h991, hk⟩ := hc
  by_cases h0 : 0 ≤ p
  · obtain ⟨i, rfl, hi, -⟩ := io_of h0
    have e1 : (Int32.ofNat i < a 991) = (i < kp a) := by rw [h991, io_lt hi (by omega)]
    by_cases hz : kp a = 0
    · refine Or.inr ⟨Or.inr ⟨Int32.not_lt.mpr h0, fun q => by have := e1 ▸ q; omega⟩, fun q => ?_⟩
      have q2 := q.2
      rw [h991, hz] at q2
      have h5 : (0 : Int32) ≤ Int32.ofNat i := h0
      have : (0 : Int32) ≤ Int32.ofNat 0 - 1 := Int32.le_trans h5 q2
      exact absurd this (by decide)
    · have e2 : (Int32.ofNat i ≤ a 991 - 1) = (i ≤ kp a - 1) := by rw [h991, io_one (by omega), io_le hi (by omega)]
      by_cases h : i < kp a
      · exact Or.inl ⟨i, rfl, h, by omega, Int32.not_lt.mpr h0, e1.symm ▸ h, ⟨h0, e2.symm ▸ (show i ≤ kp a - 1 by omega)⟩⟩
      · exact Or.inr ⟨Or.inr ⟨Int32.not_lt.mpr h0, fun q => h (e1 ▸ q)⟩, fun q => by have := e2 ▸ q.2; omega⟩
  · exact Or.inr ⟨Or.inl (Int32.not_le.mp h0), fun q => h0 q.1⟩
theorem o_event (hJ : JC σ S c) (hW : zK σ 131 = 23 ∧ zL σ 131 = 1) (hS : SI S (100 * c)) (hcc : c ≤ 512) (hn : 30000 < n) (q w : Int32) : OPR (fL_event n 4 q w 131) (fX8_event n 125 q w) σ S c := by
  have rm := hJ.room (by omega)
  have hR := hJ.rep
  rcases ev_cases hS.1.1 q with ⟨k, rfl, hk, hk250, w1, w3, w2⟩ | ⟨w1, w2⟩
  · have hkv : k < (sA S 991).toNatClampNeg := hk
    by_cases hw : 0 ≤ w ∧ w ≤ 3
    · obtain ⟨x, rfl, -, hx⟩ := in_cases 0 3 (by decide) (by decide) hw
      refine o_rd (v := sA S (992 + 4 * k + x)) (X := fX7_event n 4 _ _) hJ hS hW ?_ (fun τ hτ => ?_)
      · unfold fX7_event
        refine wpE (zgR_e hJ.x hJ.xs) ?_
        refine wpE (zgR_e hR.1.kS hR.1.r4) ?_
        refine wpE (if_neg w1) ?_
        refine wpE (zgI_e hR.1.kG hR.kept) ?_
        refine wpE (if_pos w3) ?_
        refine wpE (zbx_l (cn_in hw)) ?_
        have hx7 : x = 0 ∨ x = 1 ∨ x = 2 ∨ x = 3 := by omega
        rcases hx7 with rfl | rfl | rfl | rfl
        · refine wpE (if_pos (by decide)) ?_
          refine wpE (zgR_e hR.1.kG hR.1.rG0) ?_
          refine wpE (zaN_e hR.1.kG0 hR.1.lG0 hk250 (by decide) (hR.ev0 hk250 hkv)) ?_
          exact fin_rd hJ
        · refine wpE (if_neg (by decide)) ?_
          refine wpE (if_pos (by decide)) ?_
          refine wpE (zgR_e hR.1.kG hR.1.rG1) ?_
          refine wpE (zaN_e hR.1.kG1 hR.1.lG1 hk250 (by decide) (hR.ev1 hk250 hkv)) ?_
          exact fin_rd hJ
        · refine wpE (if_neg (by decide)) ?_
          refine wpE (if_neg (by decide)) ?_
          refine wpE (if_pos (by decide)) ?_
          refine wpE (zgR_e hR.1.kG hR.1.rG2) ?_
          refine wpE (zaN_e hR.1.kG2 hR.1.lG2 hk250 (by decide) (hR.ev2 hk250 hkv)) ?_
          exact fin_rd hJ
        · refine wpE (if_neg (by decide)) ?_
          refine wpE (if_neg (by decide)) ?_
          refine wpE (if_neg (by decide)) ?_
          refine wpE (zgR_e hR.1.kG hR.1.rG3) ?_
          refine wpE (zaN_e hR.1.kG3 hR.1.lG3 hk250 (by decide) (hR.ev3 hk250 hkv)) ?_
          exact fin_rd hJ
      · have hT := Tr.one (k := 0) hτ
        have h2 := hT.2.2
        unfold fX8_event
        refine wpE (zgR_e hτ.k hτ.w) ?_
        refine wpE (zaW_e (j := 991) hτ rfl (by decide)) ?_
        refine wpE (zb_e (jn_in w2)) ?_
        refine wpE (if_neg one_ne) ?_
        refine wpE (zb_e (jn_in hw)) ?_
        refine wpE (if_neg one_ne) ?_
        unfold sX8_event_37
        refine wpE (thr_set hτ) ?_
        refine wpE (if_pos rfl) ?_
        refine wpE (zgR_e h2.k h2.w) ?_
        refine wpE (zaW_e h2 ((congrArg (· + Int32.ofNat x) ixe).trans ixl) (by omega)) ?_
        exact wp_some ⟨rfl, hT⟩
    · refine o_thr (e := 2) (k := 2) (X := fX7_event n 4 _ _) hJ hS rfl (by decide) ?_ (fun τ hτ => ?_)
      · unfold fX7_event
        refine wpE (zgR_e hJ.x hJ.xs) ?_
        refine wpE (zgR_e hR.1.kS hR.1.r4) ?_
        refine wpE (if_neg w1) ?_
        refine wpE (zgI_e hR.1.kG hR.kept) ?_
        refine wpE (if_pos w3) ?_
        refine wpE (zbx_r (cn_in_x rm hw)) ?_
        exact wp_some rfl
      · unfold fX8_event
        refine wpE (zgR_e hτ.k hτ.w) ?_
        refine wpE (zaW_e (j := 991) hτ rfl (by decide)) ?_
        refine wpE (zb_e (jn_in w2)) ?_
        refine wpE (if_neg one_ne) ?_
        refine wpE (zb_e (jn_in_x hw)) ?_
        refine wpE (if_pos rfl) ?_
        unfold sX8_event_37
        refine wpE (thr_set hτ) ?_
        refine wpE (if_neg (by decide)) ?_
        exact wp_some (Tr.one hτ)
  · refine o_thr (e := 1) (k := 1) (X := fX7_event n 4 _ _) hJ hS rfl (by decide) ?_ (fun τ hτ => ?_)
    · unfold fX7_event sX7_event_20
      refine wpE (zgR_e hJ.x hJ.xs) ?_
      refine wpE (zgR_e hR.1.kS hR.1.r4) ?_
      rcases w1 with w1 | ⟨w1, w3⟩
      · refine wpE (if_pos w1) ?_
        refine wpE (zth_e rm.1 rm.2) ?_
        exact wp_some rfl
      · refine wpE (if_neg w1) ?_
        refine wpE (zgI_e hR.1.kG hR.kept) ?_
        refine wpE (if_neg w3) ?_
        refine wpE (zth_e rm.1 rm.2) ?_
        exact wp_some rfl
    · unfold fX8_event
      refine wpE (zgR_e hτ.k hτ.w) ?_
      refine wpE (zaW_e (j := 991) hτ rfl (by decide)) ?_
      refine wpE (zb_e (jn_in_x w2)) ?_
      refine wpE (if_pos rfl) ?_
      unfold sX8_event_37
      refine wpE (thr_set hτ) ?_
      refine wpE (if_neg (by decide)) ?_
      exact wp_some (Tr.one hτ)
end
