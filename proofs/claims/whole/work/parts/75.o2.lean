/-! CALLS: the commands, steps, orders, reasons -/
theorem an_ok {n : Nat} {a : Int32} {σ : zW} (h : 0 ≤ a) : fX7_answered n a σ = some (.inl a, σ) := by
  have g : ∀ k : Int32, k < 0 → ¬ a = k := fun k hk q => by
    rw [q] at h
    exact absurd hk (Int32.not_lt.mpr h)
  unfold fX7_answered
  rw [if_neg (g _ (by decide)), if_neg (g _ (by decide)), if_neg (g _ (by decide)), if_neg (g _ (by decide)), if_neg (g _ (by decide))]
section
variable {σ τ : zW} {S S' : St} {c n B : Nat}
abbrev xAn (n : Nat) (F : zW → Option (Int32 × zW)) : zW → Option ((Int32 ⊕ Nat) × zW) := fun σ => zck σ 8 4 (zb2 (F σ) fun x1 σ2 => zbx (fX7_answered n x1 σ2) (fun x3 σ4 => some (.inl x3, σ4)) (fun e5 σ6 => some (.inr e5, σ6)))
theorem o_cmd {F G : zW → Option (Int32 × zW)} {tr : Nat → zW → Option (Int32 × zW)} {lk : Int32 → Int32 → Prop} (hC : CMD F G S (100 * c) c lk) (hJ : JC σ S c) (hW : zK σ 131 = 23 ∧ zL σ 131 = 1) (hcc : c ≤ 512)
    (hlk : ∀ ans k, lk ans k → (0 ≤ ans ∧ k = 0) ∨ (k ≠ 0 ∧ ¬ 0 ≤ ans ∧ ∃ e, (∀ σ : zW, (zN σ + 1 ≤ 603072 ∧ zS σ + 6 ≤ 7219305) → fX7_answered n ans σ = some (.inr e, nwX σ)) ∧ ∀ σ, tr e σ = some (k, σ))) : OPR (lF (xAn n F) tr) G σ S c := by
  obtain ⟨ans, k, S', ⟨hS', hE⟩, hk, hF, hG⟩ := hC
  obtain ⟨r, e, u, w⟩ := hF σ hJ
  rcases hlk ans k hk with ⟨h0, rfl⟩ | ⟨hk0, -, ee, h1, h2⟩
  · refine OPR.ok (v := ans) hJ hW ?_ w.1 w.2 (hS'.mono (by omega)) (fun τ hτ => ?_) (hE := hE)
    · refine (zck_e hJ.x).trans ((zb2_e (v := r.1) (s := r.2) e).trans ?_)
      rw [u]
      exact zbx_l (an_ok h0)
    · obtain ⟨q, g1, g2, g3, g4, g5⟩ := hG τ hτ
      exact ⟨q.2, by rw [← g3 h0]; exact g1, g2, g4, g5⟩
  · have rm := w.1.room (by omega)
    refine OPR.ex (e := ee) hJ ?_ (h2 _) hk0 w.1.thr (w.2.trans FC.thr) (hS'.mono (by omega)) (fun τ hτ => ?_) (hE := hE)
    · refine (zck_e hJ.x).trans ((zb2_e (v := r.1) (s := r.2) e).trans ?_)
      rw [u]
      exact zbx_r (h1 _ rm)
    · obtain ⟨q, g1, g2, g3, g4, g5⟩ := hG τ hτ
      exact ⟨q.1, q.2, g1, g2, g4, g5⟩
theorem an_x {σ : zW} (rm : zN σ + 1 ≤ 603072 ∧ zS σ + 6 ≤ 7219305) : fX7_answered n (-1) σ = some (.inr 1, nwX σ) ∧ fX7_answered n (-2) σ = some (.inr 2, nwX σ) ∧ fX7_answered n (-3) σ = some (.inr 3, nwX σ) ∧ fX7_answered n (-4) σ = some (.inr 4, nwX σ) ∧ fX7_answered n (-5) σ = some (.inr 5, nwX σ) := by
  unfold fX7_answered
  refine ⟨?_, ?_, ?_, ?_, ?_⟩
  · exact (if_neg (by decide)).trans ((if_neg (by decide)).trans ((if_neg (by decide)).trans ((if_neg (by decide)).trans ((if_pos (by decide)).trans (zth_e rm.1 rm.2)))))
  · exact (if_neg (by decide)).trans ((if_neg (by decide)).trans ((if_neg (by decide)).trans ((if_pos (by decide)).trans (zth_e rm.1 rm.2))))
  · exact (if_neg (by decide)).trans ((if_neg (by decide)).trans ((if_pos (by decide)).trans (zth_e rm.1 rm.2)))
  · exact (if_neg (by decide)).trans ((if_pos (by decide)).trans (zth_e rm.1 rm.2))
  · exact (if_pos (by decide)).trans (zth_e rm.1 rm.2)
theorem o_order (hJ : JC σ S c) (hW : zK σ 131 = 23 ∧ zL σ 131 = 1) (hS : SI S (100 * c)) (hcc : c ≤ 512) (hn : 30000 < n) (p q x : Int32) : OPR (fL_order n 4 p q x 131) (fX8_order n 125 p q x) σ S c :=
  o_cmd (n := n) (F := fX7_tryOrder n 4 p q x) (cmd_order hS (by omega) hn (by omega) p q x) hJ hW hcc (fun ans k h => by
    rcases h with h | ⟨rfl, rfl⟩ | ⟨rfl, rfl⟩ | ⟨rfl, rfl⟩
    · exact Or.inl h
    · exact Or.inr ⟨by decide, by decide, 1, fun σ rm => (an_x rm).1, fun σ => rfl⟩
    · exact Or.inr ⟨by decide, by decide, 2, fun σ rm => (an_x rm).2.1, fun σ => rfl⟩
    · exact Or.inr ⟨by decide, by decide, 5, fun σ rm => (an_x rm).2.2.2.2, fun σ => rfl⟩)
theorem o_bid (hJ : JC σ S c) (hW : zK σ 131 = 23 ∧ zL σ 131 = 1) (hS : SI S (100 * c)) (hcc : c ≤ 512) (hn : 30000 < n) (p q x : Int32) : OPR (fL_bid n 4 p q x 131) (fX8_bid n 125 p q x) σ S c :=
  o_cmd (n := n) (F := fX7_tryBid n 4 p q x) (cmd_bid hS (by omega) hn (by omega) p q x) hJ hW hcc (fun ans k h => by
    rcases h with h | ⟨rfl, rfl⟩ | ⟨rfl, rfl⟩ | ⟨rfl, rfl⟩
    · exact Or.inl h
    · exact Or.inr ⟨by decide, by decide, 1, fun σ rm => (an_x rm).1, fun σ => rfl⟩
    · exact Or.inr ⟨by decide, by decide, 2, fun σ rm => (an_x rm).2.1, fun σ => rfl⟩
    · exact Or.inr ⟨by decide, by decide, 5, fun σ rm => (an_x rm).2.2.2.2, fun σ => rfl⟩)
theorem o_cancel (hJ : JC σ S c) (hW : zK σ 131 = 23 ∧ zL σ 131 = 1) (hS : SI S (100 * c)) (hcc : c ≤ 512) (hn : 30000 < n) (p q : Int32) : OPR (fL_cancel n 4 p q 131) (fX8_cancel n 125 p q) σ S c :=
  o_cmd (n := n) (F := fX7_tryCancel n 4 p q) (cmd_cancel hS hn (by omega) p q) hJ hW hcc (fun ans k h => by
    rcases h with h | ⟨rfl, rfl⟩ | ⟨rfl, rfl⟩ | ⟨rfl, rfl⟩
    · exact Or.inl h
    · exact Or.inr ⟨by decide, by decide, 1, fun σ rm => (an_x rm).1, fun σ => rfl⟩
    · exact Or.inr ⟨by decide, by decide, 4, fun σ rm => (an_x rm).2.2.2.1, fun σ => rfl⟩
    · exact Or.inr ⟨by decide, by decide, 3, fun σ rm => (an_x rm).2.2.1, fun σ => rfl⟩)
theorem o_open (hJ : JC σ S c) (hW : zK σ 131 = 23 ∧ zL σ 131 = 1) (hS : SI S (100 * c)) (hcc : c ≤ 512) (hn : 30000 < n) (p : Int32) : OPR (fL_open n 4 p 131) (fX8_open n 125 p) σ S c :=
  o_cmd (n := n) (F := fX7_tryOpen n 4 p) (cmd_open hS hn (by omega) p) hJ hW hcc (fun ans k h => by
    rcases h with h | ⟨rfl, rfl⟩ | ⟨rfl, rfl⟩
    · exact Or.inl h
    · exact Or.inr ⟨by decide, by decide, 1, fun σ rm => (an_x rm).1, fun σ => rfl⟩
    · exact Or.inr ⟨by decide, by decide, 3, fun σ rm => (an_x rm).2.2.1, fun σ => rfl⟩)
theorem o_close (hJ : JC σ S c) (hW : zK σ 131 = 23 ∧ zL σ 131 = 1) (hS : SI S (100 * c)) (hcc : c ≤ 512) (hn : 30000 < n) (p : Int32) : OPR (fL_close n 4 p 131) (fX8_close n 125 p) σ S c :=
  o_cmd (n := n) (F := fX7_tryClose n 4 p) (cmd_close hS hn (by omega) p) hJ hW hcc (fun ans k h => by
    rcases h with h | ⟨rfl, rfl⟩ | ⟨rfl, rfl⟩
    · exact Or.inl h
    · exact Or.inr ⟨by decide, by decide, 1, fun σ rm => (an_x rm).1, fun σ => rfl⟩
    · exact Or.inr ⟨by decide, by decide, 3, fun σ rm => (an_x rm).2.2.1, fun σ => rfl⟩)
theorem o_withdraw (hJ : JC σ S c) (hW : zK σ 131 = 23 ∧ zL σ 131 = 1) (hS : SI S (100 * c)) (hcc : c ≤ 512) (hn : 30000 < n) (p : Int32) : OPR (fL_withdraw n 4 p 131) (fX8_withdraw n 125 p) σ S c :=
  o_cmd (n := n) (F := fX7_tryWithdraw n 4 p) (cmd_withdraw hS hn (by omega) p) hJ hW hcc (fun ans k h => by
    rcases h with h | ⟨rfl, rfl⟩ | ⟨rfl, rfl⟩
    · exact Or.inl h
    · exact Or.inr ⟨by decide, by decide, 1, fun σ rm => (an_x rm).1, fun σ => rfl⟩
    · exact Or.inr ⟨by decide, by decide, 3, fun σ rm => (an_x rm).2.2.1, fun σ => rfl⟩)
/-! reads -/
theorem fin_rd {σ : zW} {v : Int32} (hJ : JC σ S c) : wp (some ((.inl v : Int32 ⊕ Nat), σ)) (fun r => ∃ σ1, r = (.inl v, σ1) ∧ JC σ1 S c ∧ FC σ σ1) := wp_some ⟨σ, rfl, hJ, FC.refl⟩
theorem j_lotsLoop (hτ : JR τ S) (hC : Cn (sA S)) (hn : 30000 < n) (st : Int32) : sX8_lots_25 n n 125 st 0 0 τ = some (zsm (mk (sA S)) (fun i => if st = -1 ∨ sA S (24 + 8 * i + 3) = st then 1 else 0), τ) := by
  obtain ⟨h23, hm, -, -⟩ := hC
  refine zsm_loop (s := fun k acc i => sX8_lots_25 n k 125 st acc i τ) (N := mk (sA S)) (e := fun acc => some (acc, τ)) (by omega) ?_ ?_
  · intro k acc i hi
    have hi20 : i < 20 := by omega
    show sX8_lots_25 n (k + 1) 125 st acc (Int32.ofNat i) τ = _
    rw [sX8_lots_25]
    refine (zgR_e hτ.k hτ.w).trans ((zaW_e (j := 23) hτ rfl (by decide)).trans ((if_pos (by rw [h23, io_lt (by omega) (by omega)]; exact hi)).trans ?_))
    by_cases h1 : st = -1
    · refine (if_pos h1).trans ?_
      unfold sX8_lots_52 sX8_lots_57
      rw [io_succ, if_pos (Or.inl h1)]
    · refine (if_neg h1).trans ((zck_e hτ.k).trans ((zb_e (j_at3 hτ hi20)).trans ?_))
      by_cases h2 : sA S (24 + 8 * i + 3) = st
      · refine (if_pos h2).trans ?_
        unfold sX8_lots_52 sX8_lots_57
        rw [io_succ, if_pos (Or.inr h2)]
      · refine (if_neg h2).trans ?_
        unfold sX8_lots_57
        rw [io_succ, if_neg (fun q => by rcases q with q | q; exact h1 q; exact h2 q)]
  · intro k acc
    show sX8_lots_25 n (k + 1) 125 st acc (Int32.ofNat (mk (sA S))) τ = _
    rw [sX8_lots_25]
    exact (zgR_e hτ.k hτ.w).trans ((zaW_e (j := 23) hτ rfl (by decide)).trans (if_neg (by rw [h23, io_lt (by omega) (by omega)]; omega)))
theorem zac_one : ∀ (m i c : Nat), zac (fun _ => 1) i m (Int32.ofNat c) = Int32.ofNat (c + m)
  | 0, _, _ => rfl
  | m + 1, i, c => by
    show zac _ (i + 1) m (Int32.ofNat c + 1) = _
    rw [io_succ, zac_one m (i + 1) (c + 1)]
    congr 1
    omega
theorem zsm_one {N : Nat} : zsm N (fun _ => 1) = Int32.ofNat N := by
  have := zac_one N 0 0
  rw [Nat.zero_add] at this
  exact this
theorem o_lots (hJ : JC σ S c) (hW : zK σ 131 = 23 ∧ zL σ 131 = 1) (hS : SI S (100 * c)) (hcc : c ≤ 512) (hn : 30000 < n) (w : Int32) : OPR (fL_lots n 4 w 131) (fX8_lots n 125 w) σ S c := by
  have rm := hJ.room (by omega)
  have hC := hS.1.1
  have hR := hJ.rep
  by_cases hw : -1 ≤ w ∧ w ≤ 6
  · refine o_rd (v := zsm (mk (sA S)) (fun i => if w = -1 ∨ sA S (24 + 8 * i + 3) = w then 1 else 0)) (X := fX7_lots n 4 _) hJ hS hW ?_ (fun τ hτ => ?_)
    · unfold fX7_lots
      refine wpE (zbx_l (cn_in hw)) ?_
      by_cases h1 : w = -1
      · refine wpE (if_pos h1) ?_
        refine wpE (zgR_e hJ.x hJ.xs) ?_
        refine wpE (zgI_e hR.1.kS hR.cnt) ?_
        have e : zsm (mk (sA S)) (fun i => if w = -1 ∨ sA S (24 + 8 * i + 3) = w then 1 else 0) = sA S 23 := by
          rw [zsm_congr (g' := fun _ => 1) (fun j _ => if_pos (Or.inl h1)), zsm_one, hC.1]
        rw [e]
        exact fin_rd hJ
      · refine wpE (if_neg h1) ?_
        refine wpE (zgR_e hJ.x hJ.xs) ?_
        refine wpE (zck_e hR.1.kS) ?_
        refine wpE (zb_e (c_lotsIn hR hC (by omega) w)) ?_
        have e : zsm (mk (sA S)) (fun i => if w = -1 ∨ sA S (24 + 8 * i + 3) = w then 1 else 0) = zsm (mk (sA S)) (fun i => if sA S (24 + 8 * i + 3) = w then 1 else 0) := zsm_congr (fun j _ => by
          by_cases q : sA S (24 + 8 * j + 3) = w
          · rw [if_pos q, if_pos (Or.inr q)]
          · rw [if_neg q, if_neg (fun z => by rcases z with z | z; exact h1 z; exact q z)])
        rw [e]
        exact fin_rd hJ
    · have hT := Tr.one (k := 0) hτ
      have h2 := hT.2.2
      unfold fX8_lots
      refine wpE (zpI_e hτ.k rfl) ?_
      refine wpE (zb_e (jn_in hw)) ?_
      refine wpE (if_neg one_ne) ?_
      refine wpE (j_lotsLoop h2 hC hn w) ?_
      exact wp_some ⟨rfl, hT⟩
  · refine o_thr (e := 2) (k := 1) (X := fX7_lots n 4 _) hJ hS rfl (by decide) ?_ (fun τ hτ => ?_)
    · unfold fX7_lots
      refine wpE (zbx_r (cn_in_x rm hw)) ?_
      exact wp_some rfl
    · have h2 := (Tr.one (k := 0) hτ).2.2
      unfold fX8_lots
      refine wpE (zpI_e hτ.k rfl) ?_
      refine wpE (zb_e (jn_in_x hw)) ?_
      refine wpE (if_pos rfl) ?_
      refine wpE (zck_e h2.k) ?_
      refine wpE (zb2_e (jn_fail h2)) ?_
      exact wp_some (Tr.two hτ)
theorem o_step (hJ : JC σ S c) (hW : zK σ 131 = 23 ∧ zL σ 131 = 1) (hS : SI S (100 * c)) (hcc : c ≤ 512) (hn : 30000 < n) (w : Int32) : OPR (fL_step n 4 w 131) (fX8_step n 125 w) σ S c := by
  have rm := hJ.room (by omega)
  have hR := hJ.rep
  by_cases hw : 0 ≤ w ∧ w ≤ 99999
  · obtain ⟨x, rfl, -, hx⟩ := in_cases 0 99999 (by decide) (by decide) hw
    refine o_rd (v := Int32.ofNat (stp (sA S) x)) (X := fX7_step n 4 _) hJ hS hW ?_ (fun τ hτ => ?_)
    · unfold fX7_step
      refine wpE (zbx_l (cn_in hw)) ?_
      refine wpE (zgR_e hJ.x hJ.xs) ?_
      refine wpE (zgR_e hR.1.kS hR.1.r0) ?_
      refine wpE (zck_e hR.1.kT) ?_
      refine wpE (zb_e (c_stepAt hR hS.1.2.1 hx (by omega))) ?_
      exact fin_rd hJ
    · have hT := Tr.one (k := 0) hτ
      have h2 := hT.2.2
      unfold fX8_step
      refine wpE (zpI_e hτ.k rfl) ?_
      refine wpE (zb_e (jn_in hw)) ?_
      refine wpE (if_neg one_ne) ?_
      refine wpE (zck_e h2.k) ?_
      refine wpE (zb_e (j_stepBelow h2 hS.1.2.1 (by omega) hx)) ?_
      exact wp_some ⟨rfl, hT⟩
  · refine o_thr (e := 2) (k := 1) (X := fX7_step n 4 _) hJ hS rfl (by decide) ?_ (fun τ hτ => ?_)
    · unfold fX7_step
      refine wpE (zbx_r (cn_in_x rm hw)) ?_
      exact wp_some rfl
    · have h2 := (Tr.one (k := 0) hτ).2.2
      unfold fX8_step
      refine wpE (zpI_e hτ.k rfl) ?_
      refine wpE (zb_e (jn_in_x hw)) ?_
      refine wpE (if_pos rfl) ?_
      refine wpE (zck_e h2.k) ?_
      refine wpE (zb2_e (jn_fail h2)) ?_
      exact wp_some (Tr.two hτ)
theorem o_nextStep (hJ : JC σ S c) (hW : zK σ 131 = 23 ∧ zL σ 131 = 1) (hS : SI S (100 * c)) (hcc : c ≤ 512) (hn : 30000 < n) (w : Int32) : OPR (fL_nextStep n 4 w 131) (fX8_nextStep n 125 w) σ S c := by
  have rm := hJ.room (by omega)
  have hR := hJ.rep
  by_cases hw : 0 ≤ w ∧ w ≤ 99999
  · obtain ⟨x, rfl, -, hx⟩ := in_cases 0 99999 (by decide) (by decide) hw
    refine o_rd (v := Int32.ofNat (nxt (sA S) x)) (X := fX7_nextStep n 4 _) hJ hS hW ?_ (fun τ hτ => ?_)
    · unfold fX7_nextStep
      refine wpE (zbx_l (cn_in hw)) ?_
      refine wpE (zgR_e hJ.x hJ.xs) ?_
      refine wpE (zgR_e hR.1.kS hR.1.r0) ?_
      refine wpE (zck_e hR.1.kT) ?_
      refine wpE (zb_e (c_stepAfter hR hS.1.2.1 hx (by omega))) ?_
      exact fin_rd hJ
    · have hT := Tr.one (k := 0) hτ
      have h2 := hT.2.2
      unfold fX8_nextStep
      refine wpE (zpI_e hτ.k rfl) ?_
      refine wpE (zb_e (jn_in hw)) ?_
      refine wpE (if_neg one_ne) ?_
      refine wpE (zck_e h2.k) ?_
      refine wpE (zb_e (j_stepAbove h2 hS.1.2.1 (by omega) hx)) ?_
      exact wp_some ⟨rfl, hT⟩
  · refine o_thr (e := 2) (k := 1) (X := fX7_nextStep n 4 _) hJ hS rfl (by decide) ?_ (fun τ hτ => ?_)
    · unfold fX7_nextStep
      refine wpE (zbx_r (cn_in_x rm hw)) ?_
      exact wp_some rfl
    · have h2 := (Tr.one (k := 0) hτ).2.2
      unfold fX8_nextStep
      refine wpE (zpI_e hτ.k rfl) ?_
      refine wpE (zb_e (jn_in_x hw)) ?_
      refine wpE (if_pos rfl) ?_
      refine wpE (zck_e h2.k) ?_
      refine wpE (zb2_e (jn_fail h2)) ?_
      exact wp_some (Tr.two hτ)
theorem o_maximum (hJ : JC σ S c) (hW : zK σ 131 = 23 ∧ zL σ 131 = 1) (hS : SI S (100 * c)) (hcc : c ≤ 512) (hn : 30000 < n) (p q : Int32) : OPR (fL_maximum n 4 p q 131) (fX8_maximum n 125 p q) σ S c := by
  have rm := hJ.room (by omega)
  have hR := hJ.rep
  rcases lot_cases hS.1.1 p with ⟨i, rfl, him, hi20, v1, v2⟩ | ⟨v1, v2⟩
  · rcases bid_cases q with ⟨b, rfl, hb, w1, w2⟩ | ⟨w1, w2⟩
    · by_cases h0 : sA S (184 + 10 * i + b) = 0
      · refine o_thr (e := 4) (k := 2) (X := fX7_maximum n 4 _ _) hJ hS rfl (by decide) ?_ (fun τ hτ => ?_)
        · unfold fX7_maximum
          refine wpE (zck_e hJ.x) ?_
          refine wpE (zbx_l (cn_lot hJ v1)) ?_
          refine wpE (zbx_l (cn_bid w1)) ?_
          refine wpE (zgR_e hJ.x hJ.xs) ?_
          refine wpE (zgR_e hR.1.kS hR.1.r3) ?_
          refine wpE (zaRN_e hR.1.kO hR.1.lO hi20 (by decide) (hR.1.rL hi20)) ?_
          refine wpE (zgR_e (hR.1.kL hi20) (hR.1.rL0 hi20)) ?_
          refine wpE (zaN_e (hR.1.kL0 hi20) (hR.1.lL0 hi20) hb (by decide) (hR.p0 hi20 hb him)) ?_
          refine wpE (if_pos h0) ?_
          refine wpE (zth_e rm.1 rm.2) ?_
          exact wp_some rfl
        · unfold fX8_maximum
          refine wpE (zck_e hτ.k) ?_
          refine wpE (zb_e (jn_lot hτ v2)) ?_
          refine wpE (if_neg one_ne) ?_
          refine wpE (zb_e (jn_bid w2)) ?_
          refine wpE (if_neg one_ne) ?_
          refine wpE (zck_e hτ.k) ?_
          refine wpE (zb_e (j_orderOf hτ hi20 hb)) ?_
          refine wpE (if_pos h0) ?_
          unfold sX8_maximum_34
          refine wpE (thr_set hτ) ?_
          refine wpE (if_neg (by decide)) ?_
          exact wp_some (Tr.one hτ)
      · refine o_rd (v := sA S (184 + 10 * i + b)) (X := fX7_maximum n 4 _ _) hJ hS hW ?_ (fun τ hτ => ?_)
        · unfold fX7_maximum
          refine wpE (zck_e hJ.x) ?_
          refine wpE (zbx_l (cn_lot hJ v1)) ?_
          refine wpE (zbx_l (cn_bid w1)) ?_
          refine wpE (zgR_e hJ.x hJ.xs) ?_
          refine wpE (zgR_e hR.1.kS hR.1.r3) ?_
          refine wpE (zaRN_e hR.1.kO hR.1.lO hi20 (by decide) (hR.1.rL hi20)) ?_
          refine wpE (zgR_e (hR.1.kL hi20) (hR.1.rL0 hi20)) ?_
          refine wpE (zaN_e (hR.1.kL0 hi20) (hR.1.lL0 hi20) hb (by decide) (hR.p0 hi20 hb him)) ?_
          refine wpE (if_neg h0) ?_
          exact fin_rd hJ
        · have hT := Tr.one (k := 0) hτ
          have h2 := hT.2.2
          unfold fX8_maximum
          refine wpE (zck_e hτ.k) ?_
          refine wpE (zb_e (jn_lot hτ v2)) ?_
          refine wpE (if_neg one_ne) ?_
          refine wpE (zb_e (jn_bid w2)) ?_
          refine wpE (if_neg one_ne) ?_
          refine wpE (zck_e hτ.k) ?_
          refine wpE (zb_e (j_orderOf hτ hi20 hb)) ?_
          refine wpE (if_neg h0) ?_
          unfold sX8_maximum_34
          refine wpE (thr_set hτ) ?_
          refine wpE (if_pos rfl) ?_
          refine wpE (zck_e h2.k) ?_
          refine wpE (zb_e (j_orderOf h2 hi20 hb)) ?_
          exact wp_some ⟨rfl, hT⟩
    · refine o_thr (e := 1) (k := 1) (X := fX7_maximum n 4 _ _) hJ hS rfl (by decide) ?_ (fun τ hτ => ?_)
      · unfold fX7_maximum
        refine wpE (zck_e hJ.x) ?_
        refine wpE (zbx_l (cn_lot hJ v1)) ?_
        refine wpE (zbx_r (cn_bid_x rm w1)) ?_
        exact wp_some rfl
      · unfold fX8_maximum
        refine wpE (zck_e hτ.k) ?_
        refine wpE (zb_e (jn_lot hτ v2)) ?_
        refine wpE (if_neg one_ne) ?_
        refine wpE (zb_e (jn_bid_x w2)) ?_
        refine wpE (if_pos rfl) ?_
        unfold sX8_maximum_16 sX8_maximum_34
        refine wpE (thr_set hτ) ?_
        refine wpE (if_neg (by decide)) ?_
        exact wp_some (Tr.one hτ)
  · refine o_thr (e := 1) (k := 1) (X := fX7_maximum n 4 _ _) hJ hS rfl (by decide) ?_ (fun τ hτ => ?_)
    · unfold fX7_maximum
      refine wpE (zck_e hJ.x) ?_
      refine wpE (zbx_r (cn_lot_x hJ rm v1)) ?_
      exact wp_some rfl
    · unfold fX8_maximum
      refine wpE (zck_e hτ.k) ?_
      refine wpE (zb_e (jn_lot_x hτ v2)) ?_
      refine wpE (if_pos rfl) ?_
      unfold sX8_maximum_16 sX8_maximum_34
      refine wpE (thr_set hτ) ?_
      refine wpE (if_neg (by decide)) ?_
      exact wp_some (Tr.one hτ)
theorem o_orders (hJ : JC σ S c) (hW : zK σ 131 = 23 ∧ zL σ 131 = 1) (hS : SI S (100 * c)) (hcc : c ≤ 512) (hn : 30000 < n) (p : Int32) : OPR (fL_orders n 4 p 131) (fX8_orders n 125 p) σ S c := by
  have rm := hJ.room (by omega)
  have hR := hJ.rep
  have hC := hS.1.1
  by_cases hp : p = -1
  · refine o_rd (v := zsm (mk (sA S)) (fun i => oc (sA S) i)) (X := fX7_orders n 4 _) hJ hS hW ?_ (fun τ hτ => ?_)
    · unfold fX7_orders
      refine wpE (if_pos hp) ?_
      refine wpE (zgR_e hJ.x hJ.xs) ?_
      refine wpE (zck_e hR.1.kS) ?_
      refine wpE (zb_e (c_orderCount hR hC (by omega))) ?_
      exact fin_rd hJ
    · have hT := Tr.one (k := 0) hτ
      have h2 := hT.2.2
      unfold fX8_orders
      refine wpE (zpI_e hτ.k rfl) ?_
      refine wpE (if_pos hp) ?_
      refine wpE (zck_e h2.k) ?_
      refine wpE (zb_e (j_allOrders h2 hC (by omega))) ?_
      exact wp_some ⟨rfl, hT⟩
  · rcases lot_cases hC p with ⟨i, rfl, him, hi20, v1, v2⟩ | ⟨v1, v2⟩
    · refine o_rd (v := oc (sA S) i) (X := fX7_orders n 4 _) hJ hS hW ?_ (fun τ hτ => ?_)
      · unfold fX7_orders
        refine wpE (if_neg hp) ?_
        refine wpE (zck_e hJ.x) ?_
        refine wpE (zbx_l (cn_lot hJ v1)) ?_
        refine wpE (zgR_e hJ.x hJ.xs) ?_
        refine wpE (zgR_e hR.1.kS hR.1.r3) ?_
        refine wpE (zaRN_e hR.1.kO hR.1.lO hi20 (by decide) (hR.1.rL hi20)) ?_
        refine wpE (zck_e (hR.1.kL hi20)) ?_
        refine wpE (zb_e (c_ordersLot hR hC.2.1 (by omega) him)) ?_
        exact fin_rd hJ
      · have hT := Tr.one (k := 0) hτ
        have h2 := hT.2.2
        unfold fX8_orders
        refine wpE (zpI_e hτ.k rfl) ?_
        refine wpE (if_neg hp) ?_
        refine wpE (zck_e h2.k) ?_
        refine wpE (zb_e (jn_lot h2 v2)) ?_
        refine wpE (if_neg one_ne) ?_
        refine wpE (zck_e h2.k) ?_
        refine wpE (zb_e (j_ordersOf h2 (by omega) hi20)) ?_
        exact wp_some ⟨rfl, hT⟩
    · refine o_thr (e := 1) (k := 1) (X := fX7_orders n 4 _) hJ hS rfl (by decide) ?_ (fun τ hτ => ?_)
      · unfold fX7_orders
        refine wpE (if_neg hp) ?_
        refine wpE (zck_e hJ.x) ?_
        refine wpE (zbx_r (cn_lot_x hJ rm v1)) ?_
        exact wp_some rfl
      · have h2 := (Tr.one (k := 0) hτ).2.2
        unfold fX8_orders
        refine wpE (zpI_e hτ.k rfl) ?_
        refine wpE (if_neg hp) ?_
        refine wpE (zck_e h2.k) ?_
        refine wpE (zb_e (jn_lot_x h2 v2)) ?_
        refine wpE (if_pos rfl) ?_
        refine wpE (zck_e h2.k) ?_
        refine wpE (zb2_e (jn_fail h2)) ?_
        exact wp_some (Tr.two hτ)
theorem o_refusal (hJ : JC σ S c) (hW : zK σ 131 = 23 ∧ zL σ 131 = 1) (hS : SI S (100 * c)) (hcc : c ≤ 512) (hn : 30000 < n) : OPR (fL_refusal n 4 131) (fX8_refusal n 125) σ S c := by
  have rm := hJ.room (by omega)
  by_cases h0 : sRs S = 0
  · refine o_thr (e := 4) (k := 1) (X := fX7_refusal n 4) hJ hS rfl (by decide) ?_ (fun τ hτ => ?_)
    · unfold fX7_refusal
      refine wpE (zgI_e hJ.x hJ.rs) ?_
      refine wpE (if_pos h0) ?_
      refine wpE (zth_e rm.1 rm.2) ?_
      exact wp_some rfl
    · have h2 := (Tr.one (k := 0) hτ).2.2
      unfold fX8_refusal
      refine wpE (zpI_e hτ.k rfl) ?_
      refine wpE (zgI_e h2.k h2.rs) ?_
      refine wpE (if_pos h0) ?_
      refine wpE (zck_e h2.k) ?_
      refine wpE (zb2_e (jn_fail h2)) ?_
      exact wp_some (Tr.two hτ)
  · refine o_rd (v := sRs S) (X := fX7_refusal n 4) hJ hS hW ?_ (fun τ hτ => ?_)
    · unfold fX7_refusal
      refine wpE (zgI_e hJ.x hJ.rs) ?_
      refine wpE (if_neg h0) ?_
      refine wpE (zgI_e hJ.x hJ.rs) ?_
      exact fin_rd hJ
    · have hT := Tr.one (k := 0) hτ
      have h2 := hT.2.2
      unfold fX8_refusal
      refine wpE (zpI_e hτ.k rfl) ?_
      refine wpE (zgI_e h2.k h2.rs) ?_
      refine wpE (if_neg h0) ?_
      refine wpE (zgI_e h2.k h2.rs) ?_
      exact wp_some ⟨rfl, hT⟩
theorem o_why (hJ : JC σ S c) (hW : zK σ 131 = 23 ∧ zL σ 131 = 1) (hS : SI S (100 * c)) (hcc : c ≤ 512) (hn : 30000 < n) (p : Int32) : OPR (fL_why n 4 p 131) (fX8_why n 125 p) σ S c := by
  have rm := hJ.room (by omega)
  have hR := hJ.rep
  rcases lot_cases hS.1.1 p with ⟨i, rfl, him, hi20, v1, v2⟩ | ⟨v1, v2⟩
  · by_cases h0 : sA S (24 + 8 * i + 5) = -1
    · refine o_thr (e := 4) (k := 2) (X := fX7_why n 4 _) hJ hS rfl (by decide) ?_ (fun τ hτ => ?_)
      · unfold fX7_why
        refine wpE (zck_e hJ.x) ?_
        refine wpE (zbx_l (cn_lot hJ v1)) ?_
        refine wpE (zgR_e hJ.x hJ.xs) ?_
        refine wpE (zgR_e hR.1.kS hR.1.r3) ?_
        refine wpE (zaRN_e hR.1.kO hR.1.lO hi20 (by decide) (hR.1.rL hi20)) ?_
        refine wpE (zgI_e (hR.1.kL hi20) (hR.l5 hi20 him)) ?_
        refine wpE (if_pos h0) ?_
        refine wpE (zth_e rm.1 rm.2) ?_
        exact wp_some rfl
      · unfold fX8_why
        refine wpE (zck_e hτ.k) ?_
        refine wpE (zb_e (jn_lot hτ v2)) ?_
        refine wpE (if_neg one_ne) ?_
        refine wpE (zck_e hτ.k) ?_
        refine wpE (zb_e (j_at5 hτ hi20)) ?_
        refine wpE (if_pos h0) ?_
        unfold sX8_why_28
        refine wpE (thr_set hτ) ?_
        refine wpE (if_neg (by decide)) ?_
        exact wp_some (Tr.one hτ)
    · refine o_rd (v := sA S (24 + 8 * i + 5)) (X := fX7_why n 4 _) hJ hS hW ?_ (fun τ hτ => ?_)
      · unfold fX7_why
        refine wpE (zck_e hJ.x) ?_
        refine wpE (zbx_l (cn_lot hJ v1)) ?_
        refine wpE (zgR_e hJ.x hJ.xs) ?_
        refine wpE (zgR_e hR.1.kS hR.1.r3) ?_
        refine wpE (zaRN_e hR.1.kO hR.1.lO hi20 (by decide) (hR.1.rL hi20)) ?_
        refine wpE (zgI_e (hR.1.kL hi20) (hR.l5 hi20 him)) ?_
        refine wpE (if_neg h0) ?_
        exact fin_rd hJ
      · have hT := Tr.one (k := 0) hτ
        have h2 := hT.2.2
        unfold fX8_why
        refine wpE (zck_e hτ.k) ?_
        refine wpE (zb_e (jn_lot hτ v2)) ?_
        refine wpE (if_neg one_ne) ?_
        refine wpE (zck_e hτ.k) ?_
        refine wpE (zb_e (j_at5 hτ hi20)) ?_
        refine wpE (if_neg h0) ?_
        unfold sX8_why_28
        refine wpE (thr_set hτ) ?_
        refine wpE (if_pos rfl) ?_
        refine wpE (zck_e h2.k) ?_
        refine wpE (zb_e (j_at5 h2 hi20)) ?_
        exact wp_some ⟨rfl, hT⟩
  · refine o_thr (e := 1) (k := 1) (X := fX7_why n 4 _) hJ hS rfl (by decide) ?_ (fun τ hτ => ?_)
    · unfold fX7_why
      refine wpE (zck_e hJ.x) ?_
      refine wpE (zbx_r (cn_lot_x hJ rm v1)) ?_
      exact wp_some rfl
    · unfold fX8_why
      refine wpE (zck_e hτ.k) ?_
      refine wpE (zb_e (jn_lot_x hτ v2)) ?_
      refine wpE (if_pos rfl) ?_
      unfold sX8_why_28
      refine wpE (thr_set hτ) ?_
      refine wpE (if_neg (by decide)) ?_
      exact wp_some (Tr.one hτ)
theorem o_sold (hJ : JC σ S c) (hW : zK σ 131 = 23 ∧ zL σ 131 = 1) (hS : SI S (100 * c)) (hcc : c ≤ 512) (hn : 30000 < n) (p w : Int32) : OPR (fL_sold n 4 p w 131) (fX8_sold n 125 p w) σ S c := by
  have rm := hJ.room (by omega)
  have hR := hJ.rep
  rcases lot_cases hS.1.1 p with ⟨i, rfl, him, hi20, v1, v2⟩ | ⟨v1, v2⟩
  · by_cases h0 : sA S (24 + 8 * i + 3) = 2
    · by_cases hw : w = 0
      · refine o_rd (v := sA S (24 + 8 * i + 6)) (X := fX7_sold n 4 _ _) hJ hS hW ?_ (fun τ hτ => ?_)
        · unfold fX7_sold
          refine wpE (zck_e hJ.x) ?_
          refine wpE (zbx_l (cn_lot hJ v1)) ?_
          refine wpE (zgR_e hJ.x hJ.xs) ?_
          refine wpE (zgR_e hR.1.kS hR.1.r3) ?_
          refine wpE (zaRN_e hR.1.kO hR.1.lO hi20 (by decide) (hR.1.rL hi20)) ?_
          refine wpE (zgI_e (hR.1.kL hi20) (hR.l3 hi20 him)) ?_
          refine wpE (if_pos h0) ?_
          refine wpE (if_pos hw) ?_
          refine wpE (zgI_e (hR.1.kL hi20) (hR.l6 hi20 him)) ?_
          exact fin_rd hJ
        · have hT := Tr.one (k := 0) hτ
          have h2 := hT.2.2
          unfold fX8_sold
          refine wpE (zck_e hτ.k) ?_
          refine wpE (zb_e (jn_lot hτ v2)) ?_
          refine wpE (if_neg one_ne) ?_
          refine wpE (zck_e hτ.k) ?_
          refine wpE (zb_e (j_at3 hτ hi20)) ?_
          refine wpE (if_pos h0) ?_
          unfold sX8_sold_28
          refine wpE (thr_set hτ) ?_
          refine wpE (if_pos rfl) ?_
          refine wpE (if_pos hw) ?_
          unfold sX8_sold_51
          refine wpE (zck_e h2.k) ?_
          refine wpE (zb_e (j_at6 h2 hi20)) ?_
          exact wp_some ⟨rfl, hT⟩
      · refine o_rd (v := sA S (24 + 8 * i + 7)) (X := fX7_sold n 4 _ _) hJ hS hW ?_ (fun τ hτ => ?_)
        · unfold fX7_sold
          refine wpE (zck_e hJ.x) ?_
          refine wpE (zbx_l (cn_lot hJ v1)) ?_
          refine wpE (zgR_e hJ.x hJ.xs) ?_
          refine wpE (zgR_e hR.1.kS hR.1.r3) ?_
          refine wpE (zaRN_e hR.1.kO hR.1.lO hi20 (by decide) (hR.1.rL hi20)) ?_
          refine wpE (zgI_e (hR.1.kL hi20) (hR.l3 hi20 him)) ?_
          refine wpE (if_pos h0) ?_
          refine wpE (if_neg hw) ?_
          refine wpE (zgI_e (hR.1.kL hi20) (hR.l7 hi20 him)) ?_
          exact fin_rd hJ
        · have hT := Tr.one (k := 0) hτ
          have h2 := hT.2.2
          unfold fX8_sold
          refine wpE (zck_e hτ.k) ?_
          refine wpE (zb_e (jn_lot hτ v2)) ?_
          refine wpE (if_neg one_ne) ?_
          refine wpE (zck_e hτ.k) ?_
          refine wpE (zb_e (j_at3 hτ hi20)) ?_
          refine wpE (if_pos h0) ?_
          unfold sX8_sold_28
          refine wpE (thr_set hτ) ?_
          refine wpE (if_pos rfl) ?_
          refine wpE (if_neg hw) ?_
          unfold sX8_sold_51
          refine wpE (zck_e h2.k) ?_
          refine wpE (zb_e (j_at7 h2 hi20)) ?_
          exact wp_some ⟨rfl, hT⟩
    · refine o_thr (e := 4) (k := 2) (X := fX7_sold n 4 _ _) hJ hS rfl (by decide) ?_ (fun τ hτ => ?_)
      · unfold fX7_sold
        refine wpE (zck_e hJ.x) ?_
        refine wpE (zbx_l (cn_lot hJ v1)) ?_
        refine wpE (zgR_e hJ.x hJ.xs) ?_
        refine wpE (zgR_e hR.1.kS hR.1.r3) ?_
        refine wpE (zaRN_e hR.1.kO hR.1.lO hi20 (by decide) (hR.1.rL hi20)) ?_
        refine wpE (zgI_e (hR.1.kL hi20) (hR.l3 hi20 him)) ?_
        refine wpE (if_neg h0) ?_
        refine wpE (zth_e rm.1 rm.2) ?_
        exact wp_some rfl
      · unfold fX8_sold
        refine wpE (zck_e hτ.k) ?_
        refine wpE (zb_e (jn_lot hτ v2)) ?_
        refine wpE (if_neg one_ne) ?_
        refine wpE (zck_e hτ.k) ?_
        refine wpE (zb_e (j_at3 hτ hi20)) ?_
        refine wpE (if_neg h0) ?_
        unfold sX8_sold_28
        refine wpE (thr_set hτ) ?_
        refine wpE (if_neg (by decide)) ?_
        exact wp_some (Tr.one hτ)
  · refine o_thr (e := 1) (k := 1) (X := fX7_sold n 4 _ _) hJ hS rfl (by decide) ?_ (fun τ hτ => ?_)
    · unfold fX7_sold
      refine wpE (zck_e hJ.x) ?_
      refine wpE (zbx_r (cn_lot_x hJ rm v1)) ?_
      exact wp_some rfl
    · unfold fX8_sold
      refine wpE (zck_e hτ.k) ?_
      refine wpE (zb_e (jn_lot_x hτ v2)) ?_
      refine wpE (if_pos rfl) ?_
      unfold sX8_sold_28
      refine wpE (thr_set hτ) ?_
      refine wpE (if_neg (by decide)) ?_
      exact wp_some (Tr.one hτ)
theorem o_premium (hJ : JC σ S c) (hW : zK σ 131 = 23 ∧ zL σ 131 = 1) (hS : SI S (100 * c)) (hcc : c ≤ 512) (hn : 30000 < n) (w : Int32) : OPR (fL_premium n 4 w 131) (fX8_premium n 125 w) σ S c := by
  have rm := hJ.room (by omega)
  by_cases hw : 0 ≤ w ∧ w ≤ 99999
  · obtain ⟨x, rfl, -, hx⟩ := in_cases 0 99999 (by decide) (by decide) hw
    refine o_rd (v := prm (Int32.ofNat x)) (X := fX7_premium n 4 _) hJ hS hW ?_ (fun τ hτ => ?_)
    · unfold fX7_premium
      refine wpE (zbx_l (cn_in hw)) ?_
      refine wpE (zb_e c_premiumOf) ?_
      exact fin_rd hJ
    · have hT := Tr.one (k := 0) hτ
      have h2 := hT.2.2
      unfold fX8_premium
      refine wpE (zpI_e hτ.k rfl) ?_
      refine wpE (zb_e (jn_in hw)) ?_
      refine wpE (if_neg one_ne) ?_
      refine wpE (zb_e r_premiumOf) ?_
      exact wp_some ⟨prr_prm (by omega), hT⟩
  · refine o_thr (e := 2) (k := 1) (X := fX7_premium n 4 _) hJ hS rfl (by decide) ?_ (fun τ hτ => ?_)
    · unfold fX7_premium
      refine wpE (zbx_r (cn_in_x rm hw)) ?_
      exact wp_some rfl
    · have h2 := (Tr.one (k := 0) hτ).2.2
      unfold fX8_premium
      refine wpE (zpI_e hτ.k rfl) ?_
      refine wpE (zb_e (jn_in_x hw)) ?_
      refine wpE (if_pos rfl) ?_
      refine wpE (zck_e h2.k) ?_
      refine wpE (zb2_e (jn_fail h2)) ?_
      exact wp_some (Tr.two hτ)
theorem o_row (hJ : JC σ S c) (hW : zK σ 131 = 23 ∧ zL σ 131 = 1) (hS : SI S (100 * c)) (hcc : c ≤ 512) (hn : 30000 < n) (p w : Int32) : OPR (fL_row n 4 p w 131) (fX8_row n 125 p w) σ S c := by
  have rm := hJ.room (by omega)
  have hR := hJ.rep
  obtain ⟨t1, t2, t3, t4⟩ := hS.1.2.1.1
  by_cases hp : 0 ≤ p ∧ p < sA S 0
  · obtain ⟨k, rfl, hk, -⟩ := io_of hp.1
    have e1 : (Int32.ofNat k < sA S 0) = (k < tR (sA S)) := by rw [t1, io_lt hk (by omega)]
    have hk6 : k < tR (sA S) := e1 ▸ hp.2
    have hp2 : 0 ≤ Int32.ofNat k ∧ Int32.ofNat k ≤ sA S 0 - 1 := ⟨hp.1, by rw [t1, io_one t2, io_le hk (by omega)]; omega⟩
    by_cases hw : 0 ≤ w ∧ w ≤ 1
    · by_cases w0 : w = 0
      · refine o_rd (v := sA S (1 + k)) (X := fX7_row n 4 _ _) hJ hS hW ?_ (fun τ hτ => ?_)
        · unfold fX7_row
          refine wpE (if_neg (Int32.not_lt.mpr hp.1)) ?_
          refine wpE (zgR_e hJ.x hJ.xs) ?_
          refine wpE (zgR_e hR.1.kS hR.1.r0) ?_
          refine wpE (zgI_e hR.1.kT hR.rows) ?_
          refine wpE (if_pos hp.2) ?_
          refine wpE (zbx_l (cn_in hw)) ?_
          refine wpE (if_pos w0) ?_
          refine wpE (zgR_e hJ.x hJ.xs) ?_
          refine wpE (zgR_e hR.1.kS hR.1.r0) ?_
          refine wpE (zgR_e hR.1.kT hR.1.rT0) ?_
          refine wpE (zaN_e hR.1.kB hR.1.lB (show k < 6 by omega) (by decide) (hR.bnd (by omega))) ?_
          exact fin_rd hJ
        · have hT := Tr.one (k := 0) hτ
          have h2 := hT.2.2
          unfold fX8_row
          refine wpE (zgR_e hτ.k hτ.w) ?_
          refine wpE (zaW_e (j := 0) hτ rfl (by decide)) ?_
          refine wpE (zb_e (jn_in hp2)) ?_
          refine wpE (if_neg one_ne) ?_
          refine wpE (zb_e (jn_in hw)) ?_
          refine wpE (if_neg one_ne) ?_
          unfold sX8_row_35
          refine wpE (thr_set hτ) ?_
          refine wpE (if_pos rfl) ?_
          refine wpE (zgR_e h2.k h2.w) ?_
          refine wpE (if_pos w0) ?_
          unfold sX8_row_59
          refine wpE (zaW_e h2 iy1 (by omega)) ?_
          exact wp_some ⟨rfl, hT⟩
      · refine o_rd (v := sA S (7 + k)) (X := fX7_row n 4 _ _) hJ hS hW ?_ (fun τ hτ => ?_)
        · unfold fX7_row
          refine wpE (if_neg (Int32.not_lt.mpr hp.1)) ?_
          refine wpE (zgR_e hJ.x hJ.xs) ?_
          refine wpE (zgR_e hR.1.kS hR.1.r0) ?_
          refine wpE (zgI_e hR.1.kT hR.rows) ?_
          refine wpE (if_pos hp.2) ?_
          refine wpE (zbx_l (cn_in hw)) ?_
          refine wpE (if_neg w0) ?_
          refine wpE (zgR_e hJ.x hJ.xs) ?_
          refine wpE (zgR_e hR.1.kS hR.1.r0) ?_
          refine wpE (zgR_e hR.1.kT hR.1.rT1) ?_
          refine wpE (zaN_e hR.1.kC hR.1.lC (show k < 6 by omega) (by decide) (hR.inc (by omega))) ?_
          exact fin_rd hJ
        · have hT := Tr.one (k := 0) hτ
          have h2 := hT.2.2
          unfold fX8_row
          refine wpE (zgR_e hτ.k hτ.w) ?_
          refine wpE (zaW_e (j := 0) hτ rfl (by decide)) ?_
          refine wpE (zb_e (jn_in hp2)) ?_
          refine wpE (if_neg one_ne) ?_
          refine wpE (zb_e (jn_in hw)) ?_
          refine wpE (if_neg one_ne) ?_
          unfold sX8_row_35
          refine wpE (thr_set hτ) ?_
          refine wpE (if_pos rfl) ?_
          refine wpE (zgR_e h2.k h2.w) ?_
          refine wpE (if_neg w0) ?_
          unfold sX8_row_59
          refine wpE (zaW_e h2 iy7 (by omega)) ?_
          exact wp_some ⟨rfl, hT⟩
    · refine o_thr (e := 2) (k := 2) (X := fX7_row n 4 _ _) hJ hS rfl (by decide) ?_ (fun τ hτ => ?_)
      · unfold fX7_row
        refine wpE (if_neg (Int32.not_lt.mpr hp.1)) ?_
        refine wpE (zgR_e hJ.x hJ.xs) ?_
        refine wpE (zgR_e hR.1.kS hR.1.r0) ?_
        refine wpE (zgI_e hR.1.kT hR.rows) ?_
        refine wpE (if_pos hp.2) ?_
        refine wpE (zbx_r (cn_in_x rm hw)) ?_
        exact wp_some rfl
      · unfold fX8_row
        refine wpE (zgR_e hτ.k hτ.w) ?_
        refine wpE (zaW_e (j := 0) hτ rfl (by decide)) ?_
        refine wpE (zb_e (jn_in hp2)) ?_
        refine wpE (if_neg one_ne) ?_
        refine wpE (zb_e (jn_in_x hw)) ?_
        refine wpE (if_pos rfl) ?_
        unfold sX8_row_35
        refine wpE (thr_set hτ) ?_
        refine wpE (if_neg (by decide)) ?_
        exact wp_some (Tr.one hτ)
  · have hp2 : ¬ (0 ≤ p ∧ p ≤ sA S 0 - 1) := by
      rintro ⟨q1, q2⟩
      obtain ⟨k, rfl, hk, -⟩ := io_of q1
      rw [t1, io_one t2, io_le hk (by omega)] at q2
      exact hp ⟨q1, by rw [t1, io_lt hk (by omega)]; omega⟩
    refine o_thr (e := 1) (k := 1) (X := fX7_row n 4 _ _) hJ hS rfl (by decide) ?_ (fun τ hτ => ?_)
    · unfold fX7_row
      by_cases h0 : p < 0
      · refine wpE (if_pos h0) ?_
        unfold sX7_row_18
        refine wpE (zth_e rm.1 rm.2) ?_
        exact wp_some rfl
      · refine wpE (if_neg h0) ?_
        refine wpE (zgR_e hJ.x hJ.xs) ?_
        refine wpE (zgR_e hR.1.kS hR.1.r0) ?_
        refine wpE (zgI_e hR.1.kT hR.rows) ?_
        refine wpE (if_neg (fun q => hp ⟨Int32.not_lt.mp h0, q⟩)) ?_
        unfold sX7_row_18
        refine wpE (zth_e rm.1 rm.2) ?_
        exact wp_some rfl
    · unfold fX8_row
      refine wpE (zgR_e hτ.k hτ.w) ?_
      refine wpE (zaW_e (j := 0) hτ rfl (by decide)) ?_
      refine wpE (zb_e (jn_in_x hp2)) ?_
      refine wpE (if_pos rfl) ?_
      unfold sX8_row_35
      refine wpE (thr_set hτ) ?_
      refine wpE (if_neg (by decide)) ?_
      exact wp_some (Tr.one hτ)
end
