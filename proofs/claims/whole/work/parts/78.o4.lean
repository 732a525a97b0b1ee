/-! CALLS: the house, the share sold, the audit -/
theorem zac_acc {g : Nat → Int32} : ∀ (m i : Nat) (acc : Int32), zac g i m acc = acc + zac g i m 0
  | 0, _, acc => by
    show acc = acc + 0
    grind
  | m + 1, i, acc => by
    show zac g (i + 1) m (acc + g i) = acc + zac g (i + 1) m (0 + g i)
    rw [zac_acc m (i + 1) (acc + g i), zac_acc m (i + 1) (0 + g i)]
    grind
theorem zac_add {f g : Nat → Int32} : ∀ (m i : Nat), zac (fun j => f j + g j) i m 0 = zac f i m 0 + zac g i m 0
  | 0, _ => by
    show (0 : Int32) = 0 + 0
    rfl
  | m + 1, i => by
    show zac _ (i + 1) m (0 + (f i + g i)) = zac f (i + 1) m (0 + f i) + zac g (i + 1) m (0 + g i)
    rw [zac_acc m (i + 1) (0 + (f i + g i)), zac_acc m (i + 1) (0 + f i), zac_acc m (i + 1) (0 + g i), zac_add m (i + 1)]
    grind
theorem zac_zero : ∀ (m i : Nat), zac (fun _ => 0) i m 0 = 0
  | 0, _ => rfl
  | m + 1, i => by
    show zac _ (i + 1) m (0 + 0) = 0
    exact zac_zero m (i + 1)
/-- sums of sums -/
theorem zsm_swap {f : Nat → Nat → Int32} {N : Nat} : ∀ (m i : Nat), zac (fun b => zac (fun j => f b j) i m 0) 0 N 0 = zac (fun j => zac (fun b => f b j) 0 N 0) i m 0
  | 0, i => zac_zero N 0
  | m + 1, i => by
    show zac (fun b => zac (fun j => f b j) (i + 1) m (0 + f b i)) 0 N 0 = zac _ (i + 1) m (0 + zac (fun b => f b i) 0 N 0)
    rw [zac_congr (g' := fun b => f b i + zac (fun j => f b j) (i + 1) m 0) N 0 0 (fun b _ _ => by rw [zac_acc m (i + 1) (0 + f b i)]; grind), zac_add, zsm_swap m (i + 1), zac_acc m (i + 1) (0 + _)]
    grind
theorem zac_pick {N b0 : Nat} {x : Int32} (hN : N ≤ 1000) (hb : b0 < N) : ∀ (m i : Nat), i + m = N → zac (fun b => if Int32.ofNat b0 = Int32.ofNat b then x else 0) i m 0 = if i ≤ b0 then x else 0 := by
  intro m
  induction m with
  | zero =>
    intro i h
    rw [if_neg (by omega)]
    rfl
  | succ m ih =>
    intro i h
    show zac _ (i + 1) m (0 + if Int32.ofNat b0 = Int32.ofNat i then x else 0) = _
    rw [zac_acc, ih (i + 1) (by omega)]
    by_cases e : b0 = i
    · subst e
      rw [if_pos rfl, if_neg (by omega), if_pos (Nat.le_refl _)]
      grind
    · have hne : ¬ Int32.ofNat b0 = Int32.ofNat i := by
        rw [io_eq (by omega) (by omega)]
        exact e
      rw [if_neg hne]
      by_cases g : i ≤ b0
      · rw [if_pos (by omega), if_pos g]
        grind
      · rw [if_neg (by omega), if_neg g]
        grind
/-- all prices, by buyers and by sellers -/
theorem prices_eq {a : Nat → Int32} {B : Nat} (h : Inv a B) : zsm 6 (fun s => sPf a (Int32.ofNat s)) = zsm 10 (fun b => bPr a (Int32.ofNat b)) := by
  have e1 : zsm 6 (fun s => sPf a (Int32.ofNat s)) = zsm (mk a) (fun i => if a (24 + 8 * i + 3) = 2 then a (24 + 8 * i + 7) else 0) := by
    have := zsm_swap (f := fun s i => if a (24 + 8 * i + 0) = Int32.ofNat s ∧ a (24 + 8 * i + 3) = 2 then a (24 + 8 * i + 7) else 0) (N := 6) (mk a) 0
    refine Eq.trans this (zac_congr _ _ _ (fun i _ hi => ?_))
    obtain ⟨e, hs⟩ := (h.2.2.1 i (by omega)).2.2.1
    by_cases q : a (24 + 8 * i + 3) = 2
    · rw [if_pos q]
      have := zac_pick (N := 6) (b0 := qS a i) (x := a (24 + 8 * i + 7)) (by decide) (by omega) 6 0 (by decide)
      rw [if_pos (Nat.zero_le _)] at this
      refine Eq.trans (zac_congr _ _ _ (fun b _ _ => ?_)) this
      rw [e]
      by_cases z : Int32.ofNat (qS a i) = Int32.ofNat b
      · rw [if_pos ⟨z, q⟩, if_pos z]
      · rw [if_neg (fun y => z y.1), if_neg z]
    · rw [if_neg q]
      refine Eq.trans (zac_congr (g' := fun _ => 0) _ _ _ (fun b _ _ => if_neg (fun y => q y.2))) (zac_zero 6 0)
  have e2 : zsm 10 (fun b => bPr a (Int32.ofNat b)) = zsm (mk a) (fun i => if a (24 + 8 * i + 3) = 2 then a (24 + 8 * i + 7) else 0) := by
    have := zsm_swap (f := fun s i => if a (24 + 8 * i + 3) = 2 ∧ a (24 + 8 * i + 6) = Int32.ofNat s then a (24 + 8 * i + 7) else 0) (N := 10) (mk a) 0
    refine Eq.trans this (zac_congr _ _ _ (fun i _ hi => ?_))
    by_cases q : a (24 + 8 * i + 3) = 2
    · rw [if_pos q]
      obtain ⟨⟨b0, hb0, e⟩, -⟩ := (h.2.2.1 i (by omega)).2.2.2.1 q
      have := zac_pick (N := 10) (b0 := b0) (x := a (24 + 8 * i + 7)) (by decide) (by omega) 10 0 (by decide)
      rw [if_pos (Nat.zero_le _)] at this
      refine Eq.trans (zac_congr _ _ _ (fun b _ _ => ?_)) this
      rw [e]
      by_cases z : Int32.ofNat b0 = Int32.ofNat b
      · rw [if_pos ⟨q, z⟩, if_pos z]
      · rw [if_neg (fun y => z y.2), if_neg z]
    · rw [if_neg q]
      refine Eq.trans (zac_congr (g' := fun _ => 0) _ _ _ (fun b _ _ => if_neg (fun y => q y.1))) (zac_zero 10 0)
  rw [e1, e2]
theorem zac_sub3 {p s f : Nat → Int32} : ∀ (m i : Nat), zac (fun j => p j - s j - f j) i m 0 = zac p i m 0 - zac s i m 0 - zac f i m 0
  | 0, _ => by
    show (0 : Int32) = 0 - 0 - 0
    rfl
  | m + 1, i => by
    show zac _ (i + 1) m (0 + (p i - s i - f i)) = zac p (i + 1) m (0 + p i) - zac s (i + 1) m (0 + s i) - zac f (i + 1) m (0 + f i)
    rw [zac_acc m (i + 1) (0 + (p i - s i - f i)), zac_acc m (i + 1) (0 + p i), zac_acc m (i + 1) (0 + s i), zac_acc m (i + 1) (0 + f i), zac_sub3 m (i + 1)]
    grind
theorem io_6 {b : Nat} (h : b < 6) : Int32.ofNat b < 6 := by
  rw [show (6 : Int32) = Int32.ofNat 6 from rfl, io_lt (by omega) (by omega)]
  exact h
section
variable {σ τ : zW} {S S' : St} {c n B : Nat}
theorem c_house41 (hJ : JC σ S c) (hI : Inv (sA S) B) (hn : 1000 < n) (w u : Int32) {r : Int32} (hr : r = if w = 0 then u + zsm 6 (fun s => sPf (sA S) (Int32.ofNat s)) - zsm 6 (fun s => sPf (sA S) (Int32.ofNat s) - sCm (sA S) (Int32.ofNat s) - sA S (985 + s)) else if w = 1 then zsm 6 (fun s => sPf (sA S) (Int32.ofNat s)) else if w = 2 then zsm 6 (fun s => sPf (sA S) (Int32.ofNat s)) + u else zsm 6 (fun s => sPf (sA S) (Int32.ofNat s) - sCm (sA S) (Int32.ofNat s) - sA S (985 + s))) : sX7_house_41 n n 4 w u 0 0 0 σ = some (.inl r, σ) := by
  have hR := hJ.rep
  have key : ∀ (d s k : Nat) (x y : Int32), s + d = 6 → d < k → sX7_house_41 n k 4 w u x y (Int32.ofNat s) σ = some (.inl (if w = 0 then u + zac (fun s => sPf (sA S) (Int32.ofNat s)) s d x - zac (fun s => sPf (sA S) (Int32.ofNat s) - sCm (sA S) (Int32.ofNat s) - sA S (985 + s)) s d y else if w = 1 then zac (fun s => sPf (sA S) (Int32.ofNat s)) s d x else if w = 2 then zac (fun s => sPf (sA S) (Int32.ofNat s)) s d x + u else zac (fun s => sPf (sA S) (Int32.ofNat s) - sCm (sA S) (Int32.ofNat s) - sA S (985 + s)) s d y), σ) := by
    intro d
    induction d with
    | zero =>
      intro s k x y hs hk
      obtain ⟨k, rfl⟩ : ∃ k', k = k' + 1 := ⟨k - 1, by omega⟩
      have hs : s = 6 := by omega
      subst hs
      rw [sX7_house_41]
      refine (if_neg (by decide)).trans ?_
      by_cases h0 : w = 0
      · rw [if_pos h0, if_pos h0]; rfl
      · rw [if_neg h0, if_neg h0]
        by_cases h1 : w = 1
        · rw [if_pos h1, if_pos h1]; rfl
        · rw [if_neg h1, if_neg h1]
          by_cases h2 : w = 2
          · rw [if_pos h2, if_pos h2]; rfl
          · rw [if_neg h2, if_neg h2]; rfl
    | succ d ih =>
      intro s k x y hs hk
      obtain ⟨k, rfl⟩ : ∃ k', k = k' + 1 := ⟨k - 1, by omega⟩
      rw [sX7_house_41]
      refine (if_pos (io_6 (by omega))).trans ?_
      refine (zgR_e hJ.x hJ.xs).trans ((zck_e hR.1.kS).trans ((zb_e (c_pricesFor hR hI.1 hn _)).trans ?_))
      refine (zgR_e hJ.x hJ.xs).trans ((zck_e hR.1.kS).trans ((zb_e (c_proceedsOf hJ hI hn (by omega))).trans ?_))
      rw [io_succ]
      exact ih (s + 1) k _ _ (by omega) (by omega)
  rw [hr]
  exact key 6 0 n 0 0 (by decide) (by omega)
theorem c_house10 (hJ : JC σ S c) (hI : Inv (sA S) B) (hn : 1000 < n) (w : Int32) : sX7_house_10 n n 4 w 0 0 σ = sX7_house_41 n n 4 w (zsm 10 (fun b => bPm (sA S) (Int32.ofNat b))) 0 0 0 σ := by
  have hR := hJ.rep
  refine zsm_loop (s := fun k acc b => sX7_house_10 n k 4 w acc b σ) (N := 10) (g := fun b => bPm (sA S) (Int32.ofNat b)) (e := fun acc => sX7_house_41 n n 4 w acc 0 0 0 σ) (by omega) ?_ ?_
  · intro k acc b hb
    show sX7_house_10 n (k + 1) 4 w acc (Int32.ofNat b) σ = _
    rw [sX7_house_10]
    refine (if_pos (io_10 hb)).trans ((zgR_e hJ.x hJ.xs).trans ((zck_e hR.1.kS).trans ((zb_e (c_premiumsOf hR hI.1 hn _)).trans ?_)))
    rw [io_succ]
    rfl
  · intro k acc
    show sX7_house_10 n (k + 1) 4 w acc (Int32.ofNat 10) σ = _
    rw [sX7_house_10]
    exact if_neg (by decide)
theorem j_house69 (hτ : JR τ S) (hI : Inv (sA S) B) (hn : 1000 < n) (w u v : Int32) : sX8_house_69 n n 125 w u v 0 0 0 τ = some (if w = 0 then v + zsm 6 (fun s => sCm (sA S) (Int32.ofNat s)) + zsm 6 (fun s => sA S (985 + s)) else if w = 1 then u else if w = 2 then u + v else u - zsm 6 (fun s => sCm (sA S) (Int32.ofNat s)) - zsm 6 (fun s => sA S (985 + s)), τ) := by
  have key : ∀ (d s k : Nat) (x y : Int32), s + d = 6 → d < k → sX8_house_69 n k 125 w u v x y (Int32.ofNat s) τ = some (if w = 0 then v + zac (fun s => sCm (sA S) (Int32.ofNat s)) s d x + zac (fun s => sA S (985 + s)) s d y else if w = 1 then u else if w = 2 then u + v else u - zac (fun s => sCm (sA S) (Int32.ofNat s)) s d x - zac (fun s => sA S (985 + s)) s d y, τ) := by
    intro d
    induction d with
    | zero =>
      intro s k x y hs hk
      obtain ⟨k, rfl⟩ : ∃ k', k = k' + 1 := ⟨k - 1, by omega⟩
      have hs : s = 6 := by omega
      subst hs
      rw [sX8_house_69]
      refine (if_neg (by decide)).trans ?_
      unfold sX8_house_151
      by_cases h0 : w = 0
      · rw [if_pos h0, if_pos h0]; rfl
      · rw [if_neg h0, if_neg h0]
        by_cases h1 : w = 1
        · rw [if_pos h1, if_pos h1]
        · rw [if_neg h1, if_neg h1]
          by_cases h2 : w = 2
          · rw [if_pos h2, if_pos h2]
          · rw [if_neg h2, if_neg h2]; rfl
    | succ d ih =>
      intro s k x y hs hk
      obtain ⟨k, rfl⟩ : ∃ k', k = k' + 1 := ⟨k - 1, by omega⟩
      rw [sX8_house_69]
      refine (if_pos (io_6 (by omega))).trans ?_
      refine (zck_e hτ.k).trans ((zb_e (j_s1 hτ hI hn _)).trans ((zgR_e hτ.k hτ.w).trans ((zaW_e hτ iy985 (by omega)).trans ?_)))
      rw [io_succ]
      exact ih (s + 1) k _ _ (by omega) (by omega)
  exact key 6 0 n 0 0 (by decide) (by omega)
theorem j_house27 (hτ : JR τ S) (hI : Inv (sA S) B) (hn : 1000 < n) (w : Int32) : sX8_house_27 n n 125 w 0 0 0 τ = sX8_house_69 n n 125 w (zsm 10 (fun b => bPr (sA S) (Int32.ofNat b))) (zsm 10 (fun b => bPm (sA S) (Int32.ofNat b))) 0 0 0 τ := by
  have key : ∀ (d s k : Nat) (x y : Int32), s + d = 10 → d < k → sX8_house_27 n k 125 w x y (Int32.ofNat s) τ = sX8_house_69 n n 125 w (zac (fun b => bPr (sA S) (Int32.ofNat b)) s d x) (zac (fun b => bPm (sA S) (Int32.ofNat b)) s d y) 0 0 0 τ := by
    intro d
    induction d with
    | zero =>
      intro s k x y hs hk
      obtain ⟨k, rfl⟩ : ∃ k', k = k' + 1 := ⟨k - 1, by omega⟩
      have hs : s = 10 := by omega
      subst hs
      rw [sX8_house_27]
      exact if_neg (by decide)
    | succ d ih =>
      intro s k x y hs hk
      obtain ⟨k, rfl⟩ : ∃ k', k = k' + 1 := ⟨k - 1, by omega⟩
      rw [sX8_house_27]
      refine (if_pos (io_10 (by omega))).trans ?_
      refine (zck_e hτ.k).trans ((zb_e (j_b1 hτ hI hn _)).trans ((zck_e hτ.k).trans ((zb_e (j_b2 hτ hI hn _)).trans ?_)))
      rw [io_succ]
      exact ih (s + 1) k _ _ (by omega) (by omega)
  exact key 10 0 n 0 0 (by decide) (by omega)
theorem o_house (hJ : JC σ S c) (hW : zK σ 131 = 23 ∧ zL σ 131 = 1) (hS : SI S (100 * c)) (hcc : c ≤ 512) (hn : 30000 < n) (w : Int32) : OPR (fL_house n 4 w 131) (fX8_house n 125 w) σ S c := by
  have rm := hJ.room (by omega)
  have hI := hS.1
  by_cases hw : 0 ≤ w ∧ w ≤ 3
  · have hp := prices_eq hI
    have h3 := zac_sub3 (p := fun s => sPf (sA S) (Int32.ofNat s)) (s := fun s => sCm (sA S) (Int32.ofNat s)) (f := fun s => sA S (985 + s)) 6 0
    have h3 : zsm 6 (fun s => sPf (sA S) (Int32.ofNat s) - sCm (sA S) (Int32.ofNat s) - sA S (985 + s)) = zsm 6 (fun s => sPf (sA S) (Int32.ofNat s)) - zsm 6 (fun s => sCm (sA S) (Int32.ofNat s)) - zsm 6 (fun s => sA S (985 + s)) := h3
    refine o_rd (v := if w = 0 then zsm 10 (fun b => bPm (sA S) (Int32.ofNat b)) + zsm 6 (fun s => sCm (sA S) (Int32.ofNat s)) + zsm 6 (fun s => sA S (985 + s)) else if w = 1 then zsm 10 (fun b => bPr (sA S) (Int32.ofNat b)) else if w = 2 then zsm 10 (fun b => bPr (sA S) (Int32.ofNat b)) + zsm 10 (fun b => bPm (sA S) (Int32.ofNat b)) else zsm 10 (fun b => bPr (sA S) (Int32.ofNat b)) - zsm 6 (fun s => sCm (sA S) (Int32.ofNat s)) - zsm 6 (fun s => sA S (985 + s))) (X := fX7_house n 4 _) hJ hS hW ?_ (fun τ hτ => ?_)
    · unfold fX7_house
      refine wpE (zbx_l (cn_in hw)) ?_
      refine wpE (c_house10 hJ hI (by omega) w) ?_
      refine wpE (c_house41 hJ hI (by omega) w _ ?_) (fin_rd hJ)
      rw [h3, hp]
      by_cases h0 : w = 0
      · rw [if_pos h0, if_pos h0]
        exact (grt _ _ _ _).symm
      · rw [if_neg h0, if_neg h0]
    · have hT := Tr.one (k := 0) hτ
      have h2 := hT.2.2
      unfold fX8_house
      refine wpE (zpI_e hτ.k rfl) ?_
      refine wpE (zb_e (jn_in hw)) ?_
      refine wpE (if_neg one_ne) ?_
      refine wpE (j_house27 h2 hI (by omega) w) ?_
      refine wpE (j_house69 h2 hI (by omega) w _ _) ?_
      exact wp_some ⟨rfl, hT⟩
  · refine o_thr (e := 2) (k := 1) (X := fX7_house n 4 _) hJ hS rfl (by decide) ?_ (fun τ hτ => ?_)
    · unfold fX7_house
      refine wpE (zbx_r (cn_in_x rm hw)) ?_
      exact wp_some rfl
    · have h2 := (Tr.one (k := 0) hτ).2.2
      unfold fX8_house
      refine wpE (zpI_e hτ.k rfl) ?_
      refine wpE (zb_e (jn_in_x hw)) ?_
      refine wpE (if_pos rfl) ?_
      refine wpE (zck_e h2.k) ?_
      refine wpE (zb2_e (jn_fail h2)) ?_
      exact wp_some (Tr.two hτ)
/-! the audit -/
def elo (a : Nat → Int32) (k : Nat) : Nat := (a (992 + 4 * k + 1)).toNatClampNeg
def aP (a : Nat → Int32) (b : Int32) : Int32 := zsm (kp a) (fun i => if a (992 + 4 * i + 0) = 3 ∧ a (992 + 4 * i + 2) = b then a (992 + 4 * i + 3) else 0)
def aF (a : Nat → Int32) (s : Int32) : Int32 := zsm (kp a) (fun k => if a (992 + 4 * k + 0) = 4 ∧ a (24 + 8 * elo a k + 0) = s then a (992 + 4 * k + 3) else 0)
theorem elo_of {a : Nat → Int32} (h : Inv a B) {k : Nat} (hk : k < kp a) : a (992 + 4 * k + 1) = Int32.ofNat (elo a k) ∧ elo a k < mk a := by
  obtain ⟨e, he, h1⟩ := h.2.2.2.2.2.1 k hk
  have hm := h.1.2.1
  have : elo a k = e := by unfold elo; rw [h1, io_nat (by omega)]
  rw [this]
  exact ⟨h1, he⟩
theorem c_feesInLedger (hJ : JC σ S c) (hI : Inv (sA S) B) (hn : 1000 < n) (s : Int32) : fX3_feesInLedger n 5 s σ = some (aF (sA S) s) := by
  have hR := hJ.rep
  obtain ⟨-, hm, h991, hkp⟩ := hI.1
  unfold fX3_feesInLedger
  refine zsm_loop (s := fun k acc b => sX3_feesInLedger_4 n σ k 5 s acc b) (N := kp (sA S)) (e := some) (by omega) ?_ ?_
  · intro k acc j hj
    have hj250 : j < 250 := by omega
    have hjv : j < (sA S 991).toNatClampNeg := hj
    obtain ⟨el, hl⟩ := elo_of hI hj
    have hl20 : elo (sA S) j < 20 := by omega
    show sX3_feesInLedger_4 n σ (k + 1) 5 s acc (Int32.ofNat j) = _
    rw [sX3_feesInLedger_4]
    refine (zgR_e hR.1.kS hR.1.r4).trans ((zgI_e hR.1.kG (hR.kept.trans h991)).trans ((if_pos (by rw [io_lt (by omega) (by omega)]; exact hj)).trans ?_))
    refine (zgR_e hR.1.kS hR.1.r4).trans ((zgR_e hR.1.kG hR.1.rG1).trans ((zaN_e hR.1.kG1 hR.1.lG1 hj250 (by decide) ((hR.ev1 hj250 hjv).trans el)).trans ?_))
    refine (zgR_e hR.1.kS hR.1.r4).trans ((zgR_e hR.1.kG hR.1.rG0).trans ((zaN_e hR.1.kG0 hR.1.lG0 hj250 (by decide) (hR.ev0 hj250 hjv)).trans ?_))
    unfold sX3_feesInLedger_74
    rw [io_succ]
    by_cases h4 : sA S (992 + 4 * j + 0) = 4
    · refine (if_pos h4).trans ((zck_e hR.1.kS).trans ((zb_e (has_y hJ ⟨io_ge0 (by omega), by rw [hI.1.1, io_lt (by omega) (by omega)]; exact hl⟩)).trans ((if_neg one_ne).trans ?_)))
      refine (zgR_e hR.1.kS hR.1.r3).trans ((zaRN_e hR.1.kO hR.1.lO hl20 (by decide) (hR.1.rL hl20)).trans ((zgI_e (hR.1.kL hl20) (hR.l0 hl20 hl)).trans ?_))
      by_cases h5 : sA S (24 + 8 * elo (sA S) j + 0) = s
      · refine (if_pos h5).trans ((zgR_e hR.1.kS hR.1.r4).trans ((zgR_e hR.1.kG hR.1.rG3).trans ((zaN_e hR.1.kG3 hR.1.lG3 hj250 (by decide) (hR.ev3 hj250 hjv)).trans ?_)))
        rw [if_pos ⟨h4, h5⟩]
      · refine (if_neg h5).trans ?_
        rw [if_neg (fun q => h5 q.2), i32_add0]
    · refine (if_neg h4).trans ?_
      rw [if_neg (fun q => h4 q.1), i32_add0]
  · intro k acc
    show sX3_feesInLedger_4 n σ (k + 1) 5 s acc (Int32.ofNat (kp (sA S))) = _
    rw [sX3_feesInLedger_4]
    exact (zgR_e hR.1.kS hR.1.r4).trans ((zgI_e hR.1.kG (hR.kept.trans h991)).trans (if_neg (by rw [io_lt (by omega) (by omega)]; omega)))
theorem j_sumOf3 (hτ : JR τ S) (hI : Inv (sA S) B) (hn : 1000 < n) {b : Int32} (hb : ¬ b = -1) : fX8_sumOf n 125 3 b (-1) τ = some (aP (sA S) b) := by
  obtain ⟨-, hm, h991, hkp⟩ := hI.1
  unfold fX8_sumOf
  refine zsm_loop (s := fun k acc j => sX8_sumOf_6 n τ k 125 3 b (-1) acc j) (N := kp (sA S)) (e := some) (by omega) ?_ ?_
  · intro k acc j hj
    have e0 : (992 : Int32) + 4 * Int32.ofNat j = Int32.ofNat (992 + 4 * j + 0) := ixe
    have e2 : (992 : Int32) + 4 * Int32.ofNat j + 2 = Int32.ofNat (992 + 4 * j + 2) := (congrArg (· + 2) ixe).trans iz2
    have e3 : (992 : Int32) + 4 * Int32.ofNat j + 3 = Int32.ofNat (992 + 4 * j + 3) := (congrArg (· + 3) ixe).trans iz3
    show sX8_sumOf_6 n τ (k + 1) 125 3 b (-1) acc (Int32.ofNat j) = _
    rw [sX8_sumOf_6]
    refine (zgR_e hτ.k hτ.w).trans ((zaW_e (j := 991) hτ rfl (by decide)).trans ((if_pos (by rw [h991, io_lt (by omega) (by omega)]; exact hj)).trans ?_))
    refine (zgR_e hτ.k hτ.w).trans ((zaW_e hτ e0 (by omega)).trans ?_)
    by_cases h4 : sA S (992 + 4 * j + 0) = 3
    · refine (if_pos h4).trans ((if_neg hb).trans ((zgR_e hτ.k hτ.w).trans ((zaW_e hτ e2 (by omega)).trans ?_)))
      by_cases h5 : sA S (992 + 4 * j + 2) = b
      · refine (if_pos h5).trans ?_
        unfold sX8_sumOf_58
        refine (if_pos rfl).trans ?_
        unfold sX8_sumOf_81 sX8_sumOf_86
        refine (if_neg one_ne).trans ((zgR_e hτ.k hτ.w).trans ((zaW_e hτ e3 (by omega)).trans ?_))
        unfold sX8_sumOf_108
        rw [io_succ, if_pos ⟨h4, h5⟩]
      · refine (if_neg h5).trans ?_
        unfold sX8_sumOf_85 sX8_sumOf_86 sX8_sumOf_108
        refine (if_pos rfl).trans ?_
        rw [io_succ, if_neg (fun q => h5 q.2)]
    · refine (if_neg h4).trans ?_
      unfold sX8_sumOf_85 sX8_sumOf_86 sX8_sumOf_108
      refine (if_pos rfl).trans ?_
      rw [io_succ, if_neg (fun q => h4 q.1)]
  · intro k acc
    show sX8_sumOf_6 n τ (k + 1) 125 3 b (-1) acc (Int32.ofNat (kp (sA S))) = _
    rw [sX8_sumOf_6]
    exact (zgR_e hτ.k hτ.w).trans ((zaW_e (j := 991) hτ rfl (by decide)).trans (if_neg (by rw [h991, io_lt (by omega) (by omega)]; omega)))
theorem j_sumOf4 (hτ : JR τ S) (hI : Inv (sA S) B) (hn : 1000 < n) {s : Int32} (hb : ¬ s = -1) : fX8_sumOf n 125 4 (-1) s τ = some (aF (sA S) s) := by
  obtain ⟨-, hm, h991, hkp⟩ := hI.1
  unfold fX8_sumOf
  refine zsm_loop (s := fun k acc j => sX8_sumOf_6 n τ k 125 4 (-1) s acc j) (N := kp (sA S)) (e := some) (by omega) ?_ ?_
  · intro k acc j hj
    obtain ⟨el, hl⟩ := elo_of hI hj
    have hl20 : elo (sA S) j < 20 := by omega
    have e0 : (992 : Int32) + 4 * Int32.ofNat j = Int32.ofNat (992 + 4 * j + 0) := ixe
    have e1 : (992 : Int32) + 4 * Int32.ofNat j + 1 = Int32.ofNat (992 + 4 * j + 1) := (congrArg (· + 1) ixe).trans iz1
    have e3 : (992 : Int32) + 4 * Int32.ofNat j + 3 = Int32.ofNat (992 + 4 * j + 3) := (congrArg (· + 3) ixe).trans iz3
    show sX8_sumOf_6 n τ (k + 1) 125 4 (-1) s acc (Int32.ofNat j) = _
    rw [sX8_sumOf_6]
    refine (zgR_e hτ.k hτ.w).trans ((zaW_e (j := 991) hτ rfl (by decide)).trans ((if_pos (by rw [h991, io_lt (by omega) (by omega)]; exact hj)).trans ?_))
    refine (zgR_e hτ.k hτ.w).trans ((zaW_e hτ e0 (by omega)).trans ?_)
    by_cases h4 : sA S (992 + 4 * j + 0) = 4
    · refine (if_pos h4).trans ((if_pos rfl).trans ?_)
      unfold sX8_sumOf_58
      refine (if_neg hb).trans ((zgR_e hτ.k hτ.w).trans ((zaW_e hτ e1 (by omega)).trans ?_))
      rw [el]
      refine (zck_e hτ.k).trans ((zb_e (j_at0 hτ hl20)).trans ?_)
      by_cases h5 : sA S (24 + 8 * elo (sA S) j + 0) = s
      · refine (if_pos h5).trans ?_
        unfold sX8_sumOf_81 sX8_sumOf_86
        refine (if_neg one_ne).trans ((zgR_e hτ.k hτ.w).trans ((zaW_e hτ e3 (by omega)).trans ?_))
        unfold sX8_sumOf_108
        rw [io_succ, if_pos ⟨h4, h5⟩]
      · refine (if_neg h5).trans ?_
        unfold sX8_sumOf_85 sX8_sumOf_86 sX8_sumOf_108
        refine (if_pos rfl).trans ?_
        rw [io_succ, if_neg (fun q => h5 q.2)]
    · refine (if_neg h4).trans ?_
      unfold sX8_sumOf_85 sX8_sumOf_86 sX8_sumOf_108
      refine (if_pos rfl).trans ?_
      rw [io_succ, if_neg (fun q => h4 q.1)]
  · intro k acc
    show sX8_sumOf_6 n τ (k + 1) 125 4 (-1) s acc (Int32.ofNat (kp (sA S))) = _
    rw [sX8_sumOf_6]
    exact (zgR_e hτ.k hτ.w).trans ((zaW_e (j := 991) hτ rfl (by decide)).trans (if_neg (by rw [h991, io_lt (by omega) (by omega)]; omega)))
def audB (a : Nat → Int32) (b : Nat) : Int32 := if aP a (Int32.ofNat b) = bPr a (Int32.ofNat b) then 0 else 1
def audS (a : Nat → Int32) (s : Nat) : Int32 := if aF a (Int32.ofNat s) = a (985 + s) then 0 else 1
theorem c_audit (hJ : JC σ S c) (hI : Inv (sA S) B) (hn : 1000 < n) : fX7_audit n 4 σ = some (zac (audS (sA S)) 0 6 (zsm 10 (audB (sA S)))) := by
  have hR := hJ.rep
  have k2 : ∀ acc, sX7_audit_43 n σ n 4 acc 0 = some (zac (audS (sA S)) 0 6 acc) := fun acc => by
    refine zac_loop (s := fun k acc s => sX7_audit_43 n σ k 4 acc s) (N := 6) (e := some) ?_ ?_ 6 0 acc n (by decide) (by omega)
    · intro k acc s hs
      show sX7_audit_43 n σ (k + 1) 4 acc (Int32.ofNat s) = _
      rw [sX7_audit_43]
      refine (if_pos (io_6 hs)).trans ((zgR_e hJ.x hJ.xs).trans ((zck_e hR.1.kS).trans ((zb_e (c_feesInLedger hJ hI hn _)).trans ?_)))
      refine (zgR_e hJ.x hJ.xs).trans ((zgR_e hR.1.kS hR.1.r2).trans ((zaN_e hR.1.kF hR.1.lF hs (by decide) (hR.fee hs)).trans ?_))
      unfold sX7_audit_72 audS
      rw [io_succ]
      by_cases h : aF (sA S) (Int32.ofNat s) = sA S (985 + s)
      · refine (if_pos h).trans ?_
        rw [if_pos h, i32_add0]
      · refine (if_neg h).trans ?_
        rw [if_neg h]
    · intro k acc
      show sX7_audit_43 n σ (k + 1) 4 acc (Int32.ofNat 6) = _
      rw [sX7_audit_43]
      exact if_neg (by decide)
  unfold fX7_audit
  refine Eq.trans (zsm_loop (s := fun k acc b => sX7_audit_4 n σ k 4 acc b) (N := 10) (g := audB (sA S)) (e := fun acc => sX7_audit_43 n σ n 4 acc 0) (by omega) ?_ ?_) (k2 _)
  · intro k acc b hb
    show sX7_audit_4 n σ (k + 1) 4 acc (Int32.ofNat b) = _
    rw [sX7_audit_4]
    refine (if_pos (io_10 hb)).trans ((zgR_e hJ.x hJ.xs).trans ((zgR_e hR.1.kS hR.1.r4).trans ((zck_e hR.1.kG).trans ((zb_e (c_ledgerPrices hR hI.1 hn _)).trans ?_))))
    refine (zgR_e hJ.x hJ.xs).trans ((zck_e hR.1.kS).trans ((zb_e (c_pricesTo hR hI.1 hn _)).trans ?_))
    show (if aP (sA S) (Int32.ofNat b) = bPr (sA S) (Int32.ofNat b) then _ else _) = _
    unfold sX7_audit_35 audB
    rw [io_succ]
    by_cases h : aP (sA S) (Int32.ofNat b) = bPr (sA S) (Int32.ofNat b)
    · rw [if_pos h, if_pos h, i32_add0]
    · rw [if_neg h, if_neg h]
  · intro k acc
    show sX7_audit_4 n σ (k + 1) 4 acc (Int32.ofNat 10) = _
    rw [sX7_audit_4]
    exact if_neg (by decide)
theorem j_audit (hτ : JR τ S) (hI : Inv (sA S) B) (hn : 1000 < n) : fX8_audit n 125 τ = some (zac (audS (sA S)) 0 6 (zsm 10 (audB (sA S))), stI τ 125 0 0) := by
  have h2 := (Tr.one (k := 0) hτ).2.2
  have k2 : ∀ acc, sX8_audit_47 n n 125 acc 0 (stI τ 125 0 0) = some (zac (audS (sA S)) 0 6 acc, stI τ 125 0 0) := fun acc => by
    refine zac_loop (s := fun k acc s => sX8_audit_47 n k 125 acc s (stI τ 125 0 0)) (N := 6) (e := fun acc => some (acc, stI τ 125 0 0)) ?_ ?_ 6 0 acc n (by decide) (by omega)
    · intro k acc s hs
      show sX8_audit_47 n (k + 1) 125 acc (Int32.ofNat s) (stI τ 125 0 0) = _
      rw [sX8_audit_47]
      refine (if_pos (io_6 hs)).trans ((zck_e h2.k).trans ((zb_e (j_sumOf4 h2 hI hn (by rw [io_m1 (show s < 2147483648 by omega)]; exact fun q => q))).trans ((zgR_e h2.k h2.w).trans ((zaW_e h2 iy985 (by omega)).trans ?_))))
      unfold sX8_audit_79 audS
      rw [io_succ]
      by_cases h : aF (sA S) (Int32.ofNat s) = sA S (985 + s)
      · refine (if_pos h).trans ?_
        rw [if_pos h]
      · refine (if_neg h).trans ?_
        rw [if_neg h]
    · intro k acc
      show sX8_audit_47 n (k + 1) 125 acc (Int32.ofNat 6) (stI τ 125 0 0) = _
      rw [sX8_audit_47]
      exact if_neg (by decide)
  unfold fX8_audit
  refine (zpI_e hτ.k rfl).trans ?_
  refine Eq.trans (zsm_loop (s := fun k acc b => sX8_audit_9 n k 125 acc b (stI τ 125 0 0)) (N := 10) (g := audB (sA S)) (e := fun acc => sX8_audit_47 n n 125 acc 0 (stI τ 125 0 0)) (by omega) ?_ ?_) (k2 _)
  · intro k acc b hb
    show sX8_audit_9 n (k + 1) 125 acc (Int32.ofNat b) (stI τ 125 0 0) = _
    rw [sX8_audit_9]
    refine (if_pos (io_10 hb)).trans ((zck_e h2.k).trans ((zb_e (j_sumOf3 h2 hI hn (by rw [io_m1 (show b < 2147483648 by omega)]; exact fun q => q))).trans ((zck_e h2.k).trans ((zb_e (j_b1 h2 hI hn _)).trans ?_))))
    unfold sX8_audit_37 audB
    rw [io_succ]
    by_cases h : aP (sA S) (Int32.ofNat b) = bPr (sA S) (Int32.ofNat b)
    · refine (if_pos h).trans ?_
      rw [if_pos h]
    · refine (if_neg h).trans ?_
      rw [if_neg h]
  · intro k acc
    show sX8_audit_9 n (k + 1) 125 acc (Int32.ofNat 10) (stI τ 125 0 0) = _
    rw [sX8_audit_9]
    exact if_neg (by decide)
/-! the share sold -/
def evc (a : Nat → Int32) (t : Nat) : Nat := nac (fun i => if a (992 + 4 * i) = Int32.ofNat t then 1 else 0) 0 (kp a)
theorem evc_le {a : Nat → Int32} : ∀ (m i : Nat), nac (fun i => if a (992 + 4 * i) = Int32.ofNat 3 then 1 else 0) i m + nac (fun i => if a (992 + 4 * i) = Int32.ofNat 4 then 1 else 0) i m ≤ m
  | 0, _ => Nat.le_refl _
  | m + 1, i => by
    have := evc_le (a := a) m (i + 1)
    unfold nac
    by_cases h : a (992 + 4 * i) = Int32.ofNat 3
    · have h2 : ¬ a (992 + 4 * i) = Int32.ofNat 4 := fun q => by
        rw [h] at q
        exact absurd q (by decide)
      rw [if_pos h, if_neg h2]
      omega
    · rw [if_neg h]
      split <;> omega
theorem evc_c {a : Nat → Int32} (t : Nat) : zsm (kp a) (fun i => if a (992 + 4 * i + 0) = Int32.ofNat t then 1 else 0) = Int32.ofNat (evc a t) := zsm_nat (fun j _ => by
  rw [Nat.add_zero]
  split <;> rfl)
theorem evc_r {a : Nat → Int32} (t : Nat) (ht : t < 1000) : zsm (kp a) (fun i => if Int32.ofNat t = -1 ∨ a (992 + 4 * i) = Int32.ofNat t then 1 else 0) = Int32.ofNat (evc a t) := zsm_nat (fun j _ => by
  have hm := io_m1 (b := t) (by omega)
  by_cases q : a (992 + 4 * j) = Int32.ofNat t
  · rw [if_pos q, if_pos (Or.inr q)]
    rfl
  · rw [if_neg q, if_neg (fun z => by rcases z with z | z; exact hm ▸ z; exact q z)]
    rfl)
theorem zdd_e {α : Type} {u v : Nat} {k : UInt64 → Option α} (huv : u ≤ v) (hv : v ≤ 250) (h0 : 0 < v) : zdd (FP.i2d (Int32.ofNat u)) (FP.i2d (Int32.ofNat v)) k = k (FP.ddiv (FP.i2d (Int32.ofNat u)) (FP.i2d (Int32.ofNat v))) := by
  have h := List.all_eq_true.mp (List.all_eq_true.mp fp_all v (List.mem_range.mpr (by omega))) u (List.mem_range.mpr (by omega))
  have h1 : FP.ddiv (FP.i2d (Int32.ofNat u)) (FP.i2d (Int32.ofNat v)) &&& 0x7fffffffffffffff ≤ 0x7ff0000000000000 := by
    rcases Bool.or_eq_true _ _ ▸ h with h | h
    · have : v = 0 := by simpa using h
      omega
    · exact of_decide_eq_true h
  unfold zdd
  rw [if_pos h1]
end
