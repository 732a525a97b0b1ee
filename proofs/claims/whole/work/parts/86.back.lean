/-! A SALE IS TAKEN BACK, SAVED, BROUGHT BACK -/
theorem JC.hs {σ σ' : zW} {S : St} {c pc : Nat} {P : Nat → Nat → Int32} (h : JC σ S c) (hf : Fr (fun o => o = 120) σ σ') (hh : HS σ' (uH S pc P)) : JC σ' (uH S pc P) c := by
  have hn : ∀ o, o ≠ 120 → zI σ' o = zI σ o := fun o ho => hf.2 o ho
  have hR : ∀ p, 133 ≤ p → ∀ a, Rep σ p a → Rep σ' p a := fun p hp a h => h.fr hf (fun o h1 h2 q => by have : o = 120 := q; omega)
  obtain ⟨⟨a1, a2, a3, -, a9, ⟨b1, b2⟩, ⟨b3, b4⟩, b5⟩, b6⟩ := h
  have e := kpo_fr hf
  refine ⟨⟨a1.fr hf (by decide) (by decide), a2.fr hf (fun o h1 h2 q => by have : o = 120 := q; omega), a3.fr hf, hh, fun hb => ?_, ⟨?_, ?_⟩, ⟨?_, fun j hj => ?_⟩, ?_⟩, fun q => ?_⟩
  · rw [e]
    obtain ⟨g1, g2⟩ := a9 hb
    exact ⟨g1, hR _ (a3.1 _ (by omega) g1).1 _ g2⟩
  · rw [hn 4 (by decide)]; exact b1
  · rw [hn 4 (by decide)]; exact b2
  · rw [hn 122 (by decide)]; exact b3
  · rw [hn 123 (by decide)]; exact b4 j hj
  · unfold BG
    rw [e, hf.N, hf.S]
    exact b5
  · rw [hf.R]; exact b6 q
section
variable {σ τ : zW} {S S' : St} {c n B : Nat}
/-- the last of the kept Sales -/
theorem c_giveBack (hJ : JC σ S c) (hS : SI S B) (hn : 1000 < n) (hpc : sPc S ≠ 0) : wp (fX0_giveBack n 120 5 σ) (fun σ' => JC σ' (uH (uA S (sP S (sPc S - 1))) (sPc S - 1) (sP S)) c ∧ FC σ σ') := by
  have hJ0 := hJ
  obtain ⟨⟨a1, a2, a3, ⟨a4, a5, nx, a6, a7, a8⟩, a9, b1, b2, b3⟩, b6⟩ := hJ
  obtain ⟨g1, g2⟩ := a8 (sPc S - 1) (by omega)
  have ei : (nx + 10 - sPc S + (sPc S - 1)) % 10 = (nx + 9) % 10 := by omega
  rw [ei] at g1 g2
  have hlt : (nx + 9) % 10 < 10 := Nat.mod_lt _ (by decide)
  obtain ⟨p1, p2, p3⟩ := a3.1 _ (show (nx + 9) % 10 < 11 by omega) g1
  have kx : kpo σ ((nx + 9) % 10) = zR σ 121 ((nx + 9) % 10) := if_pos hlt
  have im : ((Int32.ofNat nx + 10) - 1) - ((Int32.ofNat nx + 10) - 1) / 10 * 10 = Int32.ofNat ((nx + 9) % 10) := by
    have : (Int32.ofNat nx + 10) - 1 = Int32.ofNat (nx + 9) := by
      rw [show (10 : Int32) = Int32.ofNat 10 from rfl, ixl, io_one (by omega)]
      rfl
    rw [this, io_mod10 (by omega)]
  have hI1 := hS.2.1 (sPc S - 1) (by omega)
  unfold fX0_giveBack
  refine wpE (zgI_e a1.2.2.1.1 a7) ?_
  refine wpE (zdv_e (by decide)) ?_
  refine wpE (zgI_e a1.2.2.1.1 a4) ?_
  refine wpE (if_neg (fun z => by rw [io_z (by omega)] at z; exact hpc z)) ?_
  rw [im]
  refine wpE (zgR_e a1.2.2.1.1 a1.2.2.1.2.1) ?_
  refine wpE (zaRN_e a1.2.2.1.2.2.1 a1.2.2.1.2.2.2 hlt (by decide) kx.symm) ?_
  refine wpE (if_neg g1) ?_
  refine wpE (zgR_e a1.2.2.1.1 a1.2.2.1.2.1) ?_
  refine wpE (zaRN_e a1.2.2.1.2.2.1 a1.2.2.1.2.2.2 hlt (by decide) kx.symm) ?_
  refine wpE (zck_e a2.1.kS) ?_
  obtain ⟨σ1, e1, w1⟩ := c_take (n := n) g2 a2.1 hI1.1 hn (Or.inl (by omega))
  refine wpE (zb_e e1) ?_
  have J1 := hJ0.wr w1
  have F1 := w1.1
  have k1 : zK σ1 120 = 1 := (congrFun F1.K 120).trans a1.2.2.1.1
  have i1 : zI σ1 120 = zI σ 120 := F1.2 120 (fun q => by have := q.2; omega)
  refine wpE (zpI_e k1 rfl) ?_
  have e2 : zI (stI σ1 120 1 (Int32.ofNat ((nx + 9) % 10))) 120 2 = Int32.ofNat (sPc S) := by rw [zI_st, if_neg (by omega), i1, a4]
  refine wpE (zgI_e k1 e2) ?_
  refine wpE (zpI_e k1 (io_one (by omega))) ?_
  have F2 : Fr (fun o => o = 120) σ1 (stI (stI σ1 120 1 (Int32.ofNat ((nx + 9) % 10))) 120 2 (Int32.ofNat (sPc S - 1))) := by
    refine (Fr.st (P := fun o => o = 120) ?_).trans (Fr.st ?_) <;> rfl
  obtain ⟨-, -, a3', ⟨-, -, nx', h6, h7, h8⟩, -⟩ := J1.1
  have hnx : nx' = nx := by
    have := h7.symm.trans ((congrFun i1 1).trans a7)
    exact (io_inj (by omega) (by omega)).mp this
  subst hnx
  refine wp_some ⟨J1.hs F2 ⟨?_, ?_, (nx' + 9) % 10, hlt, ?_, fun k hk => ?_⟩, (FC.wr w1).trans (F2.fc (fun o q => Or.inl (by have : o = 120 := q; omega)))⟩
  · rw [zI_st, if_pos ⟨rfl, rfl⟩]
    rfl
  · show sPc S - 1 ≤ 10
    omega
  · rw [zI_st, if_neg (by omega), zI_st, if_pos ⟨rfl, rfl⟩]
  · have hk : k < sPc S - 1 := hk
    rw [kpo_fr F2]
    obtain ⟨q1, q2⟩ := h8 k (show k < sPc S by omega)
    have q3 : kpo σ1 ((nx' + 10 - sPc S + k) % 10) ≠ 0 := q1
    have q4 : Rep σ1 (kpo σ1 ((nx' + 10 - sPc S + k) % 10)) (sP S k) := q2
    have es : ((nx' + 9) % 10 + 10 - (sPc S - 1) + k) % 10 = (nx' + 10 - sPc S + k) % 10 := by omega
    show kpo σ1 (((nx' + 9) % 10 + 10 - (sPc S - 1) + k) % 10) ≠ 0 ∧ Rep _ (kpo σ1 (((nx' + 9) % 10 + 10 - (sPc S - 1) + k) % 10)) (sP S k)
    rw [es]
    refine ⟨q3, q4.fr F2 (fun o o1 o2 q => ?_)⟩
    have : o = 120 := q
    have := (a3'.1 _ (by omega) q3).1
    omega
/-- the reference's rows are copied -/
theorem r_undo30 (h : LM τ) {pm : Nat} (hp : pm < 10) (h3 : zI τ 125 3 = Int32.ofNat pm) (hn : 30000 < n) : wp (sX8_undo_30 n n 125 0 τ) (fun p => p.1 = Int32.ofNat pm ∧ Fr (fun o => o = 126) τ p.2 ∧ ∀ j, zI p.2 126 j = if j < 1992 then zI τ 127 (1992 * pm + j) else zI τ 126 j) := by
  have key : ∀ (d i k : Nat) (σ1 : zW), i + d = 1992 → d < k → Fr (fun o => o = 126) τ σ1 → (∀ j, zI σ1 126 j = if j < i then zI τ 127 (1992 * pm + j) else zI τ 126 j) →
      wp (sX8_undo_30 n k 125 (Int32.ofNat i) σ1) (fun p => p.1 = Int32.ofNat pm ∧ Fr (fun o => o = 126) τ p.2 ∧ ∀ j, zI p.2 126 j = if j < 1992 then zI τ 127 (1992 * pm + j) else zI τ 126 j) := by
    intro d
    induction d with
    | zero =>
      intro i k σ1 hi hk hF hI
      obtain ⟨k, rfl⟩ : ∃ k', k = k' + 1 := ⟨k - 1, by omega⟩
      have hi : i = 1992 := by omega
      subst hi
      have L1 := h.fr hF
      have e5 : zI σ1 125 = zI τ 125 := hF.2 125 (by decide)
      rw [sX8_undo_30]
      refine wpE (if_neg (by rw [io_1992 (by omega)]; omega)) ?_
      refine wpE (zgI_e L1.1.kM ((congrFun e5 3).trans h3)) ?_
      exact wp_some ⟨rfl, hF, hI⟩
    | succ d ih =>
      intro i k σ1 hi hk hF hI
      obtain ⟨k, rfl⟩ : ∃ k', k = k' + 1 := ⟨k - 1, by omega⟩
      have L1 := h.fr hF
      have e5 : zI σ1 125 = zI τ 125 := hF.2 125 (by decide)
      have e7 : zI σ1 127 = zI τ 127 := hF.2 127 (by decide)
      rw [sX8_undo_30]
      refine wpE (if_pos (by rw [io_1992 (by omega)]; omega)) ?_
      refine wpE (zgR_e L1.1.kM L1.1.rW) ?_
      refine wpE (zgR_e L1.1.kM L1.2.1.1) ?_
      refine wpE (zgI_e L1.1.kM ((congrFun e5 3).trans h3)) ?_
      rw [ix92m, io_succ]
      refine wpE (zaN_e L1.2.1.2.1 L1.2.1.2.2 (show 1992 * pm + i < 19920 by omega) (by decide) (congrFun e7 _)) ?_
      refine wpE (zsN_e L1.1.kW L1.1.lW (show i < 1992 by omega) (by decide) rfl) ?_
      refine ih (i + 1) k _ (by omega) (by omega) (hF.trans (Fr.st rfl)) (fun j => ?_)
      rw [zI_st]
      by_cases e : j = i
      · rw [if_pos ⟨rfl, e⟩, if_pos (by omega), e]
      · rw [if_neg (fun q => e q.2), hI j]
        by_cases g : j < i
        · rw [if_pos g, if_pos (by omega)]
        · rw [if_neg g, if_neg (by omega)]
  exact key 1992 0 n τ (by omega) (by omega) Fr.refl (fun j => by rw [if_neg (by omega)])
theorem r_save12 (h : LM τ) (hn : 30000 < n) : wp (sX8_save_12 n n 125 0 τ) (fun τ' => Fr (fun o => o = 128) τ τ' ∧ ∀ j, j < 1992 → zI τ' 128 j = zI τ 126 j) := by
  have key : ∀ (d i k : Nat) (σ1 : zW), i + d = 1992 → d < k → Fr (fun o => o = 128) τ σ1 → (∀ j, j < i → zI σ1 128 j = zI τ 126 j) →
      wp (sX8_save_12 n k 125 (Int32.ofNat i) σ1) (fun τ' => Fr (fun o => o = 128) τ τ' ∧ ∀ j, j < 1992 → zI τ' 128 j = zI τ 126 j) := by
    intro d
    induction d with
    | zero =>
      intro i k σ1 hi hk hF hI
      obtain ⟨k, rfl⟩ : ∃ k', k = k' + 1 := ⟨k - 1, by omega⟩
      have hi : i = 1992 := by omega
      subst hi
      rw [sX8_save_12]
      refine wpE (if_neg (by rw [io_1992 (by omega)]; omega)) ?_
      exact wp_some ⟨hF, hI⟩
    | succ d ih =>
      intro i k σ1 hi hk hF hI
      obtain ⟨k, rfl⟩ : ∃ k', k = k' + 1 := ⟨k - 1, by omega⟩
      have L1 := h.fr hF
      have e6 : zI σ1 126 = zI τ 126 := hF.2 126 (by decide)
      rw [sX8_save_12]
      refine wpE (if_pos (by rw [io_1992 (by omega)]; omega)) ?_
      refine wpE (zgR_e L1.1.kM L1.2.2.1.1) ?_
      refine wpE (zgR_e L1.1.kM L1.1.rW) ?_
      rw [io_succ]
      refine wpE (zaN_e L1.1.kW L1.1.lW (show i < 1992 by omega) (by decide) (congrFun e6 _)) ?_
      refine wpE (zsN_e L1.2.2.1.2.1 L1.2.2.1.2.2 (show i < 1992 by omega) (by decide) rfl) ?_
      refine ih (i + 1) k _ (by omega) (by omega) (hF.trans (Fr.st rfl)) (fun j hj => ?_)
      rw [zI_st]
      by_cases e : j = i
      · rw [if_pos ⟨rfl, e⟩, e]
      · rw [if_neg (fun q => e q.2), hI j (by omega)]
  exact key 1992 0 n τ (by omega) (by omega) Fr.refl (fun j hj => by omega)
theorem r_restore31 (h : LM τ) (hn : 30000 < n) : wp (sX8_restore_31 n n 125 0 τ) (fun τ' => Fr (fun o => o = 126) τ τ' ∧ ∀ j, zI τ' 126 j = if j < 1992 then zI τ 128 j else zI τ 126 j) := by
  have key : ∀ (d i k : Nat) (σ1 : zW), i + d = 1992 → d < k → Fr (fun o => o = 126) τ σ1 → (∀ j, zI σ1 126 j = if j < i then zI τ 128 j else zI τ 126 j) →
      wp (sX8_restore_31 n k 125 (Int32.ofNat i) σ1) (fun τ' => Fr (fun o => o = 126) τ τ' ∧ ∀ j, zI τ' 126 j = if j < 1992 then zI τ 128 j else zI τ 126 j) := by
    intro d
    induction d with
    | zero =>
      intro i k σ1 hi hk hF hI
      obtain ⟨k, rfl⟩ : ∃ k', k = k' + 1 := ⟨k - 1, by omega⟩
      have hi : i = 1992 := by omega
      subst hi
      rw [sX8_restore_31]
      refine wpE (if_neg (by rw [io_1992 (by omega)]; omega)) ?_
      exact wp_some ⟨hF, hI⟩
    | succ d ih =>
      intro i k σ1 hi hk hF hI
      obtain ⟨k, rfl⟩ : ∃ k', k = k' + 1 := ⟨k - 1, by omega⟩
      have L1 := h.fr hF
      have e8 : zI σ1 128 = zI τ 128 := hF.2 128 (by decide)
      rw [sX8_restore_31]
      refine wpE (if_pos (by rw [io_1992 (by omega)]; omega)) ?_
      refine wpE (zgR_e L1.1.kM L1.1.rW) ?_
      refine wpE (zgR_e L1.1.kM L1.2.2.1.1) ?_
      rw [io_succ]
      refine wpE (zaN_e L1.2.2.1.2.1 L1.2.2.1.2.2 (show i < 1992 by omega) (by decide) (congrFun e8 _)) ?_
      refine wpE (zsN_e L1.1.kW L1.1.lW (show i < 1992 by omega) (by decide) rfl) ?_
      refine ih (i + 1) k _ (by omega) (by omega) (hF.trans (Fr.st rfl)) (fun j => ?_)
      rw [zI_st]
      by_cases e : j = i
      · rw [if_pos ⟨rfl, e⟩, if_pos (by omega), e]
      · rw [if_neg (fun q => e q.2), hI j]
        by_cases g : j < i
        · rw [if_pos g, if_pos (by omega)]
        · rw [if_neg g, if_neg (by omega)]
  exact key 1992 0 n τ (by omega) (by omega) Fr.refl (fun j => by rw [if_neg (by omega)])
theorem o_undo (hJ : JC σ S c) (hW : zK σ 131 = 23 ∧ zL σ 131 = 1) (hS : SI S (100 * c)) (hcc : c ≤ 512) (hn : 30000 < n) : OPR (fL_undo n 4 131) (fX8_undo n 125) σ S c := by
  have rm := hJ.room (by omega)
  have hM := hJ.1
  obtain ⟨a4, a5, -⟩ := hM.2.2.2.1
  have kh := hJ.kh
  by_cases hpc : sPc S = 0
  · refine o_thr (e := 3) (k := 1) (X := fX7_undo n 4) hJ hS rfl (by decide) ?_ (fun τ hτ => ?_)
    · unfold fX7_undo
      refine wpE (zgR_e hJ.x hJ.xh) ?_
      refine wpE (zgI_e kh a4) ?_
      refine wpE (if_pos (by rw [hpc]; rfl)) ?_
      refine wpE (zth_e rm.1 rm.2) ?_
      exact wp_some rfl
    · have t2 := (Tr.one (k := 0) hτ).2.2
      unfold fX8_undo
      refine wpE (zpI_e hτ.k rfl) ?_
      refine wpE (zgI_e t2.k t2.2.2.1.1) ?_
      refine wpE (if_pos (by rw [hpc]; rfl)) ?_
      exact fin_fail hτ
  · have nz : ¬ Int32.ofNat (sPc S) = 0 := fun z => by rw [io_z (by omega)] at z; exact hpc z
    have hI1 := hS.2.1 (sPc S - 1) (by omega)
    have hS' : SI (uH (uA S (sP S (sPc S - 1))) (sPc S - 1) (sP S)) (100 * (c + 1)) := ⟨hI1.mono (by omega), fun k hk => (hS.2.1 k (by have : k < sPc S - 1 := hk; omega)).mono (by omega), fun q => (hS.2.2.1 q).mono (by omega), hS.2.2.2⟩
    refine o_ok (v := Int32.ofNat (sPc S - 1)) (S' := uH (uA S (sP S (sPc S - 1))) (sPc S - 1) (sP S)) (X := fX7_undo n 4) hJ hW hS' ?_ (fun τ hτ => ?_)
    · unfold fX7_undo
      refine wpE (zgR_e hJ.x hJ.xh) ?_
      refine wpE (zgI_e kh a4) ?_
      refine wpE (if_neg nz) ?_
      refine wpE (zgR_e hJ.x hJ.xh) ?_
      refine wpE (zgR_e hJ.x hJ.xs) ?_
      refine wpE (zck_e kh) ?_
      obtain ⟨σ1, e1, J1, F1⟩ := c_giveBack (n := n) hJ hS (by omega) hpc
      have g4 : zI σ1 120 2 = Int32.ofNat (sPc S - 1) := J1.1.2.2.2.1.1
      refine wpE (zb_e e1) ?_
      refine wpE (zgR_e J1.x J1.xh) ?_
      refine wpE (zgI_e J1.kh g4) ?_
      exact fin_ok rfl ⟨J1, F1⟩
    · have hT := Tr.one (k := 0) hτ
      have t2 := hT.2.2
      have i3 : zI (stI (stI τ 125 0 0) 125 3 (Int32.ofNat (sPc S - 1))) 125 3 = Int32.ofNat (sPc S - 1) := by rw [zI_st, if_pos ⟨rfl, rfl⟩]
      unfold fX8_undo
      refine wpE (zpI_e hτ.k rfl) ?_
      refine wpE (zgI_e t2.k t2.2.2.1.1) ?_
      refine wpE (if_neg nz) ?_
      refine wpE (zgI_e t2.k t2.2.2.1.1) ?_
      refine wpE (zpI_e t2.k (io_one (by omega))) ?_
      have LM3 : LM (stI (stI τ 125 0 0) 125 3 (Int32.ofNat (sPc S - 1))) := t2.1
      obtain ⟨p, e, u, F, hI⟩ := r_undo30 (n := n) LM3 (pm := sPc S - 1) (by omega) i3 hn
      have e125 : zI p.2 125 = zI (stI (stI τ 125 0 0) 125 3 (Int32.ofNat (sPc S - 1))) 125 := F.2 125 (by decide)
      have eo : ∀ j, j ≠ 3 → zI p.2 125 j = zI (stI τ 125 0 0) 125 j := fun j hj => by rw [e125, zI_st, if_neg (fun q => hj q.2)]
      have ex : ∀ o, o ≠ 125 → o ≠ 126 → zI p.2 o = zI (stI τ 125 0 0) o := fun o h1 h2 => by rw [F.2 o h2, zI_st_ne h1]
      obtain ⟨x1, x2, ⟨x3, x4, x5⟩, ⟨x6, x7⟩, ⟨x8, x9⟩, ⟨y1, y2⟩⟩ := t2
      refine ⟨p, e, u, ?_, ?_, LM3.fr F, ?_, ⟨?_, ?_, fun k hk j hj => ?_⟩, ⟨?_, ?_⟩, ⟨?_, ?_⟩, ⟨?_, ?_⟩⟩
      · rw [eo 0 (by decide)]; exact hT.1
      · exact (PR.i.trans PR.i).trans (F.mono (fun o q => by rw [q]; exact ⟨by decide, by decide⟩))
      · funext j
        have z6 : zI (stI (stI τ 125 0 0) 125 3 (Int32.ofNat (sPc S - 1))) 126 = zI (stI τ 125 0 0) 126 := zI_st_ne (by decide)
        have z7 : zI (stI (stI τ 125 0 0) 125 3 (Int32.ofNat (sPc S - 1))) 127 = zI (stI τ 125 0 0) 127 := zI_st_ne (by decide)
        rw [hI j, z6, z7]
        show _ = sP S (sPc S - 1) j
        by_cases hj : j < 1992
        · rw [if_pos hj]
          exact x5 (sPc S - 1) (by omega) j hj
        · rw [if_neg hj, x2, hS.1.2.2.2.2.2.2 j (by omega), hI1.2.2.2.2.2.2 j (by omega)]
      · rw [e125, i3]
        rfl
      · show sPc S - 1 ≤ 10
        omega
      · have hk : k < sPc S - 1 := hk
        rw [ex 127 (by decide) (by decide)]
        exact x5 k (by omega) j hj
      · rw [eo 5 (by decide)]; exact x6
      · rw [ex 128 (by decide) (by decide)]; exact x7
      · rw [eo 6 (by decide)]; exact x8
      · rw [eo 15 (by decide)]; exact x9
      · rw [eo 12 (by decide)]; exact y1
      · rw [ex 129 (by decide) (by decide), eo 17 (by decide), ex 130 (by decide) (by decide)]; exact y2
end
