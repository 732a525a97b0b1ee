/-! THE TEXT -/
def FT (σ σ' : zW) : Prop := ∀ o, (o < 4 ∨ (125 ≤ o ∧ o < 133)) → zK σ' o = zK σ o ∧ zR σ' o = zR σ o ∧ zL σ' o = zL σ o ∧ zI σ' o = zI σ o
theorem FT.refl {σ : zW} : FT σ σ := fun _ _ => ⟨rfl, rfl, rfl, rfl⟩
theorem FT.trans {σ σ1 σ2 : zW} (h : FT σ σ1) (h2 : FT σ1 σ2) : FT σ σ2 := fun o ho => by
  obtain ⟨a1, a2, a3, a4⟩ := h o ho
  obtain ⟨b1, b2, b3, b4⟩ := h2 o ho
  exact ⟨b1.trans a1, b2.trans a2, b3.trans a3, b4.trans a4⟩
theorem FC.ft {σ σ' : zW} (h : FC σ σ') : FT σ σ' := fun o ho => h o (by omega)
theorem Fr.ft {P : Nat → Prop} {σ σ' : zW} (h : Fr P σ σ') (hP : ∀ o, P o → 4 ≤ o ∧ o < 125) : FT σ σ' := fun o ho => by
  rw [h.K, h.R, h.L, h.2 o (fun q => by have := hP o q; omega)]
  exact ⟨rfl, rfl, rfl, rfl⟩
theorem LW.ft {σ σ' : zW} {L : Nat} {xs : Nat → Int32} (h : LW σ L xs) (hf : FT σ σ') : LW σ' L xs := by
  obtain ⟨a1, a2, a3, a4⟩ := hf 3 (by omega)
  obtain ⟨b1, b2, b3, b4⟩ := hf 131 (by omega)
  obtain ⟨c1, c2, c3, c4⟩ := hf 132 (by omega)
  unfold LW at h ⊢
  rw [a1, a3, a4, b1, b3, c1, c3]
  exact h
theorem JR.ft {σ σ' : zW} {S : St} (h : JR σ S) (hf : FT σ σ') : JR σ' S := by
  have e : ∀ o, 125 ≤ o → o < 131 → zK σ' o = zK σ o ∧ zR σ' o = zR σ o ∧ zL σ' o = zL σ o ∧ zI σ' o = zI σ o := fun o h1 h2 => hf o (Or.inr ⟨h1, by omega⟩)
  obtain ⟨a1, a2, a3, a4⟩ := e 125 (by decide) (by decide)
  obtain ⟨b1, b2, b3, b4⟩ := e 126 (by decide) (by decide)
  obtain ⟨c1, c2, c3, c4⟩ := e 127 (by decide) (by decide)
  obtain ⟨d1, d2, d3, d4⟩ := e 128 (by decide) (by decide)
  obtain ⟨e1, e2, e3, e4⟩ := e 129 (by decide) (by decide)
  obtain ⟨f1, f2, f3, f4⟩ := e 130 (by decide) (by decide)
  unfold JR LM Rf at h ⊢
  rw [a1, a2, a4, b1, b3, b4, c1, c3, c4, d1, d3, d4, e1, e3, e4, f1, f3, f4]
  exact h
def uY (S : St) (f : Int32) (l r : Nat) (x : Nat → Int32) (m : Int32 → (Nat → Int32) → Prop) : St := (S.1, S.2.1, S.2.2.1, (sRs S, f), (((l, r), x), m))
theorem JC.ty {σ σ' : zW} {S : St} {c l r : Nat} {f : Int32} {x : Nat → Int32} {m : Int32 → (Nat → Int32) → Prop} (h : JC σ S c) (hf : Fr (fun o => o = 4 ∨ o = 122 ∨ o = 123 ∨ o = 124) σ σ') (e5 : zI σ' 4 5 = zI σ 4 5) (e6 : zI σ' 4 6 = f) (h2 : zI σ' 122 2 = Int32.ofNat l) (hx : ∀ j, j < l → zI σ' 123 j = x j) : JC σ' (uY S f l r x m) c := by
  have hn : ∀ o, ¬ (o = 4 ∨ o = 122 ∨ o = 123 ∨ o = 124) → zI σ' o = zI σ o := fun o ho => hf.2 o ho
  have hR : ∀ p, 133 ≤ p → ∀ a, Rep σ p a → Rep σ' p a := fun p hp a h => h.fr hf (fun o h1 h2 q => by omega)
  obtain ⟨⟨a1, a2, a3, ⟨a4, a5, nx, a6, a7, a8⟩, a9, ⟨b1, b2⟩, -, b5⟩, b6⟩ := h
  have e := kpo_fr hf
  refine ⟨⟨a1.fr hf (by decide) (by decide), a2.fr hf (fun o h1 h2 q => by omega), a3.fr hf, ⟨?_, a5, nx, a6, ?_, fun k hk => ?_⟩, fun hb => ?_, ⟨?_, e6⟩, ⟨h2, hx⟩, ?_⟩, fun q => ?_⟩
  · rw [hn 120 (by decide)]; exact a4
  · rw [hn 120 (by decide)]; exact a7
  · rw [e]
    obtain ⟨g1, g2⟩ := a8 k hk
    exact ⟨g1, hR _ (a3.1 _ (by omega) g1).1 _ g2⟩
  · rw [e]
    obtain ⟨g1, g2⟩ := a9 hb
    exact ⟨g1, hR _ (a3.1 _ (by omega) g1).1 _ g2⟩
  · rw [e5]; exact b1
  · unfold BG
    rw [e, hf.N, hf.S]
    exact b5
  · rw [hf.R]; exact b6 q
theorem JR.ty {τ τ' : zW} {S : St} {l r : Nat} {f : Int32} {x : Nat → Int32} {m : Int32 → (Nat → Int32) → Prop} (h : JR τ S) (hf : Fr (fun o => o = 125 ∨ o = 129 ∨ o = 130) τ τ') (e3 : zI τ' 125 3 = zI τ 125 3) (e5 : zI τ' 125 5 = zI τ 125 5) (e6 : zI τ' 125 6 = zI τ 125 6) (e15 : zI τ' 125 15 = f) (e12 : zI τ' 125 12 = Int32.ofNat r) (hx : ∀ j, j < r → zI τ' 129 j = x j) (e17 : m (zI τ' 125 17) (zI τ' 130)) : JR τ' (uY S f l r x m) := by
  have hn : ∀ o, ¬ (o = 125 ∨ o = 129 ∨ o = 130) → zI τ' o = zI τ o := fun o ho => hf.2 o ho
  obtain ⟨a1, a2, ⟨a3, a4, a5⟩, ⟨a6, a7⟩, ⟨a8, a9⟩, -⟩ := h
  refine ⟨a1.fr hf, ?_, ⟨?_, a4, ?_⟩, ⟨?_, ?_⟩, ⟨?_, e15⟩, ⟨e12, hx, e17⟩⟩
  · rw [hn 126 (by decide)]; exact a2
  · rw [e3]; exact a3
  · rw [hn 127 (by decide)]; exact a5
  · rw [e5]; exact a6
  · rw [hn 128 (by decide)]; exact a7
  · rw [e6]; exact a8
theorem zaC_e {α : Type} {σ : zW} {r j L : Nat} {x : Int32} {c : Int32 → Option α} (h : zK σ r = 22) (hL : zL σ r = L) (hj : j < L) (h2 : L ≤ 2147483648) (hx : zI σ r j = x) : zaC σ r (Int32.ofNat j) c = c x := by
  unfold zaC
  rw [if_pos ⟨h, by rw [hL]; exact io_zix hj (by omega)⟩, io_nat (by omega), hx]
theorem zsC_e {α : Type} {σ : zW} {r j L : Nat} {v : Int32} {c : zW → Option α} (h : zK σ r = 22) (hL : zL σ r = L) (hj : j < L) (h2 : L ≤ 2147483648) : zsC σ r (Int32.ofNat j) v c = c (stI σ r j (vp_nar .char v)) := by
  unfold zsC
  rw [if_pos ⟨h, by rw [hL]; exact io_zix hj (by omega)⟩, io_nat (by omega)]
theorem nar_b {v : Int32} : 0 ≤ vp_nar .char v ∧ vp_nar .char v ≤ 65535 := by
  rw [vp_nar_char]
  generalize v.toUInt32.toUInt16 = w
  have h2 : w.toNat < 65536 := w.toNat_lt
  have h1 : w.toUInt32.toInt32.toInt = (w.toNat : Int) := by
    show w.toUInt32.toBitVec.toInt = _
    rw [BitVec.toInt_eq_toNat_of_lt]
    · rfl
    · show 2 * w.toNat < 2 ^ 32
      omega
  have h3 : (0 : Int32).toInt = 0 := rfl
  have h4 : (65535 : Int32).toInt = 65535 := rfl
  exact ⟨Int32.le_iff_toInt_le.mpr (by omega), Int32.le_iff_toInt_le.mpr (by omega)⟩
section
variable {σ τ : zW} {S S' : St} {c n B : Nat}
theorem JC.tk (h : JC σ S c) : zR σ 122 0 = 123 ∧ zR σ 122 1 = 124 ∧ zK σ 123 = 22 ∧ zL σ 123 = 60 ∧ zK σ 124 = 20 ∧ zL σ 124 = 3 := h.1.1.2.2.2.1.2
theorem JC.tl (h : JC σ S c) : zI σ 122 2 = Int32.ofNat (sTl S) := h.1.2.2.2.2.2.2.1.1
theorem JC.tx (h : JC σ S c) : ∀ j, j < sTl S → zI σ 123 j = sTx S j := h.1.2.2.2.2.2.2.1.2
theorem JR.tr (h : JR τ S) : zI τ 125 12 = Int32.ofNat (sTr S) := h.2.2.2.2.2.1
theorem JR.tx (h : JR τ S) : ∀ j, j < sTr S → zI τ 129 j = sTx S j := h.2.2.2.2.2.2.1
theorem JR.q (h : JR τ S) : sQ S (zI τ 125 17) (zI τ 130) := h.2.2.2.2.2.2.2
theorem JR.bk (h : JR τ S) : zR τ 125 11 = 129 ∧ zK τ 129 = 22 ∧ zL τ 129 = 60 := h.1.2.2.2.1
theorem JR.ck (h : JR τ S) : zR τ 125 16 = 130 ∧ zK τ 130 = 20 ∧ zL τ 130 = 120 := h.1.2.2.2.2
theorem l60 {x : Nat} (hx : x < 2147483648) : (Int32.ofNat x < 60) = (x < 60) := io_lt (b := 60) hx (by decide)
theorem o_append (hJ : JC σ S c) (hS : SI S (100 * c)) (hcc : c ≤ 512) (hn : 30000 < n) (hT : sTr S = sTl S) (v : Int32) : OPU (fL_append n 4 v) (fX8_append n 125 v) σ S c := by
  have rm := hJ.room (by omega)
  obtain ⟨t0, t1, t2, t3, t4, t5⟩ := hJ.tk
  have hl := hS.2.2.2.1
  by_cases h : sTl S < 60
  · have hq : Int32.ofNat (sTl S) < 60 := Eq.mpr (l60 (x := sTl S) (by omega)) h
    have cl : wp (fX7_append n 4 v σ) (fun r => ∃ σ1, r = (.inl (), σ1) ∧ JC σ1 (uY S (sFl S) (sTl S + 1) (sTl S + 1) (up (sTx S) (sTl S) (vp_nar .char v)) S.2.2.2.2.2) c ∧ FT σ σ1) := by
      unfold fX7_append
      refine wpE (zgR_e hJ.x hJ.xt) ?_
      refine wpE (zgI_e hJ.kt hJ.tl) ?_
      refine wpE (if_pos hq) ?_
      refine wpE (zgR_e hJ.x hJ.xt) ?_
      refine wpE (zck_e hJ.kt) ?_
      have e : fX6_add n 122 v σ = some (stI (stI σ 123 (sTl S) (vp_nar .char v)) 122 2 (Int32.ofNat (sTl S + 1))) := by
        unfold fX6_add
        refine (zgI_e hJ.kt hJ.tl).trans ((if_pos hq).trans ((zgR_e hJ.kt t0).trans ((zgI_e hJ.kt hJ.tl).trans ((zsC_e t2 t3 h (by decide)).trans ?_))))
        have z : zI (stI σ 123 (sTl S) (vp_nar .char v)) 122 2 = Int32.ofNat (sTl S) := (congrFun (zI_st_ne (by decide)) 2).trans hJ.tl
        refine (zgI_e (show zK (stI σ 123 (sTl S) (vp_nar .char v)) 122 = 7 from hJ.kt) z).trans ((zpI_e (show zK (stI σ 123 (sTl S) (vp_nar .char v)) 122 = 7 from hJ.kt) io_succ).trans ?_)
        unfold sX6_add_29
        rfl
      refine wpE (zb_e e) ?_
      have F : Fr (fun o => o = 4 ∨ o = 122 ∨ o = 123 ∨ o = 124) σ (stI (stI σ 123 (sTl S) (vp_nar .char v)) 122 2 (Int32.ofNat (sTl S + 1))) := (Fr.st (by decide)).trans (Fr.st (by decide))
      have e4 : zI (stI (stI σ 123 (sTl S) (vp_nar .char v)) 122 2 (Int32.ofNat (sTl S + 1))) 4 = zI σ 4 := (zI_st_ne (by decide)).trans (zI_st_ne (by decide))
      refine wp_some ⟨_, rfl, hJ.ty F (congrFun e4 5) ((congrFun e4 6).trans hJ.fl) (by rw [zI_st, if_pos ⟨rfl, rfl⟩]) (fun j hj => ?_), F.ft (fun o q => by omega)⟩
      rw [zI_st_ne (by decide), zI_st]
      unfold up
      by_cases g : j = sTl S
      · rw [if_pos ⟨rfl, g⟩, if_pos g]
      · rw [if_neg (fun q => g q.2), if_neg g]
        exact hJ.tx j (by omega)
    obtain ⟨r, er, σ1, rfl, J1, F1⟩ := cl
    refine ⟨0, σ1, _, ?_, J1.mono (by omega), fun L xs h => h.ft F1, fun h => h.ft F1, ⟨⟨hS.1.mono (by omega), fun k hk => (hS.2.1 k hk).mono (by omega), fun q => (hS.2.2.1 q).mono (by omega), show sTl S + 1 ≤ 60 by omega, fun j hj => ?_⟩, fun _ => rfl⟩, fun τ hτ => ?_⟩
    · unfold fL_append
      exact (zck_e hJ.x).trans (zbx_l er)
    · show 0 ≤ up (sTx S) (sTl S) (vp_nar .char v) j ∧ up (sTx S) (sTl S) (vp_nar .char v) j ≤ 65535
      have hj : j < sTl S + 1 := hj
      unfold up
      by_cases g : j = sTl S
      · rw [if_pos g]; exact nar_b
      · rw [if_neg g]; exact hS.2.2.2.2 j (by omega)
    · have hT0 := Tr.one (k := 0) hτ
      have h2 := hT0.2.2
      have b := h2.bk
      have tr : zI (stI τ 125 0 0) 125 12 = Int32.ofNat (sTl S) := h2.tr.trans (by rw [hT])
      have g : wp (fX8_append n 125 v τ) (fun τ' => zI τ' 125 0 = 0 ∧ JR τ' (uY S (sFl S) (sTl S + 1) (sTl S + 1) (up (sTx S) (sTl S) (vp_nar .char v)) S.2.2.2.2.2) ∧ Fr PR τ τ') := by
        unfold fX8_append
        refine wpE (zpI_e hτ.k rfl) ?_
        refine wpE (zgI_e h2.k tr) ?_
        refine wpE (if_neg (fun z => by have : (Int32.ofNat (sTl S) = 60) = (sTl S = 60) := io_eq (b := 60) (by omega) (by decide); rw [this] at z; omega)) ?_
        refine wpE (zgR_e h2.k b.1) ?_
        refine wpE (zgI_e h2.k tr) ?_
        refine wpE (zsC_e b.2.1 b.2.2 h (by decide)) ?_
        have k5 : zK (stI (stI τ 125 0 0) 129 (sTl S) (vp_nar .char v)) 125 = 9 := h2.k
        have e5 : zI (stI (stI τ 125 0 0) 129 (sTl S) (vp_nar .char v)) 125 = zI (stI τ 125 0 0) 125 := zI_st_ne (by decide)
        refine wpE (zgI_e k5 ((congrFun e5 12).trans tr)) ?_
        refine wpE (zpI_e k5 io_succ) ?_
        have F : Fr (fun o => o = 125 ∨ o = 129 ∨ o = 130) (stI τ 125 0 0) (stI (stI (stI τ 125 0 0) 129 (sTl S) (vp_nar .char v)) 125 12 (Int32.ofNat (sTl S + 1))) := (Fr.st (by decide)).trans (Fr.st (by decide))
        have eo : ∀ j, j ≠ 12 → zI (stI (stI (stI τ 125 0 0) 129 (sTl S) (vp_nar .char v)) 125 12 (Int32.ofNat (sTl S + 1))) 125 j = zI (stI τ 125 0 0) 125 j := fun j hj => by rw [zI_st, if_neg (fun q => hj q.2), e5]
        refine wp_some ⟨(eo 0 (by decide)).trans hT0.1, h2.ty F (eo 3 (by decide)) (eo 5 (by decide)) (eo 6 (by decide)) ((eo 15 (by decide)).trans h2.fl) (by rw [zI_st, if_pos ⟨rfl, rfl⟩]) (fun j hj => ?_) (by have z : zI (stI (stI (stI τ 125 0 0) 129 (sTl S) (vp_nar .char v)) 125 12 (Int32.ofNat (sTl S + 1))) 130 = zI (stI τ 125 0 0) 130 := (zI_st_ne (by decide)).trans (zI_st_ne (by decide)); rw [eo 17 (by decide), z]; exact h2.q), PR.i.trans (F.mono (fun o q => by unfold PR; omega))⟩
        rw [zI_st_ne (by decide), zI_st]
        unfold up
        by_cases g : j = sTl S
        · rw [if_pos ⟨rfl, g⟩, if_pos g]
        · rw [if_neg (fun q => g q.2), if_neg g]
          exact h2.tx j (by omega)
      obtain ⟨τ', g1, g2, g3, g4⟩ := g
      exact ⟨τ', g1, g2, g3, g4⟩
  · have h60 : sTl S = 60 := by omega
    refine ⟨1, nwX σ, S, ?_, hJ.thr, fun L xs h => h.fc FC.thr, fun h => h.fc FC.thr, ⟨hS.mono (by omega), fun q => q⟩, fun τ hτ => ?_⟩
    · have er : fX7_append n 4 v σ = some (.inr 3, nwX σ) := by
        unfold fX7_append
        exact (zgR_e hJ.x hJ.xt).trans ((zgI_e hJ.kt hJ.tl).trans ((if_neg (fun z => h (Eq.mp (l60 (x := sTl S) (by omega)) z))).trans (zth_e rm.1 rm.2)))
      unfold fL_append
      exact (zck_e hJ.x).trans ((zbx_r er).trans rfl)
    · have hT0 := Tr.one (k := 0) hτ
      have h2 := hT0.2.2
      have tr : zI (stI τ 125 0 0) 125 12 = Int32.ofNat 60 := h2.tr.trans (by rw [hT, h60])
      have g : wp (fX8_append n 125 v τ) (fun τ' => τ' = stI (stI τ 125 0 0) 125 0 1) := by
        unfold fX8_append
        refine wpE (zpI_e hτ.k rfl) ?_
        refine wpE (zgI_e h2.k tr) ?_
        refine wpE (if_pos rfl) ?_
        refine wpE (zpI_e h2.k rfl) ?_
        exact wp_some rfl
      have hT2 := Tr.two (k := 1) (l := 0) hτ
      exact ⟨_, wp_eq g, hT2.1, hT2.2.2, hT2.2.1⟩
end
