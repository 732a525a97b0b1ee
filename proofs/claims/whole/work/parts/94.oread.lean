section
variable {σ τ : zW} {S : St} {B c n : Nat}
theorem o_read (hJ : JC σ S c) (hW : zK σ 131 = 23 ∧ zL σ 131 = 1) (hS : SI S (100 * c)) (hcc : c ≤ 512) (hn : 30000 < n) (hT : sTr S = sTl S) : OPR (fL_read n 4 131) (fX8_read n 125) σ S c := by
  have hTX : sTl S ≤ 60 ∧ ∀ j, j < sTl S → 0 ≤ sTx S j ∧ sTx S j ≤ 65535 := hS.2.2.2
  have hl := hTX.1
  -- the class looks the text through
  have cfind : wp (fX6_findFault n 122 σ) (fun r => r.1 = (pl (sTx S) (sTl S) 21 0).1 ∧ JC r.2 S c ∧ Fr (fun o => o = 122 ∨ o = 124) σ r.2 ∧ ((pl (sTx S) (sTl S) 21 0).1 = -1 → zI r.2 122 4 = Int32.ofNat (pl (sTx S) (sTl S) 21 0).2)) := by
    unfold fX6_findFault
    refine wpE (zpI_e hJ.kt rfl) ?_
    have N1 : Nu σ (stI σ 122 3 (Int32.ofNat 0)) 0 := Nu.st
    refine wp_mono (c_find (n := n) hTX (by omega) 21 n 0 0 _ (N1.jc hJ) N1.2.2 (by omega) (by omega) (by omega) (by omega)) (fun r q => ⟨q.1, q.2.1, N1.1.trans q.2.2.1, fun z => ?_⟩)
    rw [q.2.2.2 z, Nat.zero_add]
  -- the reference reads the text
  have rhead : ∀ τ, JR τ S → ∀ Q : Int32 × zW → Prop, (∀ τ1, (∀ m : Int32 → (Nat → Int32) → Prop, m (zI τ1 125 17) (zI τ1 130) → JR τ1 (uY S (pl (sTx S) (sTl S) 21 0).1 (sTl S) 0 (sTx S) m)) → Fr PR τ τ1 → zI τ1 125 0 = 0 → ((pl (sTx S) (sTl S) 21 0).1 = -1 → zI τ1 125 17 = Int32.ofNat (pl (sTx S) (sTl S) 21 0).2 ∧ rows (sTx S) (sTl S) (zI τ1 130) (pl (sTx S) (sTl S) 21 0).2 0 0) → wp (sX8_read_68 n 125 τ1) Q) → wp (fX8_read n 125 τ) Q := by
    intro τ hτ Q hQ
    unfold fX8_read
    have tr : zI τ 125 12 = Int32.ofNat (sTl S) := hτ.tr.trans (by rw [hT])
    have g0 : zI (stI τ 125 0 0) 125 12 = Int32.ofNat (sTl S) := by rw [zI_st, if_neg (by omega)]; exact tr
    refine wpE (zpI_e hτ.k rfl) ?_
    refine wpE (zgI_e (show zK (stI τ 125 0 0) 125 = 9 from hτ.k) g0) ?_
    refine wpE (zpI_e (show zK (stI τ 125 0 0) 125 = 9 from hτ.k) rfl) ?_
    refine wpE (zpI_e (show zK (stI (stI τ 125 0 0) 125 13 (Int32.ofNat (sTl S))) 125 = 9 from hτ.k) rfl) ?_
    refine wpE (zpI_e (show zK (stI (stI (stI τ 125 0 0) 125 13 (Int32.ofNat (sTl S))) 125 12 0) 125 = 9 from hτ.k) rfl) ?_
    refine wpE (zpI_e (show zK (stI (stI (stI (stI τ 125 0 0) 125 13 (Int32.ofNat (sTl S))) 125 12 0) 125 14 0) 125 = 9 from hτ.k) rfl) ?_
    refine wpE (zpI_e (show zK (stI (stI (stI (stI (stI τ 125 0 0) 125 13 (Int32.ofNat (sTl S))) 125 12 0) 125 14 0) 125 15 (-1)) 125 = 9 from hτ.k) rfl) ?_
    have hF : Fr (fun o => o = 125) τ (stI (stI (stI (stI (stI (stI τ 125 0 0) 125 13 (Int32.ofNat (sTl S))) 125 12 0) 125 14 0) 125 15 (-1)) 125 17 0) := by
      refine (((((Fr.st (P := fun o => o = 125) ?_).trans (Fr.st ?_)).trans (Fr.st ?_)).trans (Fr.st ?_)).trans (Fr.st ?_)).trans (Fr.st ?_) <;> rfl
    have e : ∀ k, zI (stI (stI (stI (stI (stI (stI τ 125 0 0) 125 13 (Int32.ofNat (sTl S))) 125 12 0) 125 14 0) 125 15 (-1)) 125 17 0) 125 k = if k = 17 then 0 else if k = 15 then -1 else if k = 14 then 0 else if k = 12 then 0 else if k = 13 then Int32.ofNat (sTl S) else if k = 0 then 0 else zI τ 125 k := fun k => by
      simp only [zI_st, true_and]
    generalize stI (stI (stI (stI (stI (stI τ 125 0 0) 125 13 (Int32.ofNat (sTl S))) 125 12 0) 125 14 0) 125 15 (-1)) 125 17 0 = τ6 at hF e ⊢
    have hRT : RT τ6 (sTx S) (sTl S) := ⟨hτ.1.fr hF, (e 13).trans rfl, fun j hj => by rw [hF.2 129 (by decide)]; exact hτ.tx j (by rw [hT]; exact hj), hTX⟩
    refine r_find (n := n) (by omega) 21 n 0 0 τ6 hRT ((e 14).trans rfl) ((e 15).trans rfl) ((e 17).trans rfl) (by omega) (by omega) (by omega) (by omega) (fun τ1 q => ?_)
    obtain ⟨q1, q2, q3, q4⟩ := q
    have f1 : ∀ k, k ≠ 14 → k ≠ 15 → k ≠ 17 → zI τ1 125 k = zI τ6 125 k := q1.2
    have FF : Fr (fun o => o = 125 ∨ o = 129 ∨ o = 130) τ τ1 := (hF.mono (fun o q => Or.inl q)).trans (q1.1.mono (fun o q => by omega))
    refine hQ τ1 (fun m hm => hτ.ty FF ?_ ?_ ?_ q2 ?_ (fun j hj => absurd hj (Nat.not_lt_zero j)) hm) (FF.mono (fun o q => by unfold PR; omega)) ?_ (fun z => ⟨by rw [(q4 z).1, Nat.zero_add], (q4 z).2⟩)
    · rw [f1 3 (by decide) (by decide) (by decide), e]; rfl
    · rw [f1 5 (by decide) (by decide) (by decide), e]; rfl
    · rw [f1 6 (by decide) (by decide) (by decide), e]; rfl
    · rw [f1 12 (by decide) (by decide) (by decide), e]; rfl
    · rw [f1 0 (by decide) (by decide) (by decide), e]; rfl
  have JCf : ∀ σ1 f, JC σ1 S c → ∀ m : Int32 → (Nat → Int32) → Prop, JC (stI σ1 4 6 f) (uY S f (sTl S) 0 (sTx S) m) c := fun σ1 f j m =>
    j.ty (Fr.st (Or.inl rfl)) (by rw [zI_st, if_neg (by omega)]) (by rw [zI_st, if_pos ⟨rfl, rfl⟩]) (by rw [zI_st_ne (by decide)]; exact j.tl) (fun i hi => by rw [zI_st_ne (by decide)]; exact j.tx i hi)
  obtain ⟨r, er, u, J1, F1, u4⟩ := cfind
  have F2 : Fr (fun o => o = 4 ∨ o = 122 ∨ o = 124) σ (stI r.2 4 6 (pl (sTx S) (sTl S) 21 0).1) := (F1.mono (fun o q => Or.inr q)).trans (Fr.st (Or.inl rfl))
  have FT2 : FT σ (stI r.2 4 6 (pl (sTx S) (sTl S) 21 0).1) := F2.ft (fun o q => by omega)
  have chead : ∀ Q : (Int32 ⊕ Nat) × zW → Prop, wp (if (pl (sTx S) (sTl S) 21 0).1 = -1 then sX7_read_39 n n 4 0 (stI r.2 4 6 (pl (sTx S) (sTl S) 21 0).1) else zgR (stI r.2 4 6 (pl (sTx S) (sTl S) 21 0).1) 8 4 3 fun x15 => zck (stI r.2 4 6 (pl (sTx S) (sTl S) 21 0).1) 7 x15 (zb (fX6_empty n x15 (stI r.2 4 6 (pl (sTx S) (sTl S) 21 0).1)) fun σ16 => zth σ16 fun σ17 => some (.inr 2, σ17))) Q → wp (fX7_read n 4 σ) Q := fun Q hQ => by
    unfold fX7_read
    refine wpE (zgR_e hJ.x hJ.xt) ?_
    refine wpE (zck_e hJ.kt) ?_
    refine wpE (zb2_e (v := r.1) (s := r.2) er) ?_
    rw [u]
    refine wpE (zpI_e J1.x rfl) ?_
    exact wpE (zgI_e (show zK (stI r.2 4 6 (pl (sTx S) (sTl S) 21 0).1) 4 = 8 from J1.x) (by rw [zI_st, if_pos ⟨rfl, rfl⟩])) hQ
  by_cases hf : (pl (sTx S) (sTl S) 21 0).1 = -1
  · -- no fault: the commands are carried out
    obtain ⟨hrs, hK1⟩ := pl_rs 21 0 (Nat.zero_le _) hl hf (by omega)
    have hb : (pl (sTx S) (sTl S) 21 0).2 ≤ 21 := by
      have key : ∀ (m p : Nat), (pl (sTx S) (sTl S) m p).2 ≤ m := fun m => by
        induction m with
        | zero => intro p; exact Nat.le_refl 0
        | succ m ih =>
          intro p
          unfold pl
          by_cases h1 : (pc (sTx S) (sTl S) p).1 = false
          · rw [if_pos h1]; exact Nat.zero_le _
          · rw [if_neg h1]
            by_cases h2 : (pc (sTx S) (sTl S) p).2.1 = sTl S
            · rw [if_pos h2]; show 1 ≤ m + 1; omega
            · rw [if_neg h2]
              by_cases h3 : sTx S (pc (sTx S) (sTl S) p).2.1 = 59
              · rw [if_pos h3]
                have := ih ((pc (sTx S) (sTl S) p).2.1 + 1)
                show _ + 1 ≤ m + 1
                omega
              · rw [if_neg h3]; exact Nat.zero_le _
      exact key 21 0
    have hS1 : SI (uY S (pl (sTx S) (sTl S) 21 0).1 (sTl S) 0 (sTx S) (fun a Z => a = Int32.ofNat (0 + (pl (sTx S) (sTl S) 21 0).2) ∧ rows (sTx S) (sTl S) Z (pl (sTx S) (sTl S) 21 0).2 0 0)) (100 * c) := hS
    obtain ⟨v, S2, hS2, hE2, hC2, hR2⟩ := runT (n := n) (c := c) hn (by omega) (pl (sTx S) (sTl S) 21 0).2 0 0 (uY S (pl (sTx S) (sTl S) 21 0).1 (sTl S) 0 (sTx S) (fun a Z => a = Int32.ofNat (0 + (pl (sTx S) (sTl S) 21 0).2) ∧ rows (sTx S) (sTl S) Z (pl (sTx S) (sTl S) 21 0).2 0 0)) (100 * c) (sTx S) (sTl S) hS1 (by omega) hrs (fun _ => Nat.zero_le _) rfl rfl (by omega) (by omega) (fun a Z q => q)
    have hC3 := hC2 n (stI r.2 4 6 (pl (sTx S) (sTl S) 21 0).1) (by omega) (JCf r.2 _ J1 _) (fun _ => Or.inl ⟨rfl, rfl⟩) (by rw [zI_st_ne (by decide), u4 hf, Nat.zero_add])
    have cl := chead _ (wpE (if_pos hf) hC3)
    obtain ⟨r3, er3, σ3, rfl, J3, F3⟩ := cl
    have FT3 := FT2.trans F3
    have er2 : sTr S2 = 0 := by
      show S2.2.2.2.2.1.1.2 = 0
      rw [hE2]
      rfl
    refine ⟨0, stI σ3 131 0 v, uY S2 (sFl S2) 0 0 (sTx S2) (fun _ _ => True), ?_, ?_, fun L xs h => (h.ft FT3).out, fun h => (h.ft FT3).out, ⟨?_, fun _ => rfl⟩, fun τ hτ => ?_⟩
    · obtain ⟨f1, f2, f3, f4⟩ := FT3 131 (by omega)
      unfold fL_read
      refine (zck_e hJ.x).trans ((zbx_l er3).trans ?_)
      exact zsL_e (L := 1) (f1.trans hW.1) (f3.trans hW.2) (by decide)
    · exact (J3.fr (Fr.st (P := fun o => o = 131) rfl) (fun o ho => by have : o = 131 := ho; omega)).mono (by omega)
    · have h2 := hS2.mono (show 100 * c + (pl (sTx S) (sTl S) 21 0).2 ≤ 100 * (c + 1) by omega)
      exact ⟨h2.1, h2.2.1, h2.2.2.1, Nat.zero_le _, fun j hj => absurd hj (Nat.not_lt_zero j)⟩
    · have g : wp (fX8_read n 125 τ) (fun q => q.1 = v ∧ zI q.2 125 0 = 0 ∧ JR q.2 (uY S2 (sFl S2) 0 0 (sTx S2) (fun _ _ => True)) ∧ Fr PR τ q.2) := by
        refine rhead τ hτ _ (fun τ1 hj hfr h0 hrow => ?_)
        have t1 := hj (fun a Z => a = Int32.ofNat (0 + (pl (sTx S) (sTl S) 21 0).2) ∧ rows (sTx S) (sTl S) Z (pl (sTx S) (sTl S) 21 0).2 0 0) (by rw [Nat.zero_add]; exact hrow hf)
        unfold sX8_read_68
        refine wpE (zgI_e t1.k (t1.fl.trans hf)) ?_
        refine wpE (if_pos rfl) ?_
        refine wp_mono (hR2 n τ1 (by omega) t1 h0) (fun q z => ⟨z.1, z.2.1, ?_, hfr.trans z.2.2.2⟩)
        have zj := z.2.2.1
        exact zj.ty Fr.refl rfl rfl rfl zj.fl (zj.tr.trans (by rw [er2])) (fun j hj => absurd hj (Nat.not_lt_zero j)) trivial
      obtain ⟨q, g1, g2, g3, g4, g5⟩ := g
      exact ⟨q.1, q.2, g1, g3, fun _ => by rw [zI_st, if_pos ⟨rfl, rfl⟩]; exact g2, g4, g5⟩
  · -- a fault: nothing is carried out
    have J2 := JCf r.2 (pl (sTx S) (sTl S) 21 0).1 J1 (fun _ _ => True)
    have rm := J2.room (by omega)
    have e2 : fX6_empty n 122 (stI r.2 4 6 (pl (sTx S) (sTl S) 21 0).1) = some (stI (stI r.2 4 6 (pl (sTx S) (sTl S) 21 0).1) 122 2 (Int32.ofNat 0)) := by
      unfold fX6_empty
      exact zpI_e J2.kt rfl
    have F3 : Fr (fun o => o = 4 ∨ o = 122 ∨ o = 123 ∨ o = 124) (stI r.2 4 6 (pl (sTx S) (sTl S) 21 0).1) (stI (stI r.2 4 6 (pl (sTx S) (sTl S) 21 0).1) 122 2 (Int32.ofNat 0)) := Fr.st (by decide)
    have e4 : zI (stI (stI r.2 4 6 (pl (sTx S) (sTl S) 21 0).1) 122 2 (Int32.ofNat 0)) 4 = zI (stI r.2 4 6 (pl (sTx S) (sTl S) 21 0).1) 4 := zI_st_ne (by decide)
    have J3 : JC (stI (stI r.2 4 6 (pl (sTx S) (sTl S) 21 0).1) 122 2 (Int32.ofNat 0)) (uY S (pl (sTx S) (sTl S) 21 0).1 0 0 (sTx S) (fun _ _ => True)) c :=
      J2.ty F3 (congrFun e4 5) ((congrFun e4 6).trans J2.fl) (by rw [zI_st, if_pos ⟨rfl, rfl⟩]) (fun j hj => absurd hj (Nat.not_lt_zero j))
    have FT3 : FT σ (nwX (stI (stI r.2 4 6 (pl (sTx S) (sTl S) 21 0).1) 122 2 (Int32.ofNat 0))) := (FT2.trans (F3.ft (fun o q => by omega))).trans FC.thr.ft
    have rm3 := J3.room (by omega)
    have cl : wp (fX7_read n 4 σ) (fun r => r = (.inr 2, nwX (stI (stI r.2 4 6 (pl (sTx S) (sTl S) 21 0).1) 122 2 (Int32.ofNat 0))) ∨ True) := by
      exact chead _ (wpE (if_neg hf) (by
        refine wpE (zgR_e J2.x J2.xt) ?_
        refine wpE (zck_e J2.kt) ?_
        refine wpE (zb_e e2) ?_
        refine wpE (zth_e rm3.1 rm3.2) ?_
        exact wp_some (Or.inr trivial)))
    have cl2 : wp (fX7_read n 4 σ) (fun q => q = (.inr 2, nwX (stI (stI r.2 4 6 (pl (sTx S) (sTl S) 21 0).1) 122 2 (Int32.ofNat 0)))) :=
      chead _ (wpE (if_neg hf) (by
        refine wpE (zgR_e J2.x J2.xt) ?_
        refine wpE (zck_e J2.kt) ?_
        refine wpE (zb_e e2) ?_
        refine wpE (zth_e rm3.1 rm3.2) ?_
        exact wp_some rfl))
    have er3 := wp_eq cl2
    refine ⟨1, nwX (stI (stI r.2 4 6 (pl (sTx S) (sTl S) 21 0).1) 122 2 (Int32.ofNat 0)), uY S (pl (sTx S) (sTl S) 21 0).1 0 0 (sTx S) (fun _ _ => True), ?_, J3.thr, fun L xs h => h.ft FT3, fun h => h.ft FT3, ⟨⟨hS.1.mono (by omega), fun k hk => (hS.2.1 k hk).mono (by omega), fun q => (hS.2.2.1 q).mono (by omega), Nat.zero_le _, fun j hj => absurd hj (Nat.not_lt_zero j)⟩, fun _ => rfl⟩, fun τ hτ => ?_⟩
    · unfold fL_read
      exact (zck_e hJ.x).trans ((zbx_r er3).trans rfl)
    · have g : wp (fX8_read n 125 τ) (fun q => zI q.2 125 0 = 1 ∧ JR q.2 (uY S (pl (sTx S) (sTl S) 21 0).1 0 0 (sTx S) (fun _ _ => True)) ∧ Fr PR τ q.2) := by
        refine rhead τ hτ _ (fun τ1 hj hfr h0 hrow => ?_)
        have t1 := hj (fun _ _ => True) trivial
        unfold sX8_read_68
        refine wpE (zgI_e t1.k t1.fl) ?_
        refine wpE (if_neg hf) ?_
        refine wpE (zck_e t1.k) ?_
        refine wpE (zb2_e (jn_fail t1)) ?_
        have t2 := (Tr.one (k := 1) t1)
        have tj := t2.2.2
        exact wp_some ⟨t2.1, tj.ty Fr.refl rfl rfl rfl tj.fl tj.tr (fun j hj => absurd hj (Nat.not_lt_zero j)) trivial, hfr.trans t2.2.1⟩
      obtain ⟨q, g1, g2, g3, g4⟩ := g
      exact ⟨q.1, q.2, g1, g2, fun z => absurd z (by decide), g3, g4⟩
end
