/-! WHAT BOTH SIDES HOLD: the row, the kept rows, the saved row, the reason, the fault, the text -/
abbrev St : Type := (Nat → Int32) × (Nat × (Nat → Nat → Int32)) × (Bool × (Nat → Int32)) × (Int32 × Int32) × (((Nat × Nat) × (Nat → Int32)) × (Int32 → (Nat → Int32) → Prop))
abbrev sA (S : St) : Nat → Int32 := S.1
abbrev sPc (S : St) : Nat := S.2.1.1
abbrev sP (S : St) : Nat → Nat → Int32 := S.2.1.2
abbrev sB (S : St) : Bool := S.2.2.1.1
abbrev sV (S : St) : Nat → Int32 := S.2.2.1.2
abbrev sRs (S : St) : Int32 := S.2.2.2.1.1
abbrev sFl (S : St) : Int32 := S.2.2.2.1.2
abbrev sTl (S : St) : Nat := S.2.2.2.2.1.1.1
abbrev sTr (S : St) : Nat := S.2.2.2.2.1.1.2
abbrev sTx (S : St) : Nat → Int32 := S.2.2.2.2.1.2
abbrev sQ (S : St) : Int32 → (Nat → Int32) → Prop := S.2.2.2.2.2
def uA (S : St) (a : Nat → Int32) : St := (a, S.2)
def uH (S : St) (c : Nat) (P : Nat → Nat → Int32) : St := (S.1, (c, P), S.2.2)
def uV (S : St) (V : Nat → Int32) : St := (S.1, S.2.1, (true, V), S.2.2.2)
def uR (S : St) (r : Int32) : St := (S.1, S.2.1, S.2.2.1, (r, sFl S), S.2.2.2.2)
def uF (S : St) (r : Int32) : St := (S.1, S.2.1, S.2.2.1, (sRs S, r), S.2.2.2.2)
/-- the sale as it is, is kept -/
def keepS (S : St) : St := uH S (min (sPc S + 1) 10) (fun k => if k = min (sPc S) 9 then sA S else if sPc S = 10 then sP S (k + 1) else sP S k)
/-! the class's side -/
def LX (σ : zW) : Prop := (zK σ 4 = 8 ∧ zR σ 4 0 = 5 ∧ zR σ 4 1 = 117 ∧ zR σ 4 2 = 120 ∧ zR σ 4 3 = 122) ∧ Vw σ 117 ∧ (zK σ 120 = 1 ∧ zR σ 120 0 = 121 ∧ zK σ 121 = 26 ∧ zL σ 121 = 10) ∧ (zK σ 122 = 7 ∧ zR σ 122 0 = 123 ∧ zR σ 122 1 = 124 ∧ zK σ 123 = 22 ∧ zL σ 123 = 60 ∧ zK σ 124 = 20 ∧ zL σ 124 = 3) ∧ Stt σ
/-- the kept Sales; the snapshot is the eleventh -/
def kpo (σ : zW) (i : Nat) : Nat := if i < 10 then zR σ 121 i else zR σ 4 4
def KP (σ : zW) : Prop := (∀ i, i < 11 → kpo σ i ≠ 0 → 133 ≤ kpo σ i ∧ kpo σ i + 112 ≤ zN σ + 4 ∧ Sh σ (kpo σ i)) ∧ ∀ i j, i < 11 → j < 11 → i ≠ j → kpo σ i ≠ 0 → kpo σ j ≠ 0 → kpo σ i + 112 ≤ kpo σ j ∨ kpo σ j + 112 ≤ kpo σ i
def nlz (f : Nat → Nat) : Nat → Nat
  | 0 => 0
  | k + 1 => (if f k = 0 then 1 else 0) + nlz f k
def BG (σ : zW) (c : Nat) : Prop := 129 ≤ zN σ ∧ zN σ + 112 * nlz (kpo σ) 11 ≤ 1361 + c ∧ zS σ + 2103 * nlz (kpo σ) 11 ≤ 49455 + 6 * c
def HS (σ : zW) (S : St) : Prop := zI σ 120 2 = Int32.ofNat (sPc S) ∧ sPc S ≤ 10 ∧ ∃ nx, nx < 10 ∧ zI σ 120 1 = Int32.ofNat nx ∧ ∀ k, k < sPc S → kpo σ ((nx + 10 - sPc S + k) % 10) ≠ 0 ∧ Rep σ (kpo σ ((nx + 10 - sPc S + k) % 10)) (sP S k)
def JM (σ : zW) (S : St) (c : Nat) : Prop := LX σ ∧ Rep σ 5 (sA S) ∧ KP σ ∧ HS σ S ∧ (sB S = true → kpo σ 10 ≠ 0 ∧ Rep σ (kpo σ 10) (sV S)) ∧ (zI σ 4 5 = sRs S ∧ zI σ 4 6 = sFl S) ∧ (zI σ 122 2 = Int32.ofNat (sTl S) ∧ ∀ j, j < sTl S → zI σ 123 j = sTx S j) ∧ BG σ c
def JC (σ : zW) (S : St) (c : Nat) : Prop := JM σ S c ∧ (sB S = false → zR σ 4 4 = 0)
/-! the reference's side -/
def LM (σ : zW) : Prop := Rf σ 125 126 ∧ (zR σ 125 2 = 127 ∧ zK σ 127 = 20 ∧ zL σ 127 = 19920) ∧ (zR σ 125 4 = 128 ∧ zK σ 128 = 20 ∧ zL σ 128 = 1992) ∧ (zR σ 125 11 = 129 ∧ zK σ 129 = 22 ∧ zL σ 129 = 60) ∧ (zR σ 125 16 = 130 ∧ zK σ 130 = 20 ∧ zL σ 130 = 120)
def JR (σ : zW) (S : St) : Prop := LM σ ∧ zI σ 126 = sA S ∧ (zI σ 125 3 = Int32.ofNat (sPc S) ∧ sPc S ≤ 10 ∧ ∀ k, k < sPc S → ∀ j, j < 1992 → zI σ 127 (1992 * k + j) = sP S k j) ∧ (zI σ 125 5 = (if sB S = true then 1 else 0) ∧ (sB S = true → ∀ j, j < 1992 → zI σ 128 j = sV S j)) ∧ (zI σ 125 6 = sRs S ∧ zI σ 125 15 = sFl S) ∧ (zI σ 125 12 = Int32.ofNat (sTr S) ∧ (∀ j, j < sTr S → zI σ 129 j = sTx S j) ∧ sQ S (zI σ 125 17) (zI σ 130))
/-- the reference's objects; the class's frame: what is not the class's stays -/
def PR : Nat → Prop := fun o => 125 ≤ o ∧ o < 131
def FC (σ σ' : zW) : Prop := ∀ o, (o < 4 ∨ (122 ≤ o ∧ o < 133)) → zK σ' o = zK σ o ∧ zR σ' o = zR σ o ∧ zL σ' o = zL σ o ∧ zI σ' o = zI σ o
theorem FC.refl {σ : zW} : FC σ σ := fun _ _ => ⟨rfl, rfl, rfl, rfl⟩
theorem FC.trans {σ σ1 σ2 : zW} (h : FC σ σ1) (h2 : FC σ1 σ2) : FC σ σ2 := fun o ho => by
  obtain ⟨a1, a2, a3, a4⟩ := h o ho
  obtain ⟨b1, b2, b3, b4⟩ := h2 o ho
  exact ⟨b1.trans a1, b2.trans a2, b3.trans a3, b4.trans a4⟩
/-- the class's own objects -/
def PC : Nat → Prop := fun o => (4 ≤ o ∧ o < 122) ∨ 133 ≤ o
theorem Fr.fc {P : Nat → Prop} {σ σ' : zW} (h : Fr P σ σ') (hP : ∀ o, P o → PC o) : FC σ σ' := fun o ho => by
  rw [h.K, h.R, h.L, h.2 o (fun q => by rcases hP o q with g | g <;> omega)]
  exact ⟨rfl, rfl, rfl, rfl⟩
theorem Gr.fc {P : Nat → Prop} {σ σ' : zW} {k n : Nat} (h : Gr σ σ' k n P) (hN : 129 ≤ zN σ) (hP : ∀ o, P o → PC o) : FC σ σ' := fun o ho => by
  have hq : ¬ P o := fun q => by rcases hP o q with g | g <;> omega
  exact ⟨h.K (by omega), h.R (by omega) hq, h.L (by omega), h.I (by omega) hq⟩
theorem JR.fc {σ σ' : zW} {S : St} (h : JR σ S) (hf : FC σ σ') : JR σ' S := by
  have e : ∀ o, 125 ≤ o → o < 131 → zK σ' o = zK σ o ∧ zR σ' o = zR σ o ∧ zL σ' o = zL σ o ∧ zI σ' o = zI σ o := fun o h1 h2 => hf o (Or.inr ⟨by omega, by omega⟩)
  obtain ⟨a1, a2, a3, a4⟩ := e 125 (by decide) (by decide)
  obtain ⟨b1, b2, b3, b4⟩ := e 126 (by decide) (by decide)
  obtain ⟨c1, c2, c3, c4⟩ := e 127 (by decide) (by decide)
  obtain ⟨d1, d2, d3, d4⟩ := e 128 (by decide) (by decide)
  obtain ⟨e1, e2, e3, e4⟩ := e 129 (by decide) (by decide)
  obtain ⟨f1, f2, f3, f4⟩ := e 130 (by decide) (by decide)
  unfold JR LM Rf at h ⊢
  rw [a1, a2, a4, b1, b3, b4, c1, c3, c4, d1, d3, d4, e1, e3, e4, f1, f3, f4]
  exact h
theorem KP.fr {P : Nat → Prop} {σ σ' : zW} (h : KP σ) (hf : Fr P σ σ') : KP σ' := by
  have e : kpo σ' = kpo σ := by
    funext i
    unfold kpo
    rw [hf.R]
  unfold KP
  rw [e, hf.N]
  exact ⟨fun i hi h0 => ⟨(h.1 i hi h0).1, (h.1 i hi h0).2.1, (h.1 i hi h0).2.2.fr hf⟩, h.2⟩
theorem kpo_fr {P : Nat → Prop} {σ σ' : zW} (hf : Fr P σ σ') : kpo σ' = kpo σ := by
  funext i
  unfold kpo
  rw [hf.R]
theorem LX.fr {P : Nat → Prop} {σ σ' : zW} (h : LX σ) (hf : Fr P σ σ') (h1 : ¬ P 1) (h2 : ¬ P 2) : LX σ' := by
  obtain ⟨a, b, c, d, e⟩ := h
  refine ⟨?_, b.fr hf, ?_, ?_, ?_⟩
  · rw [hf.K, hf.R]; exact a
  · rw [hf.K, hf.R, hf.L]; exact c
  · rw [hf.K, hf.R, hf.L]; exact d
  · unfold Stt
    rw [hf.K, hf.L, hf.2 1 h1, hf.2 2 h2]
    exact e
/-- a change of numbers elsewhere than in what is told -/
theorem JM.fr {P : Nat → Prop} {σ σ' : zW} {S : St} {c : Nat} (h : JM σ S c) (hf : Fr P σ σ') (hP : ∀ o, P o → (117 ≤ o ∧ o < 120) ∨ o = 124 ∨ (125 ≤ o ∧ o < 133)) : JM σ' S c := by
  have hn : ∀ o, ¬ ((117 ≤ o ∧ o < 120) ∨ o = 124 ∨ (125 ≤ o ∧ o < 133)) → zI σ' o = zI σ o := fun o ho => hf.2 o (fun q => ho (hP o q))
  have hR : ∀ p, 133 ≤ p → ∀ a, Rep σ p a → Rep σ' p a := fun p hp a h => h.fr hf (fun o h1 h2 q => by have := hP o q; omega)
  obtain ⟨a1, a2, a3, ⟨a4, a5, nx, a6, a7, a8⟩, a9, ⟨b1, b2⟩, ⟨b3, b4⟩, b5⟩ := h
  have e := kpo_fr hf
  refine ⟨a1.fr hf (fun q => by have := hP 1 q; omega) (fun q => by have := hP 2 q; omega), a2.fr hf (fun o h1 h2 q => by have := hP o q; omega), a3.fr hf, ⟨?_, a5, nx, a6, ?_, fun k hk => ?_⟩, fun hb => ?_, ⟨?_, ?_⟩, ⟨?_, fun j hj => ?_⟩, ?_⟩
  · rw [hn 120 (by omega)]; exact a4
  · rw [hn 120 (by omega)]; exact a7
  · rw [e]
    obtain ⟨g1, g2⟩ := a8 k hk
    exact ⟨g1, hR _ (a3.1 _ (by omega) g1).1 _ g2⟩
  · rw [e]
    obtain ⟨g1, g2⟩ := a9 hb
    exact ⟨g1, hR _ (a3.1 _ (by omega) g1).1 _ g2⟩
  · rw [hn 4 (by omega)]; exact b1
  · rw [hn 4 (by omega)]; exact b2
  · rw [hn 122 (by omega)]; exact b3
  · rw [hn 123 (by omega)]; exact b4 j hj
  · unfold BG
    rw [e, hf.N, hf.S]
    exact b5
theorem JC.fr {P : Nat → Prop} {σ σ' : zW} {S : St} {c : Nat} (h : JC σ S c) (hf : Fr P σ σ') (hP : ∀ o, P o → (117 ≤ o ∧ o < 120) ∨ o = 124 ∨ (125 ≤ o ∧ o < 133)) : JC σ' S c := ⟨h.1.fr hf hP, fun q => by rw [hf.R]; exact h.2 q⟩
/-- a change of the row -/
theorem JC.wr {σ σ' : zW} {S : St} {c : Nat} {a : Nat → Int32} (h : JC σ S c) (hW : Wr σ 5 a σ') : JC σ' (uA S a) c := by
  obtain ⟨hf, hr⟩ := hW
  have hn : ∀ o, ¬ (5 ≤ o ∧ o < 117) → zI σ' o = zI σ o := fun o ho => hf.2 o (fun q => ho ⟨q.1, q.2⟩)
  have hR : ∀ p, 133 ≤ p → ∀ a, Rep σ p a → Rep σ' p a := fun p hp a h => h.fr hf (fun o h1 h2 q => by have := q.1; have := q.2; omega)
  obtain ⟨⟨a1, a2, a3, ⟨a4, a5, nx, a6, a7, a8⟩, a9, ⟨b1, b2⟩, ⟨b3, b4⟩, b5⟩, b6⟩ := h
  have e := kpo_fr hf
  refine ⟨⟨a1.fr hf (fun q => by have := q.1; omega) (fun q => by have := q.1; omega), hr, a3.fr hf, ⟨?_, a5, nx, a6, ?_, fun k hk => ?_⟩, fun hb => ?_, ⟨?_, ?_⟩, ⟨?_, fun j hj => ?_⟩, ?_⟩, fun q => ?_⟩
  · rw [hn 120 (by omega)]; exact a4
  · rw [hn 120 (by omega)]; exact a7
  · rw [e]
    obtain ⟨g1, g2⟩ := a8 k hk
    exact ⟨g1, hR _ (a3.1 _ (by omega) g1).1 _ g2⟩
  · rw [e]
    obtain ⟨g1, g2⟩ := a9 hb
    exact ⟨g1, hR _ (a3.1 _ (by omega) g1).1 _ g2⟩
  · rw [hn 4 (by omega)]; exact b1
  · rw [hn 4 (by omega)]; exact b2
  · rw [hn 122 (by omega)]; exact b3
  · rw [hn 123 (by omega)]; exact b4 j hj
  · unfold BG
    rw [e, hf.N, hf.S]
    exact b5
  · rw [hf.R]; exact b6 q
theorem FC.wr {σ σ' : zW} {a : Nat → Int32} (hW : Wr σ 5 a σ') : FC σ σ' := hW.1.fc (fun o q => Or.inl ⟨by have := q.1; omega, by have := q.2; omega⟩)
/-- an exception is made -/
theorem zth_e {α : Type} {σ : zW} {c : zW → Option α} (h1 : zN σ + 1 ≤ 603072) (h2 : zS σ + 6 ≤ 7219305) : zth σ c = c (nwX σ) := by
  unfold zth
  rw [if_pos ⟨h1, h2⟩]
theorem JC.thr {σ : zW} {S : St} {c : Nat} (h : JC σ S c) : JC (nwX σ) S (c + 1) := by
  obtain ⟨⟨a1, a2, a3, a4, a5, a6, a7, b1, b2, b3⟩, a9⟩ := h
  have e : kpo (nwX σ) = kpo σ := rfl
  refine ⟨⟨a1, a2, ⟨fun i hi h0 => ?_, a3.2⟩, a4, a5, a6, a7, ?_⟩, a9⟩
  · obtain ⟨g1, g2, g3⟩ := a3.1 i hi h0
    exact ⟨g1, by show kpo σ i + 112 ≤ zN σ + 1 + 4; omega, g3⟩
  · unfold BG
    rw [e]
    show 129 ≤ zN σ + 1 ∧ zN σ + 1 + 112 * nlz (kpo σ) 11 ≤ 1361 + (c + 1) ∧ zS σ + 6 + 2103 * nlz (kpo σ) 11 ≤ 49455 + 6 * (c + 1)
    omega
theorem FC.thr {σ : zW} : FC σ (nwX σ) := fun _ _ => ⟨rfl, rfl, rfl, rfl⟩
theorem JC.room {σ : zW} {S : St} {c : Nat} (h : JC σ S c) (hc : c ≤ 100000) : zN σ + 1 ≤ 603072 ∧ zS σ + 6 ≤ 7219305 := by
  obtain ⟨⟨-, -, -, -, -, -, -, b1, b2, b3⟩, -⟩ := h
  omega
theorem JC.mono {σ : zW} {S : St} {c d : Nat} (h : JC σ S c) (hd : c ≤ d) : JC σ S d := by
  obtain ⟨⟨a1, a2, a3, a4, a5, a6, a7, b1, b2, b3⟩, a9⟩ := h
  exact ⟨⟨a1, a2, a3, a4, a5, a6, a7, b1, by omega, by omega⟩, a9⟩
/-- the reference's own numbers that are none of the state's -/
theorem JR.i {σ : zW} {S : St} {k : Nat} {v : Int32} (h : JR σ S) (hk : k = 0 ∨ (7 ≤ k ∧ k ≤ 10) ∨ k = 13 ∨ k = 14) : JR (stI σ 125 k v) S := by
  have e : ∀ j, j ≠ k → zI (stI σ 125 k v) 125 j = zI σ 125 j := fun j hj => by rw [zI_st, if_neg (fun q => hj q.2)]
  have e2 : ∀ o, o ≠ 125 → zI (stI σ 125 k v) o = zI σ o := fun o ho => zI_st_ne ho
  obtain ⟨a1, a2, a3, a4, a5, a6⟩ := h
  refine ⟨a1, ?_, ?_, ?_, ?_, ?_⟩
  · rw [e2 126 (by decide)]; exact a2
  · rw [e 3 (by omega), e2 127 (by decide)]; exact a3
  · rw [e 5 (by omega), e2 128 (by decide)]; exact a4
  · rw [e 6 (by omega), e 15 (by omega)]; exact a5
  · rw [e 12 (by omega), e 17 (by omega), e2 129 (by decide), e2 130 (by decide)]; exact a6
theorem JR.wr {σ σ' : zW} {S : St} {a : Nat → Int32} (h : JR σ S) (hW : Ww σ 126 a σ') : JR σ' (uA S a) := by
  obtain ⟨hf, hr⟩ := hW
  have hn : ∀ o, o ≠ 126 → zI σ' o = zI σ o := fun o ho => hf.2 o ho
  obtain ⟨a1, a2, a3, a4, a5, a6⟩ := h
  refine ⟨?_, hr, ?_, ?_, ?_, ?_⟩
  · unfold LM Rf
    rw [hf.K, hf.R, hf.L]
    exact a1
  · rw [hn 125 (by decide), hn 127 (by decide)]; exact a3
  · rw [hn 125 (by decide), hn 128 (by decide)]; exact a4
  · rw [hn 125 (by decide)]; exact a5
  · rw [hn 125 (by decide), hn 129 (by decide), hn 130 (by decide)]; exact a6
theorem Ww.fr {σ σ' : zW} {a : Nat → Int32} (hW : Ww σ 126 a σ') : Fr PR σ σ' := hW.1.mono (fun o q => by rw [q]; exact ⟨by decide, by decide⟩)
theorem PR.i {σ : zW} {k : Nat} {v : Int32} : Fr PR σ (stI σ 125 k v) := Fr.st ⟨by decide, by decide⟩
theorem JC.pr {σ σ' : zW} {S : St} {c : Nat} (h : JC σ S c) (hf : Fr PR σ σ') : JC σ' S c := h.fr hf (fun o q => Or.inr (Or.inr ⟨q.1, by have := q.2; omega⟩))
