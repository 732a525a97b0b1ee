section
variable {E : zE} {K : zC}

abbrev qX0_init : MethodName := { cls := "LotSales$History", name := "<init>", desc := "()V" }
def fX0_init (n : Nat) (a0 : Nat) (σ : zW) : Option (zW) := if a0 = 0 then none else znA σ 26 10 fun q1 σ2 => zpR σ2 1 a0 0 q1 fun σ3 => some σ3
theorem mX0_init (F : zFx E) (n : Nat) (a0 : Nat) (σ : zW) (o : zW) (hf : fX0_init n a0 σ = some o) : zM E qX0_init cX0_init 1 none 1 [.inr (.inl a0)] σ none o := by
  refine zM_of (fin := zfV) F (by decide +kernel) rfl (Nat.le_of_ble_eq_true rfl) (lv0 := [some (.inr (.inl a0))]) rfl hf rfl (fun K hk he => ?_)
  have hk : zk E K "LotSales$History" cX0_init 1 1 := hk
  unfold fX0_init
  refine z_run hk hX0_init_0 0 1 (pc' := 1) (lv' := [some (.inr (.inl a0))]) (st' := [.inr (.inl a0)]) rfl ?_
  refine z_oinit0 hk (z_row hX0_init_0 1 rfl) wd_224 wd_29 wd_30 (by decide) (Nat.le_of_ble_eq_true rfl) ?_
  refine z_run hk hX0_init_0 2 2 (pc' := 7) (lv' := [some (.inr (.inl a0))]) (st' := [.inl 10, .inr (.inl a0)]) rfl ?_
  refine z_newq hk (κ := 26) (tn := 5) (C := "LotSales$Sale") (by decide) (z_row hX0_init_0 4 rfl) wd_225 wd_226 rfl (fun q1 σ2 => ?_)
  refine z_pR hk 0 (z_row hX0_init_0 5 rfl) (ci := 0) rfl rfl wd_227 (fun _ => ⟨he.2.1, rfl⟩) (fun _ => ⟨rfl, rfl, rfl, rfl⟩) (fun σ3 => ?_)
  exact z_vret hk he (z_row hX0_init_0 6 rfl) rfl
theorem kX0_init_n {n : Nat} {own : String} {cc : ByteArray} {nL h index : Nat} {α : Type} {fin : α → zO} {σ : zW} {pc : Nat} {lv : zLV} {st : List zV} {a0 : Nat} {c : zW → Option α} (F : zFx E) (hk : zk E K own cc nL h) (hd : decode cc pc = .ok (.invokespecial index, 3)) (hl : Cond.methodLinkNest own index qX0_init "LotSales" ∈ lw_tbl) (hh : 1 + 1 ≤ h) (hs : zcat st ≤ 8) (k : ∀ s, zG E K fin (c s) s (pc + 3) lv st) : zG E K fin (if a0 = 0 then none else (zb (fX0_init n a0 σ) c)) σ pc lv (.inr (.inl a0) :: st) :=
  z_inV (n := 0) (y := qX0_init) (As := []) hk hd hl wd_222 wd_8 wd_223 rfl ⟨by decide, by decide, by decide +kernel⟩ ⟨hh, by decide⟩ rfl (fun o ho => mX0_init F n a0 σ o ho) hs k
abbrev qX5_init : MethodName := { cls := "LotSales$Table", name := "<init>", desc := "()V" }
def fX5_init (n : Nat) (a0 : Nat) (σ : zW) : Option (zW) := if a0 = 0 then none else znA σ 20 6 fun q1 σ2 => zpR σ2 6 a0 0 q1 fun σ3 => znA σ3 20 6 fun q4 σ5 => zpR σ5 6 a0 1 q4 fun σ6 => zlen σ6 1 fun x7 => zpI σ6 6 a0 2 x7 fun σ8 => zgR σ8 6 a0 0 fun x9 => zlen σ8 1 fun x10 => zcp σ8 1 0 x9 0 x10 fun σ11 => zgR σ11 6 a0 1 fun x12 => zlen σ11 2 fun x13 => zcp σ11 2 0 x12 0 x13 fun σ14 => some σ14
theorem mX5_init (F : zFx E) (n : Nat) (a0 : Nat) (σ : zW) (o : zW) (hf : fX5_init n a0 σ = some o) : zM E qX5_init cX5_init 1 none 2 [.inr (.inl a0)] σ none o := by
  refine zM_of (fin := zfV) F (by decide +kernel) rfl (Nat.le_of_ble_eq_true rfl) (lv0 := [some (.inr (.inl a0))]) rfl hf rfl (fun K hk he => ?_)
  have hk : zk E K "LotSales$Table" cX5_init 1 2 := hk
  unfold fX5_init
  refine z_run hk hX5_init_0 0 1 (pc' := 1) (lv' := [some (.inr (.inl a0))]) (st' := [.inr (.inl a0)]) rfl ?_
  refine z_oinit0 hk (z_row hX5_init_0 1 rfl) wd_42 wd_29 wd_30 (by decide) (Nat.le_of_ble_eq_true rfl) ?_
  refine z_run hk hX5_init_0 2 2 (pc' := 7) (lv' := [some (.inr (.inl a0))]) (st' := [.inl 6, .inr (.inl a0)]) rfl ?_
  refine z_newa hk (κ := 20) (tn := 0) (z_row hX5_init_0 4 rfl) wd_63 rfl rfl (by decide) (by decide) (zhent_i E) (fun q1 σ2 => ?_)
  refine z_pR hk 0 (z_row hX5_init_0 5 rfl) (ci := 5) rfl rfl wd_50 (fun _ => ⟨he.2.1, rfl⟩) (fun _ => ⟨rfl, rfl, rfl, rfl⟩) (fun σ3 => ?_)
  refine z_run hk hX5_init_0 6 2 (pc' := 15) (lv' := [some (.inr (.inl a0))]) (st' := [.inl 6, .inr (.inl a0)]) rfl ?_
  refine z_newa hk (κ := 20) (tn := 0) (z_row hX5_init_0 8 rfl) wd_63 rfl rfl (by decide) (by decide) (zhent_i E) (fun q4 σ5 => ?_)
  refine z_pR hk 1 (z_row hX5_init_0 9 rfl) (ci := 5) rfl rfl wd_52 (fun _ => ⟨he.2.1, rfl⟩) (fun _ => ⟨rfl, rfl, rfl, rfl⟩) (fun σ6 => ?_)
  refine z_run hk hX5_init_0 10 1 (pc' := 21) (lv' := [some (.inr (.inl a0))]) (st' := [.inr (.inl a0)]) rfl ?_
  refine z_gsB hk (z_row hX5_init_0 11 rfl) wd_43 ?_
  refine z_len hk (z_row hX5_init_0 12 rfl) (fun x7 => ?_)
  refine z_pI hk 2 (z_row hX5_init_0 13 rfl) (ci := 5) rfl rfl wd_54 rfl rfl rfl (fun σ8 => ?_)
  refine z_gsB hk (z_row hX5_init_0 14 rfl) wd_43 ?_
  refine z_run hk hX5_init_0 15 2 (pc' := 33) (lv' := [some (.inr (.inl a0))]) (st' := [.inr (.inl a0), .inl 0, .inr (.inl 1)]) rfl ?_
  refine z_gR hk 0 (z_row hX5_init_0 17 rfl) (ci := 5) rfl rfl wd_50 (fun x9 => ?_)
  refine z_run hk hX5_init_0 18 1 (pc' := 37) (lv' := [some (.inr (.inl a0))]) (st' := [.inl 0, .inr (.inl x9), .inl 0, .inr (.inl 1)]) rfl ?_
  refine z_gsB hk (z_row hX5_init_0 19 rfl) wd_43 ?_
  refine z_len hk (z_row hX5_init_0 20 rfl) (fun x10 => ?_)
  refine z_copy hk (z_row hX5_init_0 21 rfl) wd_45 wd_47 wd_46 wd_4 (by decide) (Nat.le_of_ble_eq_true rfl) (fun σ11 => ?_)
  refine z_gsI hk (z_row hX5_init_0 22 rfl) wd_48 ?_
  refine z_run hk hX5_init_0 23 2 (pc' := 49) (lv' := [some (.inr (.inl a0))]) (st' := [.inr (.inl a0), .inl 0, .inr (.inl 2)]) rfl ?_
  refine z_gR hk 1 (z_row hX5_init_0 25 rfl) (ci := 5) rfl rfl wd_52 (fun x12 => ?_)
  refine z_run hk hX5_init_0 26 1 (pc' := 53) (lv' := [some (.inr (.inl a0))]) (st' := [.inl 0, .inr (.inl x12), .inl 0, .inr (.inl 2)]) rfl ?_
  refine z_gsI hk (z_row hX5_init_0 27 rfl) wd_48 ?_
  refine z_len hk (z_row hX5_init_0 28 rfl) (fun x13 => ?_)
  refine z_copy hk (z_row hX5_init_0 29 rfl) wd_45 wd_47 wd_46 wd_4 (by decide) (Nat.le_of_ble_eq_true rfl) (fun σ14 => ?_)
  exact z_vret hk he (z_row hX5_init_0 30 rfl) rfl
theorem kX5_init {n : Nat} {own : String} {cc : ByteArray} {nL h index : Nat} {α : Type} {fin : α → zO} {σ : zW} {pc : Nat} {lv : zLV} {st : List zV} {a0 : Nat} {c : zW → Option α} (F : zFx E) (hk : zk E K own cc nL h) (hd : decode cc pc = .ok (.invokespecial index, 3)) (hl : Cond.methodLink own index qX5_init ∈ lw_tbl) (hh : 2 + 1 ≤ h) (hs : zcat st ≤ 8) (k : ∀ s, zG E K fin (c s) s (pc + 3) lv st) : zG E K fin (if a0 = 0 then none else (zb (fX5_init n a0 σ) c)) σ pc lv (.inr (.inl a0) :: st) :=
  z_iV (n := 0) (y := qX5_init) (As := []) hk hd hl wd_40 wd_3 wd_41 rfl ⟨by decide, by decide, by decide +kernel⟩ ⟨hh, by decide⟩ rfl (fun o ho => mX5_init F n a0 σ o ho) hs k
abbrev qX1_init : MethodName := { cls := "LotSales$Ledger", name := "<init>", desc := "()V" }
def fX1_init (n : Nat) (a0 : Nat) (σ : zW) : Option (zW) := if a0 = 0 then none else znA σ 20 250 fun q1 σ2 => zpR σ2 2 a0 0 q1 fun σ3 => znA σ3 20 250 fun q4 σ5 => zpR σ5 2 a0 1 q4 fun σ6 => znA σ6 20 250 fun q7 σ8 => zpR σ8 2 a0 2 q7 fun σ9 => znA σ9 20 250 fun q10 σ11 => zpR σ11 2 a0 3 q10 fun σ12 => some σ12
theorem mX1_init (F : zFx E) (n : Nat) (a0 : Nat) (σ : zW) (o : zW) (hf : fX1_init n a0 σ = some o) : zM E qX1_init cX1_init 1 none 1 [.inr (.inl a0)] σ none o := by
  refine zM_of (fin := zfV) F (by decide +kernel) rfl (Nat.le_of_ble_eq_true rfl) (lv0 := [some (.inr (.inl a0))]) rfl hf rfl (fun K hk he => ?_)
  have hk : zk E K "LotSales$Ledger" cX1_init 1 1 := hk
  unfold fX1_init
  refine z_run hk hX1_init_0 0 1 (pc' := 1) (lv' := [some (.inr (.inl a0))]) (st' := [.inr (.inl a0)]) rfl ?_
  refine z_oinit0 hk (z_row hX1_init_0 1 rfl) wd_71 wd_29 wd_30 (by decide) (Nat.le_of_ble_eq_true rfl) ?_
  refine z_run hk hX1_init_0 2 2 (pc' := 8) (lv' := [some (.inr (.inl a0))]) (st' := [.inl 250, .inr (.inl a0)]) rfl ?_
  refine z_newa hk (κ := 20) (tn := 0) (z_row hX1_init_0 4 rfl) wd_63 rfl rfl (by decide) (by decide) (zhent_i E) (fun q1 σ2 => ?_)
  refine z_pR hk 0 (z_row hX1_init_0 5 rfl) (ci := 1) rfl rfl wd_72 (fun _ => ⟨he.2.1, rfl⟩) (fun _ => ⟨rfl, rfl, rfl, rfl⟩) (fun σ3 => ?_)
  refine z_run hk hX1_init_0 6 2 (pc' := 17) (lv' := [some (.inr (.inl a0))]) (st' := [.inl 250, .inr (.inl a0)]) rfl ?_
  refine z_newa hk (κ := 20) (tn := 0) (z_row hX1_init_0 8 rfl) wd_63 rfl rfl (by decide) (by decide) (zhent_i E) (fun q4 σ5 => ?_)
  refine z_pR hk 1 (z_row hX1_init_0 9 rfl) (ci := 1) rfl rfl wd_75 (fun _ => ⟨he.2.1, rfl⟩) (fun _ => ⟨rfl, rfl, rfl, rfl⟩) (fun σ6 => ?_)
  refine z_run hk hX1_init_0 10 2 (pc' := 26) (lv' := [some (.inr (.inl a0))]) (st' := [.inl 250, .inr (.inl a0)]) rfl ?_
  refine z_newa hk (κ := 20) (tn := 0) (z_row hX1_init_0 12 rfl) wd_63 rfl rfl (by decide) (by decide) (zhent_i E) (fun q7 σ8 => ?_)
  refine z_pR hk 2 (z_row hX1_init_0 13 rfl) (ci := 1) rfl rfl wd_78 (fun _ => ⟨he.2.1, rfl⟩) (fun _ => ⟨rfl, rfl, rfl, rfl⟩) (fun σ9 => ?_)
  refine z_run hk hX1_init_0 14 2 (pc' := 35) (lv' := [some (.inr (.inl a0))]) (st' := [.inl 250, .inr (.inl a0)]) rfl ?_
  refine z_newa hk (κ := 20) (tn := 0) (z_row hX1_init_0 16 rfl) wd_63 rfl rfl (by decide) (by decide) (zhent_i E) (fun q10 σ11 => ?_)
  refine z_pR hk 3 (z_row hX1_init_0 17 rfl) (ci := 1) rfl rfl wd_80 (fun _ => ⟨he.2.1, rfl⟩) (fun _ => ⟨rfl, rfl, rfl, rfl⟩) (fun σ12 => ?_)
  exact z_vret hk he (z_row hX1_init_0 18 rfl) rfl
theorem kX1_init_n {n : Nat} {own : String} {cc : ByteArray} {nL h index : Nat} {α : Type} {fin : α → zO} {σ : zW} {pc : Nat} {lv : zLV} {st : List zV} {a0 : Nat} {c : zW → Option α} (F : zFx E) (hk : zk E K own cc nL h) (hd : decode cc pc = .ok (.invokespecial index, 3)) (hl : Cond.methodLinkNest own index qX1_init "LotSales" ∈ lw_tbl) (hh : 1 + 1 ≤ h) (hs : zcat st ≤ 8) (k : ∀ s, zG E K fin (c s) s (pc + 3) lv st) : zG E K fin (if a0 = 0 then none else (zb (fX1_init n a0 σ) c)) σ pc lv (.inr (.inl a0) :: st) :=
  z_inV (n := 0) (y := qX1_init) (As := []) hk hd hl wd_69 wd_5 wd_70 rfl ⟨by decide, by decide, by decide +kernel⟩ ⟨hh, by decide⟩ rfl (fun o ho => mX1_init F n a0 σ o ho) hs k
abbrev qX2_init : MethodName := { cls := "LotSales$Lot", name := "<init>", desc := "()V" }
def fX2_init (n : Nat) (a0 : Nat) (σ : zW) : Option (zW) := if a0 = 0 then none else znA σ 20 10 fun q1 σ2 => zpR σ2 3 a0 0 q1 fun σ3 => znA σ3 20 10 fun q4 σ5 => zpR σ5 3 a0 1 q4 fun σ6 => znA σ6 20 10 fun q7 σ8 => zpR σ8 3 a0 2 q7 fun σ9 => znA σ9 20 10 fun q10 σ11 => zpR σ11 3 a0 3 q10 fun σ12 => some σ12
theorem mX2_init (F : zFx E) (n : Nat) (a0 : Nat) (σ : zW) (o : zW) (hf : fX2_init n a0 σ = some o) : zM E qX2_init cX2_init 1 none 1 [.inr (.inl a0)] σ none o := by
  refine zM_of (fin := zfV) F (by decide +kernel) rfl (Nat.le_of_ble_eq_true rfl) (lv0 := [some (.inr (.inl a0))]) rfl hf rfl (fun K hk he => ?_)
  have hk : zk E K "LotSales$Lot" cX2_init 1 1 := hk
  unfold fX2_init
  refine z_run hk hX2_init_0 0 1 (pc' := 1) (lv' := [some (.inr (.inl a0))]) (st' := [.inr (.inl a0)]) rfl ?_
  refine z_oinit0 hk (z_row hX2_init_0 1 rfl) wd_101 wd_29 wd_30 (by decide) (Nat.le_of_ble_eq_true rfl) ?_
  refine z_run hk hX2_init_0 2 2 (pc' := 7) (lv' := [some (.inr (.inl a0))]) (st' := [.inl 10, .inr (.inl a0)]) rfl ?_
  refine z_newa hk (κ := 20) (tn := 0) (z_row hX2_init_0 4 rfl) wd_63 rfl rfl (by decide) (by decide) (zhent_i E) (fun q1 σ2 => ?_)
  refine z_pR hk 0 (z_row hX2_init_0 5 rfl) (ci := 2) rfl rfl wd_102 (fun _ => ⟨he.2.1, rfl⟩) (fun _ => ⟨rfl, rfl, rfl, rfl⟩) (fun σ3 => ?_)
  refine z_run hk hX2_init_0 6 2 (pc' := 15) (lv' := [some (.inr (.inl a0))]) (st' := [.inl 10, .inr (.inl a0)]) rfl ?_
  refine z_newa hk (κ := 20) (tn := 0) (z_row hX2_init_0 8 rfl) wd_63 rfl rfl (by decide) (by decide) (zhent_i E) (fun q4 σ5 => ?_)
  refine z_pR hk 1 (z_row hX2_init_0 9 rfl) (ci := 2) rfl rfl wd_106 (fun _ => ⟨he.2.1, rfl⟩) (fun _ => ⟨rfl, rfl, rfl, rfl⟩) (fun σ6 => ?_)
  refine z_run hk hX2_init_0 10 2 (pc' := 23) (lv' := [some (.inr (.inl a0))]) (st' := [.inl 10, .inr (.inl a0)]) rfl ?_
  refine z_newa hk (κ := 20) (tn := 0) (z_row hX2_init_0 12 rfl) wd_63 rfl rfl (by decide) (by decide) (zhent_i E) (fun q7 σ8 => ?_)
  refine z_pR hk 2 (z_row hX2_init_0 13 rfl) (ci := 2) rfl rfl wd_108 (fun _ => ⟨he.2.1, rfl⟩) (fun _ => ⟨rfl, rfl, rfl, rfl⟩) (fun σ9 => ?_)
  refine z_run hk hX2_init_0 14 2 (pc' := 31) (lv' := [some (.inr (.inl a0))]) (st' := [.inl 10, .inr (.inl a0)]) rfl ?_
  refine z_newa hk (κ := 20) (tn := 0) (z_row hX2_init_0 16 rfl) wd_63 rfl rfl (by decide) (by decide) (zhent_i E) (fun q10 σ11 => ?_)
  refine z_pR hk 3 (z_row hX2_init_0 17 rfl) (ci := 2) rfl rfl wd_110 (fun _ => ⟨he.2.1, rfl⟩) (fun _ => ⟨rfl, rfl, rfl, rfl⟩) (fun σ12 => ?_)
  exact z_vret hk he (z_row hX2_init_0 18 rfl) rfl
theorem kX2_init_n {n : Nat} {own : String} {cc : ByteArray} {nL h index : Nat} {α : Type} {fin : α → zO} {σ : zW} {pc : Nat} {lv : zLV} {st : List zV} {a0 : Nat} {c : zW → Option α} (F : zFx E) (hk : zk E K own cc nL h) (hd : decode cc pc = .ok (.invokespecial index, 3)) (hl : Cond.methodLinkNest own index qX2_init "LotSales" ∈ lw_tbl) (hh : 1 + 1 ≤ h) (hs : zcat st ≤ 8) (k : ∀ s, zG E K fin (c s) s (pc + 3) lv st) : zG E K fin (if a0 = 0 then none else (zb (fX2_init n a0 σ) c)) σ pc lv (.inr (.inl a0) :: st) :=
  z_inV (n := 0) (y := qX2_init) (As := []) hk hd hl wd_99 wd_6 wd_100 rfl ⟨by decide, by decide, by decide +kernel⟩ ⟨hh, by decide⟩ rfl (fun o ho => mX2_init F n a0 σ o ho) hs k
abbrev qX3_init : MethodName := { cls := "LotSales$Sale", name := "<init>", desc := "()V" }
def sX3_init_76 (n : Nat) : Nat → Nat → Int32 → zW → Option (zW)
  | 0, _, _, _ => none
  | k + 1, v0, v1, σ => if v1 < 20 then zgR σ 4 v0 3 fun x1 => znO σ 3 12 fun q2 σ3 => if q2 = 0 then none else (zb (fX2_init n q2 σ3) fun σ4 => zsR σ4 25 x1 v1 q2 fun σ5 => sX3_init_76 n k v0 (v1 + 1) σ5) else some σ
def sX3_init_53 (n : Nat) : Nat → Nat → Int32 → zW → Option (zW)
  | 0, _, _, _ => none
  | k + 1, v0, v1, σ => if v1 < 10 then zgR σ 4 v0 1 fun x6 => zsI σ x6 v1 20000 fun σ7 => sX3_init_53 n k v0 (v1 + 1) σ7 else sX3_init_76 n n v0 0 σ
def fX3_init (n : Nat) (a0 : Nat) (σ : zW) : Option (zW) := if a0 = 0 then none else znO σ 6 3 fun q8 σ9 => if q8 = 0 then none else (zb (fX5_init n q8 σ9) fun σ10 => zpR σ10 4 a0 0 q8 fun σ11 => znA σ11 20 10 fun q12 σ13 => zpR σ13 4 a0 1 q12 fun σ14 => znA σ14 20 6 fun q15 σ16 => zpR σ16 4 a0 2 q15 fun σ17 => znA σ17 25 20 fun q18 σ19 => zpR σ19 4 a0 3 q18 fun σ20 => znO σ20 2 5 fun q21 σ22 => if q21 = 0 then none else (zb (fX1_init n q21 σ22) fun σ23 => zpR σ23 4 a0 4 q21 fun σ24 => sX3_init_53 n n a0 0 σ24))
theorem gsX3_init_76 (F : zFx E) (n : Nat) (hk : zk E K "LotSales$Sale" cX3_init 2 3) (he : zend E K none "<init>") : ∀ (k : Nat) (v0 : Nat) (v1 : Int32) (σ : zW), zG E K zfV (sX3_init_76 n k v0 v1 σ) σ 76 [some (.inr (.inl v0)), some (.inl v1)] [] := by
  intro k
  induction k with
  | zero =>
    intro v0 v1 σ
    intro hX
    exact z_none hX
  | succ k ih =>
    intro v0 v1 σ
    rw [sX3_init_76]
    refine z_run hk hX3_init_0 38 2 (pc' := 79) (lv' := [some (.inr (.inl v0)), some (.inl v1)]) (st' := [.inl 20, .inl v1]) rfl ?_
    refine z_cge hk (z_row hX3_init_0 40 rfl) (tgt := 101) rfl ?_ ?_
    · exact z_vret hk he (z_row hX3_init_0 50 rfl) rfl
    · refine z_run hk hX3_init_0 41 1 (pc' := 83) (lv' := [some (.inr (.inl v0)), some (.inl v1)]) (st' := [.inr (.inl v0)]) rfl ?_
      refine z_gR hk 3 (z_row hX3_init_0 42 rfl) (ci := 3) rfl rfl wd_166 (fun x1 => ?_)
      refine z_run hk hX3_init_0 43 1 (pc' := 87) (lv' := [some (.inr (.inl v0)), some (.inl v1)]) (st' := [.inl v1, .inr (.inl x1)]) rfl ?_
      refine z_new hk (z_row hX3_init_0 44 rfl) (ci := 2) rfl wd_64 wd_97 wd_6 (fun q2 σ3 => ?_)
      refine z_run hk hX3_init_0 45 1 (pc' := 91) (lv' := [some (.inr (.inl v0)), some (.inl v1)]) (st' := [.inr (.inl q2), .inr (.inl q2), .inl v1, .inr (.inl x1)]) rfl ?_
      refine kX2_init_n F hk (z_row hX3_init_0 46 rfl) wd_98 (by decide) (Nat.le_of_ble_eq_true rfl) (fun σ4 => ?_)
      refine z_sR hk (κ := 25) (by decide) (z_row hX3_init_0 47 rfl) (fun σ5 => ?_)
      refine z_run hk hX3_init_0 48 1 (pc' := 98) (lv' := [some (.inr (.inl v0)), some (.inl (v1 + 1))]) (st' := []) rfl ?_
      refine z_goto hk (z_row hX3_init_0 49 rfl) (tgt := 76) rfl ?_
      exact ih v0 (v1 + 1) σ5
theorem gsX3_init_53 (F : zFx E) (n : Nat) (hk : zk E K "LotSales$Sale" cX3_init 2 3) (he : zend E K none "<init>") : ∀ (k : Nat) (v0 : Nat) (v1 : Int32) (σ : zW), zG E K zfV (sX3_init_53 n k v0 v1 σ) σ 53 [some (.inr (.inl v0)), some (.inl v1)] [] := by
  intro k
  induction k with
  | zero =>
    intro v0 v1 σ
    intro hX
    exact z_none hX
  | succ k ih =>
    intro v0 v1 σ
    rw [sX3_init_53]
    refine z_run hk hX3_init_0 26 2 (pc' := 56) (lv' := [some (.inr (.inl v0)), some (.inl v1)]) (st' := [.inl 10, .inl v1]) rfl ?_
    refine z_cge hk (z_row hX3_init_0 28 rfl) (tgt := 74) rfl ?_ ?_
    · refine z_run hk hX3_init_0 36 2 (pc' := 76) (lv' := [some (.inr (.inl v0)), some (.inl 0)]) (st' := []) rfl ?_
      exact gsX3_init_76 F n hk he n v0 0 σ
    · refine z_run hk hX3_init_0 29 1 (pc' := 60) (lv' := [some (.inr (.inl v0)), some (.inl v1)]) (st' := [.inr (.inl v0)]) rfl ?_
      refine z_gR hk 1 (z_row hX3_init_0 30 rfl) (ci := 3) rfl rfl wd_162 (fun x6 => ?_)
      refine z_run hk hX3_init_0 31 2 (pc' := 67) (lv' := [some (.inr (.inl v0)), some (.inl v1)]) (st' := [.inl 20000, .inl v1, .inr (.inl x6)]) rfl ?_
      refine z_sI hk (z_row hX3_init_0 33 rfl) (fun σ7 => ?_)
      refine z_run hk hX3_init_0 34 1 (pc' := 71) (lv' := [some (.inr (.inl v0)), some (.inl (v1 + 1))]) (st' := []) rfl ?_
      refine z_goto hk (z_row hX3_init_0 35 rfl) (tgt := 53) rfl ?_
      exact ih v0 (v1 + 1) σ7
theorem mX3_init (F : zFx E) (n : Nat) (a0 : Nat) (σ : zW) (o : zW) (hf : fX3_init n a0 σ = some o) : zM E qX3_init cX3_init 2 none 3 [.inr (.inl a0)] σ none o := by
  refine zM_of (fin := zfV) F (by decide +kernel) rfl (Nat.le_of_ble_eq_true rfl) (lv0 := [some (.inr (.inl a0)), none]) rfl hf rfl (fun K hk he => ?_)
  have hk : zk E K "LotSales$Sale" cX3_init 2 3 := hk
  unfold fX3_init
  refine z_run hk hX3_init_0 0 1 (pc' := 1) (lv' := [some (.inr (.inl a0)), none]) (st' := [.inr (.inl a0)]) rfl ?_
  refine z_oinit0 hk (z_row hX3_init_0 1 rfl) wd_36 wd_29 wd_30 (by decide) (Nat.le_of_ble_eq_true rfl) ?_
  refine z_run hk hX3_init_0 2 1 (pc' := 5) (lv' := [some (.inr (.inl a0)), none]) (st' := [.inr (.inl a0)]) rfl ?_
  refine z_new hk (z_row hX3_init_0 3 rfl) (ci := 5) rfl wd_37 wd_38 wd_3 (fun q8 σ9 => ?_)
  refine z_run hk hX3_init_0 4 1 (pc' := 9) (lv' := [some (.inr (.inl a0)), none]) (st' := [.inr (.inl q8), .inr (.inl q8), .inr (.inl a0)]) rfl ?_
  refine kX5_init F hk (z_row hX3_init_0 5 rfl) wd_39 (by decide) (Nat.le_of_ble_eq_true rfl) (fun σ10 => ?_)
  refine z_pR hk 0 (z_row hX3_init_0 6 rfl) (ci := 3) rfl rfl wd_160 (fun _ => ⟨he.2.1, rfl⟩) (fun _ => ⟨rfl, rfl, rfl, rfl⟩) (fun σ11 => ?_)
  refine z_run hk hX3_init_0 7 2 (pc' := 18) (lv' := [some (.inr (.inl a0)), none]) (st' := [.inl 10, .inr (.inl a0)]) rfl ?_
  refine z_newa hk (κ := 20) (tn := 0) (z_row hX3_init_0 9 rfl) wd_63 rfl rfl (by decide) (by decide) (zhent_i E) (fun q12 σ13 => ?_)
  refine z_pR hk 1 (z_row hX3_init_0 10 rfl) (ci := 3) rfl rfl wd_162 (fun _ => ⟨he.2.1, rfl⟩) (fun _ => ⟨rfl, rfl, rfl, rfl⟩) (fun σ14 => ?_)
  refine z_run hk hX3_init_0 11 2 (pc' := 26) (lv' := [some (.inr (.inl a0)), none]) (st' := [.inl 6, .inr (.inl a0)]) rfl ?_
  refine z_newa hk (κ := 20) (tn := 0) (z_row hX3_init_0 13 rfl) wd_63 rfl rfl (by decide) (by decide) (zhent_i E) (fun q15 σ16 => ?_)
  refine z_pR hk 2 (z_row hX3_init_0 14 rfl) (ci := 3) rfl rfl wd_164 (fun _ => ⟨he.2.1, rfl⟩) (fun _ => ⟨rfl, rfl, rfl, rfl⟩) (fun σ17 => ?_)
  refine z_run hk hX3_init_0 15 2 (pc' := 34) (lv' := [some (.inr (.inl a0)), none]) (st' := [.inl 20, .inr (.inl a0)]) rfl ?_
  refine z_newq hk (κ := 25) (tn := 4) (C := "LotSales$Lot") (by decide) (z_row hX3_init_0 17 rfl) wd_64 wd_65 rfl (fun q18 σ19 => ?_)
  refine z_pR hk 3 (z_row hX3_init_0 18 rfl) (ci := 3) rfl rfl wd_166 (fun _ => ⟨he.2.1, rfl⟩) (fun _ => ⟨rfl, rfl, rfl, rfl⟩) (fun σ20 => ?_)
  refine z_run hk hX3_init_0 19 1 (pc' := 41) (lv' := [some (.inr (.inl a0)), none]) (st' := [.inr (.inl a0)]) rfl ?_
  refine z_new hk (z_row hX3_init_0 20 rfl) (ci := 1) rfl wd_66 wd_67 wd_5 (fun q21 σ22 => ?_)
  refine z_run hk hX3_init_0 21 1 (pc' := 45) (lv' := [some (.inr (.inl a0)), none]) (st' := [.inr (.inl q21), .inr (.inl q21), .inr (.inl a0)]) rfl ?_
  refine kX1_init_n F hk (z_row hX3_init_0 22 rfl) wd_68 (by decide) (Nat.le_of_ble_eq_true rfl) (fun σ23 => ?_)
  refine z_pR hk 4 (z_row hX3_init_0 23 rfl) (ci := 3) rfl rfl wd_168 (fun _ => ⟨he.2.1, rfl⟩) (fun _ => ⟨rfl, rfl, rfl, rfl⟩) (fun σ24 => ?_)
  refine z_run hk hX3_init_0 24 2 (pc' := 53) (lv' := [some (.inr (.inl a0)), some (.inl 0)]) (st' := []) rfl ?_
  exact gsX3_init_53 F n hk he n a0 0 σ24
theorem kX3_init {n : Nat} {own : String} {cc : ByteArray} {nL h index : Nat} {α : Type} {fin : α → zO} {σ : zW} {pc : Nat} {lv : zLV} {st : List zV} {a0 : Nat} {c : zW → Option α} (F : zFx E) (hk : zk E K own cc nL h) (hd : decode cc pc = .ok (.invokespecial index, 3)) (hl : Cond.methodLink own index qX3_init ∈ lw_tbl) (hh : 3 + 1 ≤ h) (hs : zcat st ≤ 8) (k : ∀ s, zG E K fin (c s) s (pc + 3) lv st) : zG E K fin (if a0 = 0 then none else (zb (fX3_init n a0 σ) c)) σ pc lv (.inr (.inl a0) :: st) :=
  z_iV (n := 0) (y := qX3_init) (As := []) hk hd hl wd_34 wd_2 wd_35 rfl ⟨by decide, by decide, by decide +kernel⟩ ⟨hh, by decide⟩ rfl (fun o ho => mX3_init F n a0 σ o ho) hs k
abbrev qX5_take : MethodName := { cls := "LotSales$Table", name := "take", desc := "(LLotSales$Table;)V" }
def fX5_take (n : Nat) (a0 : Nat) (a1 : Nat) (σ : zW) : Option (zW) := zgI σ 6 a1 2 fun x1 => zpI σ 6 a0 2 x1 fun σ2 => zgR σ2 6 a1 0 fun x3 => zgR σ2 6 a0 0 fun x4 => zcp σ2 x3 0 x4 0 6 fun σ5 => zgR σ5 6 a1 1 fun x6 => zgR σ5 6 a0 1 fun x7 => zcp σ5 x6 0 x7 0 6 fun σ8 => some σ8
theorem mX5_take (F : zFx E) (n : Nat) (a0 : Nat) (a1 : Nat) (σ : zW) (o : zW) (hf : fX5_take n a0 a1 σ = some o) : zM E qX5_take cX5_take 2 none 2 [.inr (.inl a0), .inr (.inl a1)] σ none o := by
  refine zM_of (fin := zfV) F (by decide +kernel) rfl (Nat.le_of_ble_eq_true rfl) (lv0 := [some (.inr (.inl a0)), some (.inr (.inl a1))]) rfl hf rfl (fun K hk he => ?_)
  have hk : zk E K "LotSales$Table" cX5_take 2 2 := hk
  unfold fX5_take
  refine z_run hk hX5_take_0 0 2 (pc' := 2) (lv' := [some (.inr (.inl a0)), some (.inr (.inl a1))]) (st' := [.inr (.inl a1), .inr (.inl a0)]) rfl ?_
  refine z_gI hk 2 (z_row hX5_take_0 2 rfl) (ci := 5) rfl rfl wd_54 (fun x1 => ?_)
  refine z_pI hk 2 (z_row hX5_take_0 3 rfl) (ci := 5) rfl rfl wd_54 rfl rfl rfl (fun σ2 => ?_)
  refine z_run hk hX5_take_0 4 1 (pc' := 9) (lv' := [some (.inr (.inl a0)), some (.inr (.inl a1))]) (st' := [.inr (.inl a1)]) rfl ?_
  refine z_gR hk 0 (z_row hX5_take_0 5 rfl) (ci := 5) rfl rfl wd_50 (fun x3 => ?_)
  refine z_run hk hX5_take_0 6 2 (pc' := 14) (lv' := [some (.inr (.inl a0)), some (.inr (.inl a1))]) (st' := [.inr (.inl a0), .inl 0, .inr (.inl x3)]) rfl ?_
  refine z_gR hk 0 (z_row hX5_take_0 8 rfl) (ci := 5) rfl rfl wd_50 (fun x4 => ?_)
  refine z_run hk hX5_take_0 9 2 (pc' := 20) (lv' := [some (.inr (.inl a0)), some (.inr (.inl a1))]) (st' := [.inl 6, .inl 0, .inr (.inl x4), .inl 0, .inr (.inl x3)]) rfl ?_
  refine z_copy hk (z_row hX5_take_0 11 rfl) wd_45 wd_47 wd_46 wd_4 (by decide) (Nat.le_of_ble_eq_true rfl) (fun σ5 => ?_)
  refine z_run hk hX5_take_0 12 1 (pc' := 24) (lv' := [some (.inr (.inl a0)), some (.inr (.inl a1))]) (st' := [.inr (.inl a1)]) rfl ?_
  refine z_gR hk 1 (z_row hX5_take_0 13 rfl) (ci := 5) rfl rfl wd_52 (fun x6 => ?_)
  refine z_run hk hX5_take_0 14 2 (pc' := 29) (lv' := [some (.inr (.inl a0)), some (.inr (.inl a1))]) (st' := [.inr (.inl a0), .inl 0, .inr (.inl x6)]) rfl ?_
  refine z_gR hk 1 (z_row hX5_take_0 16 rfl) (ci := 5) rfl rfl wd_52 (fun x7 => ?_)
  refine z_run hk hX5_take_0 17 2 (pc' := 35) (lv' := [some (.inr (.inl a0)), some (.inr (.inl a1))]) (st' := [.inl 6, .inl 0, .inr (.inl x7), .inl 0, .inr (.inl x6)]) rfl ?_
  refine z_copy hk (z_row hX5_take_0 19 rfl) wd_45 wd_47 wd_46 wd_4 (by decide) (Nat.le_of_ble_eq_true rfl) (fun σ8 => ?_)
  exact z_vret hk he (z_row hX5_take_0 20 rfl) rfl
theorem kX5_take {n : Nat} {own : String} {cc : ByteArray} {nL h index : Nat} {α : Type} {fin : α → zO} {σ : zW} {pc : Nat} {lv : zLV} {st : List zV} {a0 : Nat} {a1 : Nat} {c : zW → Option α} (F : zFx E) (hk : zk E K own cc nL h) (hd : decode cc pc = .ok (.invokevirtual index, 3)) (hl : Cond.methodLink own index qX5_take ∈ lw_tbl) (hh : 2 + 1 ≤ h) (hs : zcat st ≤ 8) (k : ∀ s, zG E K fin (c s) s (pc + 3) lv st) : zG E K fin (zck σ 6 a0 (zb (fX5_take n a0 a1 σ) c)) σ pc lv (.inr (.inl a1) :: .inr (.inl a0) :: st) :=
  z_vV (n := 1) (y := qX5_take) (As := [.inr (.inl a1)]) hk hd hl wd_327 wd_328 wd_3 wd_329 ⟨by decide, by decide, by decide +kernel⟩ ⟨hh, by decide⟩ (ci := 5) rfl rfl rfl (fun o ho => mX5_take F n a0 a1 σ o ho) hs k
abbrev qX2_take : MethodName := { cls := "LotSales$Lot", name := "take", desc := "(LLotSales$Lot;)V" }
def fX2_take (n : Nat) (a0 : Nat) (a1 : Nat) (σ : zW) : Option (zW) := zgI σ 3 a1 4 fun x1 => zpI σ 3 a0 4 x1 fun σ2 => zgI σ2 3 a1 5 fun x3 => zpI σ2 3 a0 5 x3 fun σ4 => zgI σ4 3 a1 6 fun x5 => zpI σ4 3 a0 6 x5 fun σ6 => zgI σ6 3 a1 7 fun x7 => zpI σ6 3 a0 7 x7 fun σ8 => zgI σ8 3 a1 8 fun x9 => zpI σ8 3 a0 8 x9 fun σ10 => zgI σ10 3 a1 9 fun x11 => zpI σ10 3 a0 9 x11 fun σ12 => zgI σ12 3 a1 10 fun x13 => zpI σ12 3 a0 10 x13 fun σ14 => zgI σ14 3 a1 11 fun x15 => zpI σ14 3 a0 11 x15 fun σ16 => zgR σ16 3 a1 0 fun x17 => zgR σ16 3 a0 0 fun x18 => zcp σ16 x17 0 x18 0 10 fun σ19 => zgR σ19 3 a1 1 fun x20 => zgR σ19 3 a0 1 fun x21 => zcp σ19 x20 0 x21 0 10 fun σ22 => zgR σ22 3 a1 2 fun x23 => zgR σ22 3 a0 2 fun x24 => zcp σ22 x23 0 x24 0 10 fun σ25 => zgR σ25 3 a1 3 fun x26 => zgR σ25 3 a0 3 fun x27 => zcp σ25 x26 0 x27 0 10 fun σ28 => some σ28
theorem mX2_take (F : zFx E) (n : Nat) (a0 : Nat) (a1 : Nat) (σ : zW) (o : zW) (hf : fX2_take n a0 a1 σ = some o) : zM E qX2_take cX2_take 2 none 2 [.inr (.inl a0), .inr (.inl a1)] σ none o := by
  refine zM_of (fin := zfV) F (by decide +kernel) rfl (Nat.le_of_ble_eq_true rfl) (lv0 := [some (.inr (.inl a0)), some (.inr (.inl a1))]) rfl hf rfl (fun K hk he => ?_)
  have hk : zk E K "LotSales$Lot" cX2_take 2 2 := hk
  unfold fX2_take
  refine z_run hk hX2_take_0 0 2 (pc' := 2) (lv' := [some (.inr (.inl a0)), some (.inr (.inl a1))]) (st' := [.inr (.inl a1), .inr (.inl a0)]) rfl ?_
  refine z_gI hk 4 (z_row hX2_take_0 2 rfl) (ci := 2) rfl rfl wd_112 (fun x1 => ?_)
  refine z_pI hk 4 (z_row hX2_take_0 3 rfl) (ci := 2) rfl rfl wd_112 rfl rfl rfl (fun σ2 => ?_)
  refine z_run hk hX2_take_0 4 2 (pc' := 10) (lv' := [some (.inr (.inl a0)), some (.inr (.inl a1))]) (st' := [.inr (.inl a1), .inr (.inl a0)]) rfl ?_
  refine z_gI hk 5 (z_row hX2_take_0 6 rfl) (ci := 2) rfl rfl wd_115 (fun x3 => ?_)
  refine z_pI hk 5 (z_row hX2_take_0 7 rfl) (ci := 2) rfl rfl wd_115 rfl rfl rfl (fun σ4 => ?_)
  refine z_run hk hX2_take_0 8 2 (pc' := 18) (lv' := [some (.inr (.inl a0)), some (.inr (.inl a1))]) (st' := [.inr (.inl a1), .inr (.inl a0)]) rfl ?_
  refine z_gI hk 6 (z_row hX2_take_0 10 rfl) (ci := 2) rfl rfl wd_118 (fun x5 => ?_)
  refine z_pI hk 6 (z_row hX2_take_0 11 rfl) (ci := 2) rfl rfl wd_118 rfl rfl rfl (fun σ6 => ?_)
  refine z_run hk hX2_take_0 12 2 (pc' := 26) (lv' := [some (.inr (.inl a0)), some (.inr (.inl a1))]) (st' := [.inr (.inl a1), .inr (.inl a0)]) rfl ?_
  refine z_gI hk 7 (z_row hX2_take_0 14 rfl) (ci := 2) rfl rfl wd_121 (fun x7 => ?_)
  refine z_pI hk 7 (z_row hX2_take_0 15 rfl) (ci := 2) rfl rfl wd_121 rfl rfl rfl (fun σ8 => ?_)
  refine z_run hk hX2_take_0 16 2 (pc' := 34) (lv' := [some (.inr (.inl a0)), some (.inr (.inl a1))]) (st' := [.inr (.inl a1), .inr (.inl a0)]) rfl ?_
  refine z_gI hk 8 (z_row hX2_take_0 18 rfl) (ci := 2) rfl rfl wd_125 (fun x9 => ?_)
  refine z_pI hk 8 (z_row hX2_take_0 19 rfl) (ci := 2) rfl rfl wd_125 rfl rfl rfl (fun σ10 => ?_)
  refine z_run hk hX2_take_0 20 2 (pc' := 42) (lv' := [some (.inr (.inl a0)), some (.inr (.inl a1))]) (st' := [.inr (.inl a1), .inr (.inl a0)]) rfl ?_
  refine z_gI hk 9 (z_row hX2_take_0 22 rfl) (ci := 2) rfl rfl wd_127 (fun x11 => ?_)
  refine z_pI hk 9 (z_row hX2_take_0 23 rfl) (ci := 2) rfl rfl wd_127 rfl rfl rfl (fun σ12 => ?_)
  refine z_run hk hX2_take_0 24 2 (pc' := 50) (lv' := [some (.inr (.inl a0)), some (.inr (.inl a1))]) (st' := [.inr (.inl a1), .inr (.inl a0)]) rfl ?_
  refine z_gI hk 10 (z_row hX2_take_0 26 rfl) (ci := 2) rfl rfl wd_129 (fun x13 => ?_)
  refine z_pI hk 10 (z_row hX2_take_0 27 rfl) (ci := 2) rfl rfl wd_129 rfl rfl rfl (fun σ14 => ?_)
  refine z_run hk hX2_take_0 28 2 (pc' := 58) (lv' := [some (.inr (.inl a0)), some (.inr (.inl a1))]) (st' := [.inr (.inl a1), .inr (.inl a0)]) rfl ?_
  refine z_gI hk 11 (z_row hX2_take_0 30 rfl) (ci := 2) rfl rfl wd_132 (fun x15 => ?_)
  refine z_pI hk 11 (z_row hX2_take_0 31 rfl) (ci := 2) rfl rfl wd_132 rfl rfl rfl (fun σ16 => ?_)
  refine z_run hk hX2_take_0 32 1 (pc' := 65) (lv' := [some (.inr (.inl a0)), some (.inr (.inl a1))]) (st' := [.inr (.inl a1)]) rfl ?_
  refine z_gR hk 0 (z_row hX2_take_0 33 rfl) (ci := 2) rfl rfl wd_102 (fun x17 => ?_)
  refine z_run hk hX2_take_0 34 2 (pc' := 70) (lv' := [some (.inr (.inl a0)), some (.inr (.inl a1))]) (st' := [.inr (.inl a0), .inl 0, .inr (.inl x17)]) rfl ?_
  refine z_gR hk 0 (z_row hX2_take_0 36 rfl) (ci := 2) rfl rfl wd_102 (fun x18 => ?_)
  refine z_run hk hX2_take_0 37 2 (pc' := 76) (lv' := [some (.inr (.inl a0)), some (.inr (.inl a1))]) (st' := [.inl 10, .inl 0, .inr (.inl x18), .inl 0, .inr (.inl x17)]) rfl ?_
  refine z_copy hk (z_row hX2_take_0 39 rfl) wd_335 wd_47 wd_46 wd_4 (by decide) (Nat.le_of_ble_eq_true rfl) (fun σ19 => ?_)
  refine z_run hk hX2_take_0 40 1 (pc' := 80) (lv' := [some (.inr (.inl a0)), some (.inr (.inl a1))]) (st' := [.inr (.inl a1)]) rfl ?_
  refine z_gR hk 1 (z_row hX2_take_0 41 rfl) (ci := 2) rfl rfl wd_106 (fun x20 => ?_)
  refine z_run hk hX2_take_0 42 2 (pc' := 85) (lv' := [some (.inr (.inl a0)), some (.inr (.inl a1))]) (st' := [.inr (.inl a0), .inl 0, .inr (.inl x20)]) rfl ?_
  refine z_gR hk 1 (z_row hX2_take_0 44 rfl) (ci := 2) rfl rfl wd_106 (fun x21 => ?_)
  refine z_run hk hX2_take_0 45 2 (pc' := 91) (lv' := [some (.inr (.inl a0)), some (.inr (.inl a1))]) (st' := [.inl 10, .inl 0, .inr (.inl x21), .inl 0, .inr (.inl x20)]) rfl ?_
  refine z_copy hk (z_row hX2_take_0 47 rfl) wd_335 wd_47 wd_46 wd_4 (by decide) (Nat.le_of_ble_eq_true rfl) (fun σ22 => ?_)
  refine z_run hk hX2_take_0 48 1 (pc' := 95) (lv' := [some (.inr (.inl a0)), some (.inr (.inl a1))]) (st' := [.inr (.inl a1)]) rfl ?_
  refine z_gR hk 2 (z_row hX2_take_0 49 rfl) (ci := 2) rfl rfl wd_108 (fun x23 => ?_)
  refine z_run hk hX2_take_0 50 2 (pc' := 100) (lv' := [some (.inr (.inl a0)), some (.inr (.inl a1))]) (st' := [.inr (.inl a0), .inl 0, .inr (.inl x23)]) rfl ?_
  refine z_gR hk 2 (z_row hX2_take_0 52 rfl) (ci := 2) rfl rfl wd_108 (fun x24 => ?_)
  refine z_run hk hX2_take_0 53 2 (pc' := 106) (lv' := [some (.inr (.inl a0)), some (.inr (.inl a1))]) (st' := [.inl 10, .inl 0, .inr (.inl x24), .inl 0, .inr (.inl x23)]) rfl ?_
  refine z_copy hk (z_row hX2_take_0 55 rfl) wd_335 wd_47 wd_46 wd_4 (by decide) (Nat.le_of_ble_eq_true rfl) (fun σ25 => ?_)
  refine z_run hk hX2_take_0 56 1 (pc' := 110) (lv' := [some (.inr (.inl a0)), some (.inr (.inl a1))]) (st' := [.inr (.inl a1)]) rfl ?_
  refine z_gR hk 3 (z_row hX2_take_0 57 rfl) (ci := 2) rfl rfl wd_110 (fun x26 => ?_)
  refine z_run hk hX2_take_0 58 2 (pc' := 115) (lv' := [some (.inr (.inl a0)), some (.inr (.inl a1))]) (st' := [.inr (.inl a0), .inl 0, .inr (.inl x26)]) rfl ?_
  refine z_gR hk 3 (z_row hX2_take_1 0 rfl) (ci := 2) rfl rfl wd_110 (fun x27 => ?_)
  refine z_run hk hX2_take_1 1 2 (pc' := 121) (lv' := [some (.inr (.inl a0)), some (.inr (.inl a1))]) (st' := [.inl 10, .inl 0, .inr (.inl x27), .inl 0, .inr (.inl x26)]) rfl ?_
  refine z_copy hk (z_row hX2_take_1 3 rfl) wd_335 wd_47 wd_46 wd_4 (by decide) (Nat.le_of_ble_eq_true rfl) (fun σ28 => ?_)
  exact z_vret hk he (z_row hX2_take_1 4 rfl) rfl
theorem kX2_take {n : Nat} {own : String} {cc : ByteArray} {nL h index : Nat} {α : Type} {fin : α → zO} {σ : zW} {pc : Nat} {lv : zLV} {st : List zV} {a0 : Nat} {a1 : Nat} {c : zW → Option α} (F : zFx E) (hk : zk E K own cc nL h) (hd : decode cc pc = .ok (.invokevirtual index, 3)) (hl : Cond.methodLink own index qX2_take ∈ lw_tbl) (hh : 2 + 1 ≤ h) (hs : zcat st ≤ 8) (k : ∀ s, zG E K fin (c s) s (pc + 3) lv st) : zG E K fin (zck σ 3 a0 (zb (fX2_take n a0 a1 σ) c)) σ pc lv (.inr (.inl a1) :: .inr (.inl a0) :: st) :=
  z_vV (n := 1) (y := qX2_take) (As := [.inr (.inl a1)]) hk hd hl wd_332 wd_333 wd_6 wd_334 ⟨by decide, by decide, by decide +kernel⟩ ⟨hh, by decide⟩ (ci := 2) rfl rfl rfl (fun o ho => mX2_take F n a0 a1 σ o ho) hs k
abbrev qX1_take : MethodName := { cls := "LotSales$Ledger", name := "take", desc := "(LLotSales$Ledger;)V" }
def fX1_take (n : Nat) (a0 : Nat) (a1 : Nat) (σ : zW) : Option (zW) := zgI σ 2 a1 4 fun x1 => zpI σ 2 a0 4 x1 fun σ2 => zgR σ2 2 a1 0 fun x3 => zgR σ2 2 a0 0 fun x4 => zgI σ2 2 a1 4 fun x5 => zcp σ2 x3 0 x4 0 x5 fun σ6 => zgR σ6 2 a1 1 fun x7 => zgR σ6 2 a0 1 fun x8 => zgI σ6 2 a1 4 fun x9 => zcp σ6 x7 0 x8 0 x9 fun σ10 => zgR σ10 2 a1 2 fun x11 => zgR σ10 2 a0 2 fun x12 => zgI σ10 2 a1 4 fun x13 => zcp σ10 x11 0 x12 0 x13 fun σ14 => zgR σ14 2 a1 3 fun x15 => zgR σ14 2 a0 3 fun x16 => zgI σ14 2 a1 4 fun x17 => zcp σ14 x15 0 x16 0 x17 fun σ18 => some σ18
theorem mX1_take (F : zFx E) (n : Nat) (a0 : Nat) (a1 : Nat) (σ : zW) (o : zW) (hf : fX1_take n a0 a1 σ = some o) : zM E qX1_take cX1_take 2 none 2 [.inr (.inl a0), .inr (.inl a1)] σ none o := by
  refine zM_of (fin := zfV) F (by decide +kernel) rfl (Nat.le_of_ble_eq_true rfl) (lv0 := [some (.inr (.inl a0)), some (.inr (.inl a1))]) rfl hf rfl (fun K hk he => ?_)
  have hk : zk E K "LotSales$Ledger" cX1_take 2 2 := hk
  unfold fX1_take
  refine z_run hk hX1_take_0 0 2 (pc' := 2) (lv' := [some (.inr (.inl a0)), some (.inr (.inl a1))]) (st' := [.inr (.inl a1), .inr (.inl a0)]) rfl ?_
  refine z_gI hk 4 (z_row hX1_take_0 2 rfl) (ci := 1) rfl rfl wd_83 (fun x1 => ?_)
  refine z_pI hk 4 (z_row hX1_take_0 3 rfl) (ci := 1) rfl rfl wd_83 rfl rfl rfl (fun σ2 => ?_)
  refine z_run hk hX1_take_0 4 1 (pc' := 9) (lv' := [some (.inr (.inl a0)), some (.inr (.inl a1))]) (st' := [.inr (.inl a1)]) rfl ?_
  refine z_gR hk 0 (z_row hX1_take_0 5 rfl) (ci := 1) rfl rfl wd_72 (fun x3 => ?_)
  refine z_run hk hX1_take_0 6 2 (pc' := 14) (lv' := [some (.inr (.inl a0)), some (.inr (.inl a1))]) (st' := [.inr (.inl a0), .inl 0, .inr (.inl x3)]) rfl ?_
  refine z_gR hk 0 (z_row hX1_take_0 8 rfl) (ci := 1) rfl rfl wd_72 (fun x4 => ?_)
  refine z_run hk hX1_take_0 9 2 (pc' := 19) (lv' := [some (.inr (.inl a0)), some (.inr (.inl a1))]) (st' := [.inr (.inl a1), .inl 0, .inr (.inl x4), .inl 0, .inr (.inl x3)]) rfl ?_
  refine z_gI hk 4 (z_row hX1_take_0 11 rfl) (ci := 1) rfl rfl wd_83 (fun x5 => ?_)
  refine z_copy hk (z_row hX1_take_0 12 rfl) wd_340 wd_47 wd_46 wd_4 (by decide) (Nat.le_of_ble_eq_true rfl) (fun σ6 => ?_)
  refine z_run hk hX1_take_0 13 1 (pc' := 26) (lv' := [some (.inr (.inl a0)), some (.inr (.inl a1))]) (st' := [.inr (.inl a1)]) rfl ?_
  refine z_gR hk 1 (z_row hX1_take_0 14 rfl) (ci := 1) rfl rfl wd_75 (fun x7 => ?_)
  refine z_run hk hX1_take_0 15 2 (pc' := 31) (lv' := [some (.inr (.inl a0)), some (.inr (.inl a1))]) (st' := [.inr (.inl a0), .inl 0, .inr (.inl x7)]) rfl ?_
  refine z_gR hk 1 (z_row hX1_take_0 17 rfl) (ci := 1) rfl rfl wd_75 (fun x8 => ?_)
  refine z_run hk hX1_take_0 18 2 (pc' := 36) (lv' := [some (.inr (.inl a0)), some (.inr (.inl a1))]) (st' := [.inr (.inl a1), .inl 0, .inr (.inl x8), .inl 0, .inr (.inl x7)]) rfl ?_
  refine z_gI hk 4 (z_row hX1_take_0 20 rfl) (ci := 1) rfl rfl wd_83 (fun x9 => ?_)
  refine z_copy hk (z_row hX1_take_0 21 rfl) wd_340 wd_47 wd_46 wd_4 (by decide) (Nat.le_of_ble_eq_true rfl) (fun σ10 => ?_)
  refine z_run hk hX1_take_0 22 1 (pc' := 43) (lv' := [some (.inr (.inl a0)), some (.inr (.inl a1))]) (st' := [.inr (.inl a1)]) rfl ?_
  refine z_gR hk 2 (z_row hX1_take_0 23 rfl) (ci := 1) rfl rfl wd_78 (fun x11 => ?_)
  refine z_run hk hX1_take_0 24 2 (pc' := 48) (lv' := [some (.inr (.inl a0)), some (.inr (.inl a1))]) (st' := [.inr (.inl a0), .inl 0, .inr (.inl x11)]) rfl ?_
  refine z_gR hk 2 (z_row hX1_take_0 26 rfl) (ci := 1) rfl rfl wd_78 (fun x12 => ?_)
  refine z_run hk hX1_take_0 27 2 (pc' := 53) (lv' := [some (.inr (.inl a0)), some (.inr (.inl a1))]) (st' := [.inr (.inl a1), .inl 0, .inr (.inl x12), .inl 0, .inr (.inl x11)]) rfl ?_
  refine z_gI hk 4 (z_row hX1_take_0 29 rfl) (ci := 1) rfl rfl wd_83 (fun x13 => ?_)
  refine z_copy hk (z_row hX1_take_0 30 rfl) wd_340 wd_47 wd_46 wd_4 (by decide) (Nat.le_of_ble_eq_true rfl) (fun σ14 => ?_)
  refine z_run hk hX1_take_0 31 1 (pc' := 60) (lv' := [some (.inr (.inl a0)), some (.inr (.inl a1))]) (st' := [.inr (.inl a1)]) rfl ?_
  refine z_gR hk 3 (z_row hX1_take_0 32 rfl) (ci := 1) rfl rfl wd_80 (fun x15 => ?_)
  refine z_run hk hX1_take_0 33 2 (pc' := 65) (lv' := [some (.inr (.inl a0)), some (.inr (.inl a1))]) (st' := [.inr (.inl a0), .inl 0, .inr (.inl x15)]) rfl ?_
  refine z_gR hk 3 (z_row hX1_take_0 35 rfl) (ci := 1) rfl rfl wd_80 (fun x16 => ?_)
  refine z_run hk hX1_take_0 36 2 (pc' := 70) (lv' := [some (.inr (.inl a0)), some (.inr (.inl a1))]) (st' := [.inr (.inl a1), .inl 0, .inr (.inl x16), .inl 0, .inr (.inl x15)]) rfl ?_
  refine z_gI hk 4 (z_row hX1_take_0 38 rfl) (ci := 1) rfl rfl wd_83 (fun x17 => ?_)
  refine z_copy hk (z_row hX1_take_0 39 rfl) wd_340 wd_47 wd_46 wd_4 (by decide) (Nat.le_of_ble_eq_true rfl) (fun σ18 => ?_)
  exact z_vret hk he (z_row hX1_take_0 40 rfl) rfl
theorem kX1_take {n : Nat} {own : String} {cc : ByteArray} {nL h index : Nat} {α : Type} {fin : α → zO} {σ : zW} {pc : Nat} {lv : zLV} {st : List zV} {a0 : Nat} {a1 : Nat} {c : zW → Option α} (F : zFx E) (hk : zk E K own cc nL h) (hd : decode cc pc = .ok (.invokevirtual index, 3)) (hl : Cond.methodLink own index qX1_take ∈ lw_tbl) (hh : 2 + 1 ≤ h) (hs : zcat st ≤ 8) (k : ∀ s, zG E K fin (c s) s (pc + 3) lv st) : zG E K fin (zck σ 2 a0 (zb (fX1_take n a0 a1 σ) c)) σ pc lv (.inr (.inl a1) :: .inr (.inl a0) :: st) :=
  z_vV (n := 1) (y := qX1_take) (As := [.inr (.inl a1)]) hk hd hl wd_337 wd_338 wd_5 wd_339 ⟨by decide, by decide, by decide +kernel⟩ ⟨hh, by decide⟩ (ci := 1) rfl rfl rfl (fun o ho => mX1_take F n a0 a1 σ o ho) hs k
abbrev qX3_take : MethodName := { cls := "LotSales$Sale", name := "take", desc := "(LLotSales$Sale;)V" }
def sX3_take_43 (n : Nat) : Nat → Nat → Nat → Int32 → zW → Option (zW)
  | 0, _, _, _, _ => none
  | k + 1, v0, v1, v2, σ => zgI σ 4 v1 5 fun x1 => if v2 < x1 then zgR σ 4 v0 3 fun x9 => zaR σ 25 x9 v2 fun x10 => zgR σ 4 v1 3 fun x11 => zaR σ 25 x11 v2 fun x12 => zck σ 3 x10 (zb (fX2_take n x10 x12 σ) fun σ13 => sX3_take_43 n k v0 v1 (v2 + 1) σ13) else zgR σ 4 v0 4 fun x2 => zgR σ 4 v1 4 fun x3 => zck σ 2 x2 (zb (fX1_take n x2 x3 σ) fun σ4 => zgI σ4 4 v1 5 fun x5 => zpI σ4 4 v0 5 x5 fun σ6 => zgI σ6 4 v1 6 fun x7 => zpI σ6 4 v0 6 x7 fun σ8 => some σ8)
def fX3_take (n : Nat) (a0 : Nat) (a1 : Nat) (σ : zW) : Option (zW) := zgR σ 4 a0 0 fun x14 => zgR σ 4 a1 0 fun x15 => zck σ 6 x14 (zb (fX5_take n x14 x15 σ) fun σ16 => zgR σ16 4 a1 1 fun x17 => zgR σ16 4 a0 1 fun x18 => zcp σ16 x17 0 x18 0 10 fun σ19 => zgR σ19 4 a1 2 fun x20 => zgR σ19 4 a0 2 fun x21 => zcp σ19 x20 0 x21 0 6 fun σ22 => sX3_take_43 n n a0 a1 0 σ22)
theorem gsX3_take_43 (F : zFx E) (n : Nat) (hk : zk E K "LotSales$Sale" cX3_take 3 3) (he : zend E K none "take") : ∀ (k : Nat) (v0 : Nat) (v1 : Nat) (v2 : Int32) (σ : zW), zG E K zfV (sX3_take_43 n k v0 v1 v2 σ) σ 43 [some (.inr (.inl v0)), some (.inr (.inl v1)), some (.inl v2)] [] := by
  intro k
  induction k with
  | zero =>
    intro v0 v1 v2 σ
    intro hX
    exact z_none hX
  | succ k ih =>
    intro v0 v1 v2 σ
    rw [sX3_take_43]
    refine z_run hk hX3_take_0 23 2 (pc' := 45) (lv' := [some (.inr (.inl v0)), some (.inr (.inl v1)), some (.inl v2)]) (st' := [.inr (.inl v1), .inl v2]) rfl ?_
    refine z_gI hk 5 (z_row hX3_take_0 25 rfl) (ci := 3) rfl rfl wd_170 (fun x1 => ?_)
    refine z_cge hk (z_row hX3_take_0 26 rfl) (tgt := 72) rfl ?_ ?_
    · refine z_run hk hX3_take_0 38 1 (pc' := 73) (lv' := [some (.inr (.inl v0)), some (.inr (.inl v1)), some (.inl v2)]) (st' := [.inr (.inl v0)]) rfl ?_
      refine z_gR hk 4 (z_row hX3_take_0 39 rfl) (ci := 3) rfl rfl wd_168 (fun x2 => ?_)
      refine z_run hk hX3_take_0 40 1 (pc' := 77) (lv' := [some (.inr (.inl v0)), some (.inr (.inl v1)), some (.inl v2)]) (st' := [.inr (.inl v1), .inr (.inl x2)]) rfl ?_
      refine z_gR hk 4 (z_row hX3_take_0 41 rfl) (ci := 3) rfl rfl wd_168 (fun x3 => ?_)
      refine kX1_take F hk (z_row hX3_take_0 42 rfl) wd_336 (by decide) (Nat.le_of_ble_eq_true rfl) (fun σ4 => ?_)
      refine z_run hk hX3_take_0 43 2 (pc' := 85) (lv' := [some (.inr (.inl v0)), some (.inr (.inl v1)), some (.inl v2)]) (st' := [.inr (.inl v1), .inr (.inl v0)]) rfl ?_
      refine z_gI hk 5 (z_row hX3_take_0 45 rfl) (ci := 3) rfl rfl wd_170 (fun x5 => ?_)
      refine z_pI hk 5 (z_row hX3_take_0 46 rfl) (ci := 3) rfl rfl wd_170 rfl rfl rfl (fun σ6 => ?_)
      refine z_run hk hX3_take_0 47 2 (pc' := 93) (lv' := [some (.inr (.inl v0)), some (.inr (.inl v1)), some (.inl v2)]) (st' := [.inr (.inl v1), .inr (.inl v0)]) rfl ?_
      refine z_gI hk 6 (z_row hX3_take_0 49 rfl) (ci := 3) rfl rfl wd_172 (fun x7 => ?_)
      refine z_pI hk 6 (z_row hX3_take_0 50 rfl) (ci := 3) rfl rfl wd_172 rfl rfl rfl (fun σ8 => ?_)
      exact z_vret hk he (z_row hX3_take_0 51 rfl) rfl
    · refine z_run hk hX3_take_0 27 1 (pc' := 52) (lv' := [some (.inr (.inl v0)), some (.inr (.inl v1)), some (.inl v2)]) (st' := [.inr (.inl v0)]) rfl ?_
      refine z_gR hk 3 (z_row hX3_take_0 28 rfl) (ci := 3) rfl rfl wd_166 (fun x9 => ?_)
      refine z_run hk hX3_take_0 29 1 (pc' := 56) (lv' := [some (.inr (.inl v0)), some (.inr (.inl v1)), some (.inl v2)]) (st' := [.inl v2, .inr (.inl x9)]) rfl ?_
      refine z_aR hk (κ := 25) (by decide) (z_row hX3_take_0 30 rfl) (fun x10 => ?_)
      refine z_run hk hX3_take_0 31 1 (pc' := 58) (lv' := [some (.inr (.inl v0)), some (.inr (.inl v1)), some (.inl v2)]) (st' := [.inr (.inl v1), .inr (.inl x10)]) rfl ?_
      refine z_gR hk 3 (z_row hX3_take_0 32 rfl) (ci := 3) rfl rfl wd_166 (fun x11 => ?_)
      refine z_run hk hX3_take_0 33 1 (pc' := 62) (lv' := [some (.inr (.inl v0)), some (.inr (.inl v1)), some (.inl v2)]) (st' := [.inl v2, .inr (.inl x11), .inr (.inl x10)]) rfl ?_
      refine z_aR hk (κ := 25) (by decide) (z_row hX3_take_0 34 rfl) (fun x12 => ?_)
      refine kX2_take F hk (z_row hX3_take_0 35 rfl) wd_331 (by decide) (Nat.le_of_ble_eq_true rfl) (fun σ13 => ?_)
      refine z_run hk hX3_take_0 36 1 (pc' := 69) (lv' := [some (.inr (.inl v0)), some (.inr (.inl v1)), some (.inl (v2 + 1))]) (st' := []) rfl ?_
      refine z_goto hk (z_row hX3_take_0 37 rfl) (tgt := 43) rfl ?_
      exact ih v0 v1 (v2 + 1) σ13
theorem mX3_take (F : zFx E) (n : Nat) (a0 : Nat) (a1 : Nat) (σ : zW) (o : zW) (hf : fX3_take n a0 a1 σ = some o) : zM E qX3_take cX3_take 3 none 3 [.inr (.inl a0), .inr (.inl a1)] σ none o := by
  refine zM_of (fin := zfV) F (by decide +kernel) rfl (Nat.le_of_ble_eq_true rfl) (lv0 := [some (.inr (.inl a0)), some (.inr (.inl a1)), none]) rfl hf rfl (fun K hk he => ?_)
  have hk : zk E K "LotSales$Sale" cX3_take 3 3 := hk
  unfold fX3_take
  refine z_run hk hX3_take_0 0 1 (pc' := 1) (lv' := [some (.inr (.inl a0)), some (.inr (.inl a1)), none]) (st' := [.inr (.inl a0)]) rfl ?_
  refine z_gR hk 0 (z_row hX3_take_0 1 rfl) (ci := 3) rfl rfl wd_160 (fun x14 => ?_)
  refine z_run hk hX3_take_0 2 1 (pc' := 5) (lv' := [some (.inr (.inl a0)), some (.inr (.inl a1)), none]) (st' := [.inr (.inl a1), .inr (.inl x14)]) rfl ?_
  refine z_gR hk 0 (z_row hX3_take_0 3 rfl) (ci := 3) rfl rfl wd_160 (fun x15 => ?_)
  refine kX5_take F hk (z_row hX3_take_0 4 rfl) wd_326 (by decide) (Nat.le_of_ble_eq_true rfl) (fun σ16 => ?_)
  refine z_run hk hX3_take_0 5 1 (pc' := 12) (lv' := [some (.inr (.inl a0)), some (.inr (.inl a1)), none]) (st' := [.inr (.inl a1)]) rfl ?_
  refine z_gR hk 1 (z_row hX3_take_0 6 rfl) (ci := 3) rfl rfl wd_162 (fun x17 => ?_)
  refine z_run hk hX3_take_0 7 2 (pc' := 17) (lv' := [some (.inr (.inl a0)), some (.inr (.inl a1)), none]) (st' := [.inr (.inl a0), .inl 0, .inr (.inl x17)]) rfl ?_
  refine z_gR hk 1 (z_row hX3_take_0 9 rfl) (ci := 3) rfl rfl wd_162 (fun x18 => ?_)
  refine z_run hk hX3_take_0 10 2 (pc' := 23) (lv' := [some (.inr (.inl a0)), some (.inr (.inl a1)), none]) (st' := [.inl 10, .inl 0, .inr (.inl x18), .inl 0, .inr (.inl x17)]) rfl ?_
  refine z_copy hk (z_row hX3_take_0 12 rfl) wd_330 wd_47 wd_46 wd_4 (by decide) (Nat.le_of_ble_eq_true rfl) (fun σ19 => ?_)
  refine z_run hk hX3_take_0 13 1 (pc' := 27) (lv' := [some (.inr (.inl a0)), some (.inr (.inl a1)), none]) (st' := [.inr (.inl a1)]) rfl ?_
  refine z_gR hk 2 (z_row hX3_take_0 14 rfl) (ci := 3) rfl rfl wd_164 (fun x20 => ?_)
  refine z_run hk hX3_take_0 15 2 (pc' := 32) (lv' := [some (.inr (.inl a0)), some (.inr (.inl a1)), none]) (st' := [.inr (.inl a0), .inl 0, .inr (.inl x20)]) rfl ?_
  refine z_gR hk 2 (z_row hX3_take_0 17 rfl) (ci := 3) rfl rfl wd_164 (fun x21 => ?_)
  refine z_run hk hX3_take_0 18 2 (pc' := 38) (lv' := [some (.inr (.inl a0)), some (.inr (.inl a1)), none]) (st' := [.inl 6, .inl 0, .inr (.inl x21), .inl 0, .inr (.inl x20)]) rfl ?_
  refine z_copy hk (z_row hX3_take_0 20 rfl) wd_330 wd_47 wd_46 wd_4 (by decide) (Nat.le_of_ble_eq_true rfl) (fun σ22 => ?_)
  refine z_run hk hX3_take_0 21 2 (pc' := 43) (lv' := [some (.inr (.inl a0)), some (.inr (.inl a1)), some (.inl 0)]) (st' := []) rfl ?_
  exact gsX3_take_43 F n hk he n a0 a1 0 σ22
theorem kX3_take {n : Nat} {own : String} {cc : ByteArray} {nL h index : Nat} {α : Type} {fin : α → zO} {σ : zW} {pc : Nat} {lv : zLV} {st : List zV} {a0 : Nat} {a1 : Nat} {c : zW → Option α} (F : zFx E) (hk : zk E K own cc nL h) (hd : decode cc pc = .ok (.invokevirtual index, 3)) (hl : Cond.methodLink own index qX3_take ∈ lw_tbl) (hh : 3 + 1 ≤ h) (hs : zcat st ≤ 8) (k : ∀ s, zG E K fin (c s) s (pc + 3) lv st) : zG E K fin (zck σ 4 a0 (zb (fX3_take n a0 a1 σ) c)) σ pc lv (.inr (.inl a1) :: .inr (.inl a0) :: st) :=
  z_vV (n := 1) (y := qX3_take) (As := [.inr (.inl a1)]) hk hd hl wd_323 wd_324 wd_2 wd_325 ⟨by decide, by decide, by decide +kernel⟩ ⟨hh, by decide⟩ (ci := 3) rfl rfl rfl (fun o ho => mX3_take F n a0 a1 σ o ho) hs k
abbrev qX0_keep : MethodName := { cls := "LotSales$History", name := "keep", desc := "(LLotSales$Sale;)V" }
def sX0_keep_28 (n : Nat) (v0 : Nat) (v1 : Nat) (σ : zW) : Option (zW) := zgR σ 1 v0 0 fun x1 => zgI σ 1 v0 1 fun x2 => zaR σ 26 x1 x2 fun x3 => zck σ 4 x3 (zb (fX3_take n x3 v1 σ) fun σ4 => zgI σ4 1 v0 1 fun x5 => zdv 10 (zpI σ4 1 v0 1 ((x5 + 1) - (x5 + 1) / 10 * 10) fun σ6 => zgI σ6 1 v0 2 fun x7 => zpI σ6 1 v0 2 (if 10 < (x7 + 1) then 10 else (x7 + 1)) fun σ8 => some σ8))
def fX0_keep (n : Nat) (a0 : Nat) (a1 : Nat) (σ : zW) : Option (zW) := zgR σ 1 a0 0 fun x9 => zgI σ 1 a0 1 fun x10 => zaR σ 26 x9 x10 fun x11 => if x11 = 0 then zgR σ 1 a0 0 fun x12 => zgI σ 1 a0 1 fun x13 => znO σ 4 7 fun q14 σ15 => if q14 = 0 then none else (zb (fX3_init n q14 σ15) fun σ16 => zsR σ16 26 x12 x13 q14 fun σ17 => sX0_keep_28 n a0 a1 σ17) else sX0_keep_28 n a0 a1 σ
theorem gsX0_keep_28 (F : zFx E) (n : Nat) (hk : zk E K "LotSales$History" cX0_keep 2 4) (he : zend E K none "keep") (v0 : Nat) (v1 : Nat) (σ : zW) : zG E K zfV (sX0_keep_28 n v0 v1 σ) σ 28 [some (.inr (.inl v0)), some (.inr (.inl v1))] [] := by
  unfold sX0_keep_28
  refine z_run hk hX0_keep_0 14 1 (pc' := 29) (lv' := [some (.inr (.inl v0)), some (.inr (.inl v1))]) (st' := [.inr (.inl v0)]) rfl ?_
  refine z_gR hk 0 (z_row hX0_keep_0 15 rfl) (ci := 0) rfl rfl wd_227 (fun x1 => ?_)
  refine z_run hk hX0_keep_0 16 1 (pc' := 33) (lv' := [some (.inr (.inl v0)), some (.inr (.inl v1))]) (st' := [.inr (.inl v0), .inr (.inl x1)]) rfl ?_
  refine z_gI hk 1 (z_row hX0_keep_0 17 rfl) (ci := 0) rfl rfl wd_228 (fun x2 => ?_)
  refine z_aR hk (κ := 26) (by decide) (z_row hX0_keep_0 18 rfl) (fun x3 => ?_)
  refine z_run hk hX0_keep_0 19 1 (pc' := 38) (lv' := [some (.inr (.inl v0)), some (.inr (.inl v1))]) (st' := [.inr (.inl v1), .inr (.inl x3)]) rfl ?_
  refine kX3_take F hk (z_row hX0_keep_0 20 rfl) wd_451 (by decide) (Nat.le_of_ble_eq_true rfl) (fun σ4 => ?_)
  refine z_run hk hX0_keep_0 21 2 (pc' := 43) (lv' := [some (.inr (.inl v0)), some (.inr (.inl v1))]) (st' := [.inr (.inl v0), .inr (.inl v0)]) rfl ?_
  refine z_gI hk 1 (z_row hX0_keep_0 23 rfl) (ci := 0) rfl rfl wd_228 (fun x5 => ?_)
  refine z_run hk hX0_keep_0 24 3 (pc' := 50) (lv' := [some (.inr (.inl v0)), some (.inr (.inl v1))]) (st' := [.inl 10, .inl (x5 + 1), .inr (.inl v0)]) rfl ?_
  refine z_irem hk (z_row hX0_keep_0 27 rfl) ?_
  refine z_pI hk 1 (z_row hX0_keep_0 28 rfl) (ci := 0) rfl rfl wd_228 rfl rfl rfl (fun σ6 => ?_)
  refine z_run hk hX0_keep_0 29 2 (pc' := 56) (lv' := [some (.inr (.inl v0)), some (.inr (.inl v1))]) (st' := [.inr (.inl v0), .inr (.inl v0)]) rfl ?_
  refine z_gI hk 2 (z_row hX0_keep_0 31 rfl) (ci := 0) rfl rfl wd_229 (fun x7 => ?_)
  refine z_run hk hX0_keep_0 32 3 (pc' := 63) (lv' := [some (.inr (.inl v0)), some (.inr (.inl v1))]) (st' := [.inl 10, .inl (x7 + 1), .inr (.inl v0)]) rfl ?_
  refine z_mmin hk (z_row hX0_keep_0 35 rfl) wd_452 wd_453 wd_16 wd_454 (by decide) (Nat.le_of_ble_eq_true rfl) ?_
  refine z_pI hk 2 (z_row hX0_keep_0 36 rfl) (ci := 0) rfl rfl wd_229 rfl rfl rfl (fun σ8 => ?_)
  exact z_vret hk he (z_row hX0_keep_0 37 rfl) rfl
theorem mX0_keep (F : zFx E) (n : Nat) (a0 : Nat) (a1 : Nat) (σ : zW) (o : zW) (hf : fX0_keep n a0 a1 σ = some o) : zM E qX0_keep cX0_keep 2 none 4 [.inr (.inl a0), .inr (.inl a1)] σ none o := by
  refine zM_of (fin := zfV) F (by decide +kernel) rfl (Nat.le_of_ble_eq_true rfl) (lv0 := [some (.inr (.inl a0)), some (.inr (.inl a1))]) rfl hf rfl (fun K hk he => ?_)
  have hk : zk E K "LotSales$History" cX0_keep 2 4 := hk
  unfold fX0_keep
  refine z_run hk hX0_keep_0 0 1 (pc' := 1) (lv' := [some (.inr (.inl a0)), some (.inr (.inl a1))]) (st' := [.inr (.inl a0)]) rfl ?_
  refine z_gR hk 0 (z_row hX0_keep_0 1 rfl) (ci := 0) rfl rfl wd_227 (fun x9 => ?_)
  refine z_run hk hX0_keep_0 2 1 (pc' := 5) (lv' := [some (.inr (.inl a0)), some (.inr (.inl a1))]) (st' := [.inr (.inl a0), .inr (.inl x9)]) rfl ?_
  refine z_gI hk 1 (z_row hX0_keep_0 3 rfl) (ci := 0) rfl rfl wd_228 (fun x10 => ?_)
  refine z_aR hk (κ := 26) (by decide) (z_row hX0_keep_0 4 rfl) (fun x11 => ?_)
  refine z_nn hk (z_row hX0_keep_0 5 rfl) (tgt := 28) rfl ?_ ?_
  · exact gsX0_keep_28 F n hk he a0 a1 σ
  · refine z_run hk hX0_keep_0 6 1 (pc' := 13) (lv' := [some (.inr (.inl a0)), some (.inr (.inl a1))]) (st' := [.inr (.inl a0)]) rfl ?_
    refine z_gR hk 0 (z_row hX0_keep_0 7 rfl) (ci := 0) rfl rfl wd_227 (fun x12 => ?_)
    refine z_run hk hX0_keep_0 8 1 (pc' := 17) (lv' := [some (.inr (.inl a0)), some (.inr (.inl a1))]) (st' := [.inr (.inl a0), .inr (.inl x12)]) rfl ?_
    refine z_gI hk 1 (z_row hX0_keep_0 9 rfl) (ci := 0) rfl rfl wd_228 (fun x13 => ?_)
    refine z_new hk (z_row hX0_keep_0 10 rfl) (ci := 3) rfl wd_225 wd_32 wd_2 (fun q14 σ15 => ?_)
    refine z_run hk hX0_keep_0 11 1 (pc' := 24) (lv' := [some (.inr (.inl a0)), some (.inr (.inl a1))]) (st' := [.inr (.inl q14), .inr (.inl q14), .inl x13, .inr (.inl x12)]) rfl ?_
    refine kX3_init F hk (z_row hX0_keep_0 12 rfl) wd_450 (by decide) (Nat.le_of_ble_eq_true rfl) (fun σ16 => ?_)
    refine z_sR hk (κ := 26) (by decide) (z_row hX0_keep_0 13 rfl) (fun σ17 => ?_)
    exact gsX0_keep_28 F n hk he a0 a1 σ17
theorem kX0_keep {n : Nat} {own : String} {cc : ByteArray} {nL h index : Nat} {α : Type} {fin : α → zO} {σ : zW} {pc : Nat} {lv : zLV} {st : List zV} {a0 : Nat} {a1 : Nat} {c : zW → Option α} (F : zFx E) (hk : zk E K own cc nL h) (hd : decode cc pc = .ok (.invokevirtual index, 3)) (hl : Cond.methodLink own index qX0_keep ∈ lw_tbl) (hh : 4 + 1 ≤ h) (hs : zcat st ≤ 8) (k : ∀ s, zG E K fin (c s) s (pc + 3) lv st) : zG E K fin (zck σ 1 a0 (zb (fX0_keep n a0 a1 σ) c)) σ pc lv (.inr (.inl a1) :: .inr (.inl a0) :: st) :=
  z_vV (n := 1) (y := qX0_keep) (As := [.inr (.inl a1)]) hk hd hl wd_447 wd_448 wd_8 wd_449 ⟨by decide, by decide, by decide +kernel⟩ ⟨hh, by decide⟩ (ci := 0) rfl rfl rfl (fun o ho => mX0_keep F n a0 a1 σ o ho) hs k
abbrev qX0_giveBack : MethodName := { cls := "LotSales$History", name := "giveBack", desc := "(LLotSales$Sale;)V" }
def sX0_giveBack_29 (n : Nat) (σ : zW) : Option (zW) := some σ
def fX0_giveBack (n : Nat) (a0 : Nat) (a1 : Nat) (σ : zW) : Option (zW) := zgI σ 1 a0 1 fun x1 => zdv 10 (zgI σ 1 a0 2 fun x2 => if x2 = 0 then sX0_giveBack_29 n σ else zgR σ 1 a0 0 fun x3 => zaR σ 26 x3 (((x1 + 10) - 1) - ((x1 + 10) - 1) / 10 * 10) fun x4 => if x4 = 0 then sX0_giveBack_29 n σ else zgR σ 1 a0 0 fun x5 => zaR σ 26 x5 (((x1 + 10) - 1) - ((x1 + 10) - 1) / 10 * 10) fun x6 => zck σ 4 a1 (zb (fX3_take n a1 x6 σ) fun σ7 => zpI σ7 1 a0 1 (((x1 + 10) - 1) - ((x1 + 10) - 1) / 10 * 10) fun σ8 => zgI σ8 1 a0 2 fun x9 => zpI σ8 1 a0 2 (x9 - 1) fun σ10 => some σ10))
theorem gsX0_giveBack_29 (F : zFx E) (n : Nat) (hk : zk E K "LotSales$History" cX0_giveBack 3 4) (he : zend E K none "giveBack") (σ : zW) : zG E K zfV (sX0_giveBack_29 n σ) σ 29 [none, none, none] [] := by
  unfold sX0_giveBack_29
  exact z_vret hk he (z_row hX0_giveBack_0 17 rfl) rfl
theorem mX0_giveBack (F : zFx E) (n : Nat) (a0 : Nat) (a1 : Nat) (σ : zW) (o : zW) (hf : fX0_giveBack n a0 a1 σ = some o) : zM E qX0_giveBack cX0_giveBack 3 none 4 [.inr (.inl a0), .inr (.inl a1)] σ none o := by
  refine zM_of (fin := zfV) F (by decide +kernel) rfl (Nat.le_of_ble_eq_true rfl) (lv0 := [some (.inr (.inl a0)), some (.inr (.inl a1)), none]) rfl hf rfl (fun K hk he => ?_)
  have hk : zk E K "LotSales$History" cX0_giveBack 3 4 := hk
  unfold fX0_giveBack
  refine z_run hk hX0_giveBack_0 0 1 (pc' := 1) (lv' := [some (.inr (.inl a0)), some (.inr (.inl a1)), none]) (st' := [.inr (.inl a0)]) rfl ?_
  refine z_gI hk 1 (z_row hX0_giveBack_0 1 rfl) (ci := 0) rfl rfl wd_228 (fun x1 => ?_)
  refine z_run hk hX0_giveBack_0 2 5 (pc' := 11) (lv' := [some (.inr (.inl a0)), some (.inr (.inl a1)), none]) (st' := [.inl 10, .inl ((x1 + 10) - 1)]) rfl ?_
  refine z_irem hk (z_row hX0_giveBack_0 7 rfl) ?_
  refine z_run hk hX0_giveBack_0 8 2 (pc' := 14) (lv' := [some (.inr (.inl a0)), some (.inr (.inl a1)), some (.inl (((x1 + 10) - 1) - ((x1 + 10) - 1) / 10 * 10))]) (st' := [.inr (.inl a0)]) rfl ?_
  refine z_gI hk 2 (z_row hX0_giveBack_0 10 rfl) (ci := 0) rfl rfl wd_229 (fun x2 => ?_)
  refine z_eq hk (z_row hX0_giveBack_0 11 rfl) (tgt := 29) rfl ?_ ?_
  · refine z_mask [false, false, false] rfl ?_
    exact gsX0_giveBack_29 F n hk he σ
  · refine z_run hk hX0_giveBack_0 12 1 (pc' := 21) (lv' := [some (.inr (.inl a0)), some (.inr (.inl a1)), some (.inl (((x1 + 10) - 1) - ((x1 + 10) - 1) / 10 * 10))]) (st' := [.inr (.inl a0)]) rfl ?_
    refine z_gR hk 0 (z_row hX0_giveBack_0 13 rfl) (ci := 0) rfl rfl wd_227 (fun x3 => ?_)
    refine z_run hk hX0_giveBack_0 14 1 (pc' := 25) (lv' := [some (.inr (.inl a0)), some (.inr (.inl a1)), some (.inl (((x1 + 10) - 1) - ((x1 + 10) - 1) / 10 * 10))]) (st' := [.inl (((x1 + 10) - 1) - ((x1 + 10) - 1) / 10 * 10), .inr (.inl x3)]) rfl ?_
    refine z_aR hk (κ := 26) (by decide) (z_row hX0_giveBack_0 15 rfl) (fun x4 => ?_)
    refine z_nn hk (z_row hX0_giveBack_0 16 rfl) (tgt := 30) rfl ?_ ?_
    · refine z_run hk hX0_giveBack_0 18 2 (pc' := 32) (lv' := [some (.inr (.inl a0)), some (.inr (.inl a1)), some (.inl (((x1 + 10) - 1) - ((x1 + 10) - 1) / 10 * 10))]) (st' := [.inr (.inl a0), .inr (.inl a1)]) rfl ?_
      refine z_gR hk 0 (z_row hX0_giveBack_0 20 rfl) (ci := 0) rfl rfl wd_227 (fun x5 => ?_)
      refine z_run hk hX0_giveBack_0 21 1 (pc' := 36) (lv' := [some (.inr (.inl a0)), some (.inr (.inl a1)), some (.inl (((x1 + 10) - 1) - ((x1 + 10) - 1) / 10 * 10))]) (st' := [.inl (((x1 + 10) - 1) - ((x1 + 10) - 1) / 10 * 10), .inr (.inl x5), .inr (.inl a1)]) rfl ?_
      refine z_aR hk (κ := 26) (by decide) (z_row hX0_giveBack_0 22 rfl) (fun x6 => ?_)
      refine kX3_take F hk (z_row hX0_giveBack_0 23 rfl) wd_451 (by decide) (Nat.le_of_ble_eq_true rfl) (fun σ7 => ?_)
      refine z_run hk hX0_giveBack_0 24 2 (pc' := 42) (lv' := [some (.inr (.inl a0)), some (.inr (.inl a1)), some (.inl (((x1 + 10) - 1) - ((x1 + 10) - 1) / 10 * 10))]) (st' := [.inl (((x1 + 10) - 1) - ((x1 + 10) - 1) / 10 * 10), .inr (.inl a0)]) rfl ?_
      refine z_pI hk 1 (z_row hX0_giveBack_0 26 rfl) (ci := 0) rfl rfl wd_228 rfl rfl rfl (fun σ8 => ?_)
      refine z_run hk hX0_giveBack_0 27 2 (pc' := 47) (lv' := [some (.inr (.inl a0)), some (.inr (.inl a1)), some (.inl (((x1 + 10) - 1) - ((x1 + 10) - 1) / 10 * 10))]) (st' := [.inr (.inl a0), .inr (.inl a0)]) rfl ?_
      refine z_gI hk 2 (z_row hX0_giveBack_0 29 rfl) (ci := 0) rfl rfl wd_229 (fun x9 => ?_)
      refine z_run hk hX0_giveBack_0 30 2 (pc' := 52) (lv' := [some (.inr (.inl a0)), some (.inr (.inl a1)), some (.inl (((x1 + 10) - 1) - ((x1 + 10) - 1) / 10 * 10))]) (st' := [.inl (x9 - 1), .inr (.inl a0)]) rfl ?_
      refine z_pI hk 2 (z_row hX0_giveBack_0 32 rfl) (ci := 0) rfl rfl wd_229 rfl rfl rfl (fun σ10 => ?_)
      exact z_vret hk he (z_row hX0_giveBack_0 33 rfl) rfl
    · refine z_mask [false, false, false] rfl ?_
      exact gsX0_giveBack_29 F n hk he σ
theorem kX0_giveBack {n : Nat} {own : String} {cc : ByteArray} {nL h index : Nat} {α : Type} {fin : α → zO} {σ : zW} {pc : Nat} {lv : zLV} {st : List zV} {a0 : Nat} {a1 : Nat} {c : zW → Option α} (F : zFx E) (hk : zk E K own cc nL h) (hd : decode cc pc = .ok (.invokevirtual index, 3)) (hl : Cond.methodLink own index qX0_giveBack ∈ lw_tbl) (hh : 4 + 1 ≤ h) (hs : zcat st ≤ 8) (k : ∀ s, zG E K fin (c s) s (pc + 3) lv st) : zG E K fin (zck σ 1 a0 (zb (fX0_giveBack n a0 a1 σ) c)) σ pc lv (.inr (.inl a1) :: .inr (.inl a0) :: st) :=
  z_vV (n := 1) (y := qX0_giveBack) (As := [.inr (.inl a1)]) hk hd hl wd_1097 wd_1098 wd_8 wd_1099 ⟨by decide, by decide, by decide +kernel⟩ ⟨hh, by decide⟩ (ci := 0) rfl rfl rfl (fun o ho => mX0_giveBack F n a0 a1 σ o ho) hs k
abbrev qX0_forget : MethodName := { cls := "LotSales$History", name := "forget", desc := "()V" }
def fX0_forget (n : Nat) (a0 : Nat) (σ : zW) : Option (zW) := zpI σ 1 a0 2 0 fun σ1 => some σ1
theorem mX0_forget (F : zFx E) (n : Nat) (a0 : Nat) (σ : zW) (o : zW) (hf : fX0_forget n a0 σ = some o) : zM E qX0_forget cX0_forget 1 none 0 [.inr (.inl a0)] σ none o := by
  refine zM_of (fin := zfV) F (by decide +kernel) rfl (Nat.le_of_ble_eq_true rfl) (lv0 := [some (.inr (.inl a0))]) rfl hf rfl (fun K hk he => ?_)
  have hk : zk E K "LotSales$History" cX0_forget 1 0 := hk
  unfold fX0_forget
  refine z_run hk hX0_forget_0 0 2 (pc' := 2) (lv' := [some (.inr (.inl a0))]) (st' := [.inl 0, .inr (.inl a0)]) rfl ?_
  refine z_pI hk 2 (z_row hX0_forget_0 2 rfl) (ci := 0) rfl rfl wd_229 rfl rfl rfl (fun σ1 => ?_)
  exact z_vret hk he (z_row hX0_forget_0 3 rfl) rfl
theorem kX0_forget {n : Nat} {own : String} {cc : ByteArray} {nL h index : Nat} {α : Type} {fin : α → zO} {σ : zW} {pc : Nat} {lv : zLV} {st : List zV} {a0 : Nat} {c : zW → Option α} (F : zFx E) (hk : zk E K own cc nL h) (hd : decode cc pc = .ok (.invokevirtual index, 3)) (hl : Cond.methodLink own index qX0_forget ∈ lw_tbl) (hh : 0 + 1 ≤ h) (hs : zcat st ≤ 8) (k : ∀ s, zG E K fin (c s) s (pc + 3) lv st) : zG E K fin (zck σ 1 a0 (zb (fX0_forget n a0 σ) c)) σ pc lv (.inr (.inl a0) :: st) :=
  z_vV (n := 0) (y := qX0_forget) (As := []) hk hd hl wd_1109 wd_1110 wd_8 wd_1111 ⟨by decide, by decide, by decide +kernel⟩ ⟨hh, by decide⟩ (ci := 0) rfl rfl rfl (fun o ho => mX0_forget F n a0 σ o ho) hs k
abbrev qX1_note : MethodName := { cls := "LotSales$Ledger", name := "note", desc := "(IIII)V" }
def fX1_note (n : Nat) (a0 : Nat) (a1 : Int32) (a2 : Int32) (a3 : Int32) (a4 : Int32) (σ : zW) : Option (zW) := zgI σ 2 a0 4 fun x1 => if x1 < 250 then zgR σ 2 a0 0 fun x2 => zgI σ 2 a0 4 fun x3 => zsI σ x2 x3 a1 fun σ4 => zgR σ4 2 a0 1 fun x5 => zgI σ4 2 a0 4 fun x6 => zsI σ4 x5 x6 a2 fun σ7 => zgR σ7 2 a0 2 fun x8 => zgI σ7 2 a0 4 fun x9 => zsI σ7 x8 x9 a3 fun σ10 => zgR σ10 2 a0 3 fun x11 => zgI σ10 2 a0 4 fun x12 => zsI σ10 x11 x12 a4 fun σ13 => zgI σ13 2 a0 4 fun x14 => zpI σ13 2 a0 4 (x14 + 1) fun σ15 => some σ15 else some σ
theorem mX1_note (F : zFx E) (n : Nat) (a0 : Nat) (a1 : Int32) (a2 : Int32) (a3 : Int32) (a4 : Int32) (σ : zW) (o : zW) (hf : fX1_note n a0 a1 a2 a3 a4 σ = some o) : zM E qX1_note cX1_note 5 none 0 [.inr (.inl a0), .inl a1, .inl a2, .inl a3, .inl a4] σ none o := by
  refine zM_of (fin := zfV) F (by decide +kernel) rfl (Nat.le_of_ble_eq_true rfl) (lv0 := [some (.inr (.inl a0)), some (.inl a1), some (.inl a2), some (.inl a3), some (.inl a4)]) rfl hf rfl (fun K hk he => ?_)
  have hk : zk E K "LotSales$Ledger" cX1_note 5 0 := hk
  unfold fX1_note
  refine z_run hk hX1_note_0 0 1 (pc' := 1) (lv' := [some (.inr (.inl a0)), some (.inl a1), some (.inl a2), some (.inl a3), some (.inl a4)]) (st' := [.inr (.inl a0)]) rfl ?_
  refine z_gI hk 4 (z_row hX1_note_0 1 rfl) (ci := 1) rfl rfl wd_83 (fun x1 => ?_)
  refine z_run hk hX1_note_0 2 1 (pc' := 7) (lv' := [some (.inr (.inl a0)), some (.inl a1), some (.inl a2), some (.inl a3), some (.inl a4)]) (st' := [.inl 250, .inl x1]) rfl ?_
  refine z_clt hk (z_row hX1_note_0 3 rfl) (tgt := 11) rfl ?_ ?_
  · refine z_run hk hX1_note_0 5 1 (pc' := 12) (lv' := [some (.inr (.inl a0)), some (.inl a1), some (.inl a2), some (.inl a3), some (.inl a4)]) (st' := [.inr (.inl a0)]) rfl ?_
    refine z_gR hk 0 (z_row hX1_note_0 6 rfl) (ci := 1) rfl rfl wd_72 (fun x2 => ?_)
    refine z_run hk hX1_note_0 7 1 (pc' := 16) (lv' := [some (.inr (.inl a0)), some (.inl a1), some (.inl a2), some (.inl a3), some (.inl a4)]) (st' := [.inr (.inl a0), .inr (.inl x2)]) rfl ?_
    refine z_gI hk 4 (z_row hX1_note_0 8 rfl) (ci := 1) rfl rfl wd_83 (fun x3 => ?_)
    refine z_run hk hX1_note_0 9 1 (pc' := 20) (lv' := [some (.inr (.inl a0)), some (.inl a1), some (.inl a2), some (.inl a3), some (.inl a4)]) (st' := [.inl a1, .inl x3, .inr (.inl x2)]) rfl ?_
    refine z_sI hk (z_row hX1_note_0 10 rfl) (fun σ4 => ?_)
    refine z_run hk hX1_note_0 11 1 (pc' := 22) (lv' := [some (.inr (.inl a0)), some (.inl a1), some (.inl a2), some (.inl a3), some (.inl a4)]) (st' := [.inr (.inl a0)]) rfl ?_
    refine z_gR hk 1 (z_row hX1_note_0 12 rfl) (ci := 1) rfl rfl wd_75 (fun x5 => ?_)
    refine z_run hk hX1_note_0 13 1 (pc' := 26) (lv' := [some (.inr (.inl a0)), some (.inl a1), some (.inl a2), some (.inl a3), some (.inl a4)]) (st' := [.inr (.inl a0), .inr (.inl x5)]) rfl ?_
    refine z_gI hk 4 (z_row hX1_note_0 14 rfl) (ci := 1) rfl rfl wd_83 (fun x6 => ?_)
    refine z_run hk hX1_note_0 15 1 (pc' := 30) (lv' := [some (.inr (.inl a0)), some (.inl a1), some (.inl a2), some (.inl a3), some (.inl a4)]) (st' := [.inl a2, .inl x6, .inr (.inl x5)]) rfl ?_
    refine z_sI hk (z_row hX1_note_0 16 rfl) (fun σ7 => ?_)
    refine z_run hk hX1_note_0 17 1 (pc' := 32) (lv' := [some (.inr (.inl a0)), some (.inl a1), some (.inl a2), some (.inl a3), some (.inl a4)]) (st' := [.inr (.inl a0)]) rfl ?_
    refine z_gR hk 2 (z_row hX1_note_0 18 rfl) (ci := 1) rfl rfl wd_78 (fun x8 => ?_)
    refine z_run hk hX1_note_0 19 1 (pc' := 36) (lv' := [some (.inr (.inl a0)), some (.inl a1), some (.inl a2), some (.inl a3), some (.inl a4)]) (st' := [.inr (.inl a0), .inr (.inl x8)]) rfl ?_
    refine z_gI hk 4 (z_row hX1_note_0 20 rfl) (ci := 1) rfl rfl wd_83 (fun x9 => ?_)
    refine z_run hk hX1_note_0 21 1 (pc' := 40) (lv' := [some (.inr (.inl a0)), some (.inl a1), some (.inl a2), some (.inl a3), some (.inl a4)]) (st' := [.inl a3, .inl x9, .inr (.inl x8)]) rfl ?_
    refine z_sI hk (z_row hX1_note_0 22 rfl) (fun σ10 => ?_)
    refine z_run hk hX1_note_0 23 1 (pc' := 42) (lv' := [some (.inr (.inl a0)), some (.inl a1), some (.inl a2), some (.inl a3), some (.inl a4)]) (st' := [.inr (.inl a0)]) rfl ?_
    refine z_gR hk 3 (z_row hX1_note_0 24 rfl) (ci := 1) rfl rfl wd_80 (fun x11 => ?_)
    refine z_run hk hX1_note_0 25 1 (pc' := 46) (lv' := [some (.inr (.inl a0)), some (.inl a1), some (.inl a2), some (.inl a3), some (.inl a4)]) (st' := [.inr (.inl a0), .inr (.inl x11)]) rfl ?_
    refine z_gI hk 4 (z_row hX1_note_0 26 rfl) (ci := 1) rfl rfl wd_83 (fun x12 => ?_)
    refine z_run hk hX1_note_0 27 1 (pc' := 51) (lv' := [some (.inr (.inl a0)), some (.inl a1), some (.inl a2), some (.inl a3), some (.inl a4)]) (st' := [.inl a4, .inl x12, .inr (.inl x11)]) rfl ?_
    refine z_sI hk (z_row hX1_note_0 28 rfl) (fun σ13 => ?_)
    refine z_run hk hX1_note_0 29 2 (pc' := 54) (lv' := [some (.inr (.inl a0)), some (.inl a1), some (.inl a2), some (.inl a3), some (.inl a4)]) (st' := [.inr (.inl a0), .inr (.inl a0)]) rfl ?_
    refine z_gI hk 4 (z_row hX1_note_0 31 rfl) (ci := 1) rfl rfl wd_83 (fun x14 => ?_)
    refine z_run hk hX1_note_0 32 2 (pc' := 59) (lv' := [some (.inr (.inl a0)), some (.inl a1), some (.inl a2), some (.inl a3), some (.inl a4)]) (st' := [.inl (x14 + 1), .inr (.inl a0)]) rfl ?_
    refine z_pI hk 4 (z_row hX1_note_0 34 rfl) (ci := 1) rfl rfl wd_83 rfl rfl rfl (fun σ15 => ?_)
    exact z_vret hk he (z_row hX1_note_0 35 rfl) rfl
  · exact z_vret hk he (z_row hX1_note_0 4 rfl) rfl
theorem kX1_note {n : Nat} {own : String} {cc : ByteArray} {nL h index : Nat} {α : Type} {fin : α → zO} {σ : zW} {pc : Nat} {lv : zLV} {st : List zV} {a0 : Nat} {a1 : Int32} {a2 : Int32} {a3 : Int32} {a4 : Int32} {c : zW → Option α} (F : zFx E) (hk : zk E K own cc nL h) (hd : decode cc pc = .ok (.invokevirtual index, 3)) (hl : Cond.methodLink own index qX1_note ∈ lw_tbl) (hh : 0 + 1 ≤ h) (hs : zcat st ≤ 8) (k : ∀ s, zG E K fin (c s) s (pc + 3) lv st) : zG E K fin (zck σ 2 a0 (zb (fX1_note n a0 a1 a2 a3 a4 σ) c)) σ pc lv (.inl a4 :: .inl a3 :: .inl a2 :: .inl a1 :: .inr (.inl a0) :: st) :=
  z_vV (n := 4) (y := qX1_note) (As := [.inl a1, .inl a2, .inl a3, .inl a4]) hk hd hl wd_637 wd_638 wd_5 wd_639 ⟨by decide, by decide, by decide +kernel⟩ ⟨hh, by decide⟩ (ci := 1) rfl rfl rfl (fun o ho => mX1_note F n a0 a1 a2 a3 a4 σ o ho) hs k
abbrev qX1_countOf : MethodName := { cls := "LotSales$Ledger", name := "countOf", desc := "(I)I" }
def sX1_countOf_25 (n : Nat) (σ : zW) (r4 : Nat → Int32 → Int32 → Int32 → Option (Int32)) (v0 : Nat) (v1 : Int32) (v2 : Int32) (v3 : Int32) : Option (Int32) := r4 v0 v1 v2 (v3 + 1)
def sX1_countOf_4 (n : Nat) (σ : zW) : Nat → Nat → Int32 → Int32 → Int32 → Option (Int32)
  | 0, _, _, _, _ => none
  | k + 1, v0, v1, v2, v3 => zgI σ 2 v0 4 fun x1 => if v3 < x1 then zgR σ 2 v0 0 fun x2 => zaI σ x2 v3 fun x3 => if x3 = v1 then sX1_countOf_25 n σ (sX1_countOf_4 n σ k) v0 v1 (v2 + 1) v3 else sX1_countOf_25 n σ (sX1_countOf_4 n σ k) v0 v1 v2 v3 else some v2
def fX1_countOf (n : Nat) (a0 : Nat) (a1 : Int32) (σ : zW) : Option (Int32) := sX1_countOf_4 n σ n a0 a1 0 0
theorem gsX1_countOf_25 (F : zFx E) (n : Nat) (σ : zW) (hk : zk E K "LotSales$Ledger" cX1_countOf 4 0) (he : zend E K (some .int) "countOf") (r4 : Nat → Int32 → Int32 → Int32 → Option (Int32)) (hr4 : ∀ (v0 : Nat) (v1 : Int32) (v2 : Int32) (v3 : Int32), zG E K (zfR σ) (r4 v0 v1 v2 v3) σ 4 [some (.inr (.inl v0)), some (.inl v1), some (.inl v2), some (.inl v3)] []) (v0 : Nat) (v1 : Int32) (v2 : Int32) (v3 : Int32) : zG E K (zfR σ) (sX1_countOf_25 n σ r4 v0 v1 v2 v3) σ 25 [some (.inr (.inl v0)), some (.inl v1), some (.inl v2), some (.inl v3)] [] := by
  unfold sX1_countOf_25
  refine z_run hk hX1_countOf_0 15 1 (pc' := 28) (lv' := [some (.inr (.inl v0)), some (.inl v1), some (.inl v2), some (.inl (v3 + 1))]) (st' := []) rfl ?_
  refine z_goto hk (z_row hX1_countOf_0 16 rfl) (tgt := 4) rfl ?_
  exact hr4 v0 v1 v2 (v3 + 1)
theorem gsX1_countOf_4 (F : zFx E) (n : Nat) (σ : zW) (hk : zk E K "LotSales$Ledger" cX1_countOf 4 0) (he : zend E K (some .int) "countOf") : ∀ (k : Nat) (v0 : Nat) (v1 : Int32) (v2 : Int32) (v3 : Int32), zG E K (zfR σ) (sX1_countOf_4 n σ k v0 v1 v2 v3) σ 4 [some (.inr (.inl v0)), some (.inl v1), some (.inl v2), some (.inl v3)] [] := by
  intro k
  induction k with
  | zero =>
    intro v0 v1 v2 v3
    intro hX
    exact z_none hX
  | succ k ih =>
    intro v0 v1 v2 v3
    rw [sX1_countOf_4]
    refine z_run hk hX1_countOf_0 4 2 (pc' := 6) (lv' := [some (.inr (.inl v0)), some (.inl v1), some (.inl v2), some (.inl v3)]) (st' := [.inr (.inl v0), .inl v3]) rfl ?_
    refine z_gI hk 4 (z_row hX1_countOf_0 6 rfl) (ci := 1) rfl rfl wd_83 (fun x1 => ?_)
    refine z_cge hk (z_row hX1_countOf_0 7 rfl) (tgt := 31) rfl ?_ ?_
    · refine z_run hk hX1_countOf_0 17 1 (pc' := 32) (lv' := [some (.inr (.inl v0)), some (.inl v1), some (.inl v2), some (.inl v3)]) (st' := [.inl v2]) rfl ?_
      exact z_iret hk he (z_row hX1_countOf_0 18 rfl) rfl
    · refine z_run hk hX1_countOf_0 8 1 (pc' := 13) (lv' := [some (.inr (.inl v0)), some (.inl v1), some (.inl v2), some (.inl v3)]) (st' := [.inr (.inl v0)]) rfl ?_
      refine z_gR hk 0 (z_row hX1_countOf_0 9 rfl) (ci := 1) rfl rfl wd_72 (fun x2 => ?_)
      refine z_run hk hX1_countOf_0 10 1 (pc' := 17) (lv' := [some (.inr (.inl v0)), some (.inl v1), some (.inl v2), some (.inl v3)]) (st' := [.inl v3, .inr (.inl x2)]) rfl ?_
      refine z_aI hk (z_row hX1_countOf_0 11 rfl) (fun x3 => ?_)
      refine z_run hk hX1_countOf_0 12 1 (pc' := 19) (lv' := [some (.inr (.inl v0)), some (.inl v1), some (.inl v2), some (.inl v3)]) (st' := [.inl v1, .inl x3]) rfl ?_
      refine z_cne hk (z_row hX1_countOf_0 13 rfl) (tgt := 25) rfl ?_ ?_
      · exact gsX1_countOf_25 F n σ hk he (sX1_countOf_4 n σ k) ih v0 v1 v2 v3
      · refine z_run hk hX1_countOf_0 14 1 (pc' := 25) (lv' := [some (.inr (.inl v0)), some (.inl v1), some (.inl (v2 + 1)), some (.inl v3)]) (st' := []) rfl ?_
        exact gsX1_countOf_25 F n σ hk he (sX1_countOf_4 n σ k) ih v0 v1 (v2 + 1) v3
theorem mX1_countOf (F : zFx E) (n : Nat) (a0 : Nat) (a1 : Int32) (σ : zW) (o : Int32) (hf : fX1_countOf n a0 a1 σ = some o) : zM E qX1_countOf cX1_countOf 4 (some .int) 0 [.inr (.inl a0), .inl a1] σ (some (.int o)) σ := by
  refine zM_of (fin := (zfR σ)) F (by decide +kernel) rfl (Nat.le_of_ble_eq_true rfl) (lv0 := [some (.inr (.inl a0)), some (.inl a1), none, none]) rfl hf rfl (fun K hk he => ?_)
  have hk : zk E K "LotSales$Ledger" cX1_countOf 4 0 := hk
  unfold fX1_countOf
  refine z_run hk hX1_countOf_0 0 4 (pc' := 4) (lv' := [some (.inr (.inl a0)), some (.inl a1), some (.inl 0), some (.inl 0)]) (st' := []) rfl ?_
  exact gsX1_countOf_4 F n σ hk he n a0 a1 0 0
theorem kX1_countOf {n : Nat} {own : String} {cc : ByteArray} {nL h index : Nat} {α : Type} {fin : α → zO} {σ : zW} {pc : Nat} {lv : zLV} {st : List zV} {a0 : Nat} {a1 : Int32} {c : Int32 → Option α} (F : zFx E) (hk : zk E K own cc nL h) (hd : decode cc pc = .ok (.invokevirtual index, 3)) (hl : Cond.methodLink own index qX1_countOf ∈ lw_tbl) (hh : 0 + 1 ≤ h) (hs : zcat st ≤ 8) (k : ∀ v, zG E K fin (c v) σ (pc + 3) lv (.inl v :: st)) : zG E K fin (zck σ 2 a0 (zb (fX1_countOf n a0 a1 σ) c)) σ pc lv (.inl a1 :: .inr (.inl a0) :: st) :=
  z_vR (n := 1) (y := qX1_countOf) (As := [.inl a1]) hk hd hl wd_1016 wd_1017 wd_5 wd_1018 ⟨by decide, by decide, by decide +kernel⟩ ⟨hh, by decide⟩ (ci := 1) rfl rfl rfl (fun o ho => mX1_countOf F n a0 a1 σ o ho) hs k
abbrev qX1_pricesTo : MethodName := { cls := "LotSales$Ledger", name := "pricesTo", desc := "(I)I" }
def sX1_pricesTo_41 (n : Nat) (σ : zW) (r4 : Nat → Int32 → Int32 → Int32 → Option (Int32)) (v0 : Nat) (v1 : Int32) (v2 : Int32) (v3 : Int32) : Option (Int32) := r4 v0 v1 v2 (v3 + 1)
def sX1_pricesTo_4 (n : Nat) (σ : zW) : Nat → Nat → Int32 → Int32 → Int32 → Option (Int32)
  | 0, _, _, _, _ => none
  | k + 1, v0, v1, v2, v3 => zgI σ 2 v0 4 fun x1 => if v3 < x1 then zgR σ 2 v0 0 fun x2 => zaI σ x2 v3 fun x3 => if x3 = 3 then zgR σ 2 v0 2 fun x4 => zaI σ x4 v3 fun x5 => if x5 = v1 then zgR σ 2 v0 3 fun x6 => zaI σ x6 v3 fun x7 => sX1_pricesTo_41 n σ (sX1_pricesTo_4 n σ k) v0 v1 (v2 + x7) v3 else sX1_pricesTo_41 n σ (sX1_pricesTo_4 n σ k) v0 v1 v2 v3 else sX1_pricesTo_41 n σ (sX1_pricesTo_4 n σ k) v0 v1 v2 v3 else some v2
def fX1_pricesTo (n : Nat) (a0 : Nat) (a1 : Int32) (σ : zW) : Option (Int32) := sX1_pricesTo_4 n σ n a0 a1 0 0
theorem gsX1_pricesTo_41 (F : zFx E) (n : Nat) (σ : zW) (hk : zk E K "LotSales$Ledger" cX1_pricesTo 4 0) (he : zend E K (some .int) "pricesTo") (r4 : Nat → Int32 → Int32 → Int32 → Option (Int32)) (hr4 : ∀ (v0 : Nat) (v1 : Int32) (v2 : Int32) (v3 : Int32), zG E K (zfR σ) (r4 v0 v1 v2 v3) σ 4 [some (.inr (.inl v0)), some (.inl v1), some (.inl v2), some (.inl v3)] []) (v0 : Nat) (v1 : Int32) (v2 : Int32) (v3 : Int32) : zG E K (zfR σ) (sX1_pricesTo_41 n σ r4 v0 v1 v2 v3) σ 41 [some (.inr (.inl v0)), some (.inl v1), some (.inl v2), some (.inl v3)] [] := by
  unfold sX1_pricesTo_41
  refine z_run hk hX1_pricesTo_0 27 1 (pc' := 44) (lv' := [some (.inr (.inl v0)), some (.inl v1), some (.inl v2), some (.inl (v3 + 1))]) (st' := []) rfl ?_
  refine z_goto hk (z_row hX1_pricesTo_0 28 rfl) (tgt := 4) rfl ?_
  exact hr4 v0 v1 v2 (v3 + 1)
theorem gsX1_pricesTo_4 (F : zFx E) (n : Nat) (σ : zW) (hk : zk E K "LotSales$Ledger" cX1_pricesTo 4 0) (he : zend E K (some .int) "pricesTo") : ∀ (k : Nat) (v0 : Nat) (v1 : Int32) (v2 : Int32) (v3 : Int32), zG E K (zfR σ) (sX1_pricesTo_4 n σ k v0 v1 v2 v3) σ 4 [some (.inr (.inl v0)), some (.inl v1), some (.inl v2), some (.inl v3)] [] := by
  intro k
  induction k with
  | zero =>
    intro v0 v1 v2 v3
    intro hX
    exact z_none hX
  | succ k ih =>
    intro v0 v1 v2 v3
    rw [sX1_pricesTo_4]
    refine z_run hk hX1_pricesTo_0 4 2 (pc' := 6) (lv' := [some (.inr (.inl v0)), some (.inl v1), some (.inl v2), some (.inl v3)]) (st' := [.inr (.inl v0), .inl v3]) rfl ?_
    refine z_gI hk 4 (z_row hX1_pricesTo_0 6 rfl) (ci := 1) rfl rfl wd_83 (fun x1 => ?_)
    refine z_cge hk (z_row hX1_pricesTo_0 7 rfl) (tgt := 47) rfl ?_ ?_
    · refine z_run hk hX1_pricesTo_0 29 1 (pc' := 48) (lv' := [some (.inr (.inl v0)), some (.inl v1), some (.inl v2), some (.inl v3)]) (st' := [.inl v2]) rfl ?_
      exact z_iret hk he (z_row hX1_pricesTo_0 30 rfl) rfl
    · refine z_run hk hX1_pricesTo_0 8 1 (pc' := 13) (lv' := [some (.inr (.inl v0)), some (.inl v1), some (.inl v2), some (.inl v3)]) (st' := [.inr (.inl v0)]) rfl ?_
      refine z_gR hk 0 (z_row hX1_pricesTo_0 9 rfl) (ci := 1) rfl rfl wd_72 (fun x2 => ?_)
      refine z_run hk hX1_pricesTo_0 10 1 (pc' := 17) (lv' := [some (.inr (.inl v0)), some (.inl v1), some (.inl v2), some (.inl v3)]) (st' := [.inl v3, .inr (.inl x2)]) rfl ?_
      refine z_aI hk (z_row hX1_pricesTo_0 11 rfl) (fun x3 => ?_)
      refine z_run hk hX1_pricesTo_0 12 1 (pc' := 19) (lv' := [some (.inr (.inl v0)), some (.inl v1), some (.inl v2), some (.inl v3)]) (st' := [.inl 3, .inl x3]) rfl ?_
      refine z_cne hk (z_row hX1_pricesTo_0 13 rfl) (tgt := 41) rfl ?_ ?_
      · exact gsX1_pricesTo_41 F n σ hk he (sX1_pricesTo_4 n σ k) ih v0 v1 v2 v3
      · refine z_run hk hX1_pricesTo_0 14 1 (pc' := 23) (lv' := [some (.inr (.inl v0)), some (.inl v1), some (.inl v2), some (.inl v3)]) (st' := [.inr (.inl v0)]) rfl ?_
        refine z_gR hk 2 (z_row hX1_pricesTo_0 15 rfl) (ci := 1) rfl rfl wd_78 (fun x4 => ?_)
        refine z_run hk hX1_pricesTo_0 16 1 (pc' := 27) (lv' := [some (.inr (.inl v0)), some (.inl v1), some (.inl v2), some (.inl v3)]) (st' := [.inl v3, .inr (.inl x4)]) rfl ?_
        refine z_aI hk (z_row hX1_pricesTo_0 17 rfl) (fun x5 => ?_)
        refine z_run hk hX1_pricesTo_0 18 1 (pc' := 29) (lv' := [some (.inr (.inl v0)), some (.inl v1), some (.inl v2), some (.inl v3)]) (st' := [.inl v1, .inl x5]) rfl ?_
        refine z_cne hk (z_row hX1_pricesTo_0 19 rfl) (tgt := 41) rfl ?_ ?_
        · exact gsX1_pricesTo_41 F n σ hk he (sX1_pricesTo_4 n σ k) ih v0 v1 v2 v3
        · refine z_run hk hX1_pricesTo_0 20 2 (pc' := 34) (lv' := [some (.inr (.inl v0)), some (.inl v1), some (.inl v2), some (.inl v3)]) (st' := [.inr (.inl v0), .inl v2]) rfl ?_
          refine z_gR hk 3 (z_row hX1_pricesTo_0 22 rfl) (ci := 1) rfl rfl wd_80 (fun x6 => ?_)
          refine z_run hk hX1_pricesTo_0 23 1 (pc' := 38) (lv' := [some (.inr (.inl v0)), some (.inl v1), some (.inl v2), some (.inl v3)]) (st' := [.inl v3, .inr (.inl x6), .inl v2]) rfl ?_
          refine z_aI hk (z_row hX1_pricesTo_0 24 rfl) (fun x7 => ?_)
          refine z_run hk hX1_pricesTo_0 25 2 (pc' := 41) (lv' := [some (.inr (.inl v0)), some (.inl v1), some (.inl (v2 + x7)), some (.inl v3)]) (st' := []) rfl ?_
          exact gsX1_pricesTo_41 F n σ hk he (sX1_pricesTo_4 n σ k) ih v0 v1 (v2 + x7) v3
theorem mX1_pricesTo (F : zFx E) (n : Nat) (a0 : Nat) (a1 : Int32) (σ : zW) (o : Int32) (hf : fX1_pricesTo n a0 a1 σ = some o) : zM E qX1_pricesTo cX1_pricesTo 4 (some .int) 0 [.inr (.inl a0), .inl a1] σ (some (.int o)) σ := by
  refine zM_of (fin := (zfR σ)) F (by decide +kernel) rfl (Nat.le_of_ble_eq_true rfl) (lv0 := [some (.inr (.inl a0)), some (.inl a1), none, none]) rfl hf rfl (fun K hk he => ?_)
  have hk : zk E K "LotSales$Ledger" cX1_pricesTo 4 0 := hk
  unfold fX1_pricesTo
  refine z_run hk hX1_pricesTo_0 0 4 (pc' := 4) (lv' := [some (.inr (.inl a0)), some (.inl a1), some (.inl 0), some (.inl 0)]) (st' := []) rfl ?_
  exact gsX1_pricesTo_4 F n σ hk he n a0 a1 0 0
theorem kX1_pricesTo {n : Nat} {own : String} {cc : ByteArray} {nL h index : Nat} {α : Type} {fin : α → zO} {σ : zW} {pc : Nat} {lv : zLV} {st : List zV} {a0 : Nat} {a1 : Int32} {c : Int32 → Option α} (F : zFx E) (hk : zk E K own cc nL h) (hd : decode cc pc = .ok (.invokevirtual index, 3)) (hl : Cond.methodLink own index qX1_pricesTo ∈ lw_tbl) (hh : 0 + 1 ≤ h) (hs : zcat st ≤ 8) (k : ∀ v, zG E K fin (c v) σ (pc + 3) lv (.inl v :: st)) : zG E K fin (zck σ 2 a0 (zb (fX1_pricesTo n a0 a1 σ) c)) σ pc lv (.inl a1 :: .inr (.inl a0) :: st) :=
  z_vR (n := 1) (y := qX1_pricesTo) (As := [.inl a1]) hk hd hl wd_295 wd_296 wd_5 wd_297 ⟨by decide, by decide, by decide +kernel⟩ ⟨hh, by decide⟩ (ci := 1) rfl rfl rfl (fun o ho => mX1_pricesTo F n a0 a1 σ o ho) hs k
abbrev qX2_putOrder : MethodName := { cls := "LotSales$Lot", name := "putOrder", desc := "(III)V" }
def fX2_putOrder (n : Nat) (a0 : Nat) (a1 : Int32) (a2 : Int32) (a3 : Int32) (σ : zW) : Option (zW) := zgR σ 3 a0 0 fun x1 => zsI σ x1 a1 a2 fun σ2 => zgR σ2 3 a0 1 fun x3 => zsI σ2 x3 a1 a3 fun σ4 => some σ4
theorem mX2_putOrder (F : zFx E) (n : Nat) (a0 : Nat) (a1 : Int32) (a2 : Int32) (a3 : Int32) (σ : zW) (o : zW) (hf : fX2_putOrder n a0 a1 a2 a3 σ = some o) : zM E qX2_putOrder cX2_putOrder 4 none 0 [.inr (.inl a0), .inl a1, .inl a2, .inl a3] σ none o := by
  refine zM_of (fin := zfV) F (by decide +kernel) rfl (Nat.le_of_ble_eq_true rfl) (lv0 := [some (.inr (.inl a0)), some (.inl a1), some (.inl a2), some (.inl a3)]) rfl hf rfl (fun K hk he => ?_)
  have hk : zk E K "LotSales$Lot" cX2_putOrder 4 0 := hk
  unfold fX2_putOrder
  refine z_run hk hX2_putOrder_0 0 1 (pc' := 1) (lv' := [some (.inr (.inl a0)), some (.inl a1), some (.inl a2), some (.inl a3)]) (st' := [.inr (.inl a0)]) rfl ?_
  refine z_gR hk 0 (z_row hX2_putOrder_0 1 rfl) (ci := 2) rfl rfl wd_102 (fun x1 => ?_)
  refine z_run hk hX2_putOrder_0 2 2 (pc' := 6) (lv' := [some (.inr (.inl a0)), some (.inl a1), some (.inl a2), some (.inl a3)]) (st' := [.inl a2, .inl a1, .inr (.inl x1)]) rfl ?_
  refine z_sI hk (z_row hX2_putOrder_0 4 rfl) (fun σ2 => ?_)
  refine z_run hk hX2_putOrder_0 5 1 (pc' := 8) (lv' := [some (.inr (.inl a0)), some (.inl a1), some (.inl a2), some (.inl a3)]) (st' := [.inr (.inl a0)]) rfl ?_
  refine z_gR hk 1 (z_row hX2_putOrder_0 6 rfl) (ci := 2) rfl rfl wd_106 (fun x3 => ?_)
  refine z_run hk hX2_putOrder_0 7 2 (pc' := 13) (lv' := [some (.inr (.inl a0)), some (.inl a1), some (.inl a2), some (.inl a3)]) (st' := [.inl a3, .inl a1, .inr (.inl x3)]) rfl ?_
  refine z_sI hk (z_row hX2_putOrder_0 9 rfl) (fun σ4 => ?_)
  exact z_vret hk he (z_row hX2_putOrder_0 10 rfl) rfl
theorem kX2_putOrder {n : Nat} {own : String} {cc : ByteArray} {nL h index : Nat} {α : Type} {fin : α → zO} {σ : zW} {pc : Nat} {lv : zLV} {st : List zV} {a0 : Nat} {a1 : Int32} {a2 : Int32} {a3 : Int32} {c : zW → Option α} (F : zFx E) (hk : zk E K own cc nL h) (hd : decode cc pc = .ok (.invokevirtual index, 3)) (hl : Cond.methodLink own index qX2_putOrder ∈ lw_tbl) (hh : 0 + 1 ≤ h) (hs : zcat st ≤ 8) (k : ∀ s, zG E K fin (c s) s (pc + 3) lv st) : zG E K fin (zck σ 3 a0 (zb (fX2_putOrder n a0 a1 a2 a3 σ) c)) σ pc lv (.inl a3 :: .inl a2 :: .inl a1 :: .inr (.inl a0) :: st) :=
  z_vV (n := 3) (y := qX2_putOrder) (As := [.inl a1, .inl a2, .inl a3]) hk hd hl wd_468 wd_469 wd_6 wd_470 ⟨by decide, by decide, by decide +kernel⟩ ⟨hh, by decide⟩ (ci := 2) rfl rfl rfl (fun o ho => mX2_putOrder F n a0 a1 a2 a3 σ o ho) hs k
abbrev qX2_removeOrders : MethodName := { cls := "LotSales$Lot", name := "removeOrders", desc := "()V" }
def sX2_removeOrders_2 (n : Nat) : Nat → Nat → Int32 → zW → Option (zW)
  | 0, _, _, _ => none
  | k + 1, v0, v1, σ => if v1 < 10 then zck σ 3 v0 (zb (fX2_putOrder n v0 v1 0 0 σ) fun σ1 => sX2_removeOrders_2 n k v0 (v1 + 1) σ1) else some σ
def fX2_removeOrders (n : Nat) (a0 : Nat) (σ : zW) : Option (zW) := sX2_removeOrders_2 n n a0 0 σ
theorem gsX2_removeOrders_2 (F : zFx E) (n : Nat) (hk : zk E K "LotSales$Lot" cX2_removeOrders 2 1) (he : zend E K none "removeOrders") : ∀ (k : Nat) (v0 : Nat) (v1 : Int32) (σ : zW), zG E K zfV (sX2_removeOrders_2 n k v0 v1 σ) σ 2 [some (.inr (.inl v0)), some (.inl v1)] [] := by
  intro k
  induction k with
  | zero =>
    intro v0 v1 σ
    intro hX
    exact z_none hX
  | succ k ih =>
    intro v0 v1 σ
    rw [sX2_removeOrders_2]
    refine z_run hk hX2_removeOrders_0 2 2 (pc' := 5) (lv' := [some (.inr (.inl v0)), some (.inl v1)]) (st' := [.inl 10, .inl v1]) rfl ?_
    refine z_cge hk (z_row hX2_removeOrders_0 4 rfl) (tgt := 21) rfl ?_ ?_
    · exact z_vret hk he (z_row hX2_removeOrders_0 12 rfl) rfl
    · refine z_run hk hX2_removeOrders_0 5 4 (pc' := 12) (lv' := [some (.inr (.inl v0)), some (.inl v1)]) (st' := [.inl 0, .inl 0, .inl v1, .inr (.inl v0)]) rfl ?_
      refine kX2_putOrder F hk (z_row hX2_removeOrders_0 9 rfl) wd_467 (by decide) (Nat.le_of_ble_eq_true rfl) (fun σ1 => ?_)
      refine z_run hk hX2_removeOrders_0 10 1 (pc' := 18) (lv' := [some (.inr (.inl v0)), some (.inl (v1 + 1))]) (st' := []) rfl ?_
      refine z_goto hk (z_row hX2_removeOrders_0 11 rfl) (tgt := 2) rfl ?_
      exact ih v0 (v1 + 1) σ1
theorem mX2_removeOrders (F : zFx E) (n : Nat) (a0 : Nat) (σ : zW) (o : zW) (hf : fX2_removeOrders n a0 σ = some o) : zM E qX2_removeOrders cX2_removeOrders 2 none 1 [.inr (.inl a0)] σ none o := by
  refine zM_of (fin := zfV) F (by decide +kernel) rfl (Nat.le_of_ble_eq_true rfl) (lv0 := [some (.inr (.inl a0)), none]) rfl hf rfl (fun K hk he => ?_)
  have hk : zk E K "LotSales$Lot" cX2_removeOrders 2 1 := hk
  unfold fX2_removeOrders
  refine z_run hk hX2_removeOrders_0 0 2 (pc' := 2) (lv' := [some (.inr (.inl a0)), some (.inl 0)]) (st' := []) rfl ?_
  exact gsX2_removeOrders_2 F n hk he n a0 0 σ
theorem kX2_removeOrders {n : Nat} {own : String} {cc : ByteArray} {nL h index : Nat} {α : Type} {fin : α → zO} {σ : zW} {pc : Nat} {lv : zLV} {st : List zV} {a0 : Nat} {c : zW → Option α} (F : zFx E) (hk : zk E K own cc nL h) (hd : decode cc pc = .ok (.invokevirtual index, 3)) (hl : Cond.methodLink own index qX2_removeOrders ∈ lw_tbl) (hh : 1 + 1 ≤ h) (hs : zcat st ≤ 8) (k : ∀ s, zG E K fin (c s) s (pc + 3) lv st) : zG E K fin (zck σ 3 a0 (zb (fX2_removeOrders n a0 σ) c)) σ pc lv (.inr (.inl a0) :: st) :=
  z_vV (n := 0) (y := qX2_removeOrders) (As := []) hk hd hl wd_464 wd_465 wd_6 wd_466 ⟨by decide, by decide, by decide +kernel⟩ ⟨hh, by decide⟩ (ci := 2) rfl rfl rfl (fun o ho => mX2_removeOrders F n a0 σ o ho) hs k
abbrev qX2_putBid : MethodName := { cls := "LotSales$Lot", name := "putBid", desc := "(III)V" }
def fX2_putBid (n : Nat) (a0 : Nat) (a1 : Int32) (a2 : Int32) (a3 : Int32) (σ : zW) : Option (zW) := zgR σ 3 a0 2 fun x1 => zsI σ x1 a1 a2 fun σ2 => zgR σ2 3 a0 3 fun x3 => zsI σ2 x3 a1 a3 fun σ4 => some σ4
theorem mX2_putBid (F : zFx E) (n : Nat) (a0 : Nat) (a1 : Int32) (a2 : Int32) (a3 : Int32) (σ : zW) (o : zW) (hf : fX2_putBid n a0 a1 a2 a3 σ = some o) : zM E qX2_putBid cX2_putBid 4 none 0 [.inr (.inl a0), .inl a1, .inl a2, .inl a3] σ none o := by
  refine zM_of (fin := zfV) F (by decide +kernel) rfl (Nat.le_of_ble_eq_true rfl) (lv0 := [some (.inr (.inl a0)), some (.inl a1), some (.inl a2), some (.inl a3)]) rfl hf rfl (fun K hk he => ?_)
  have hk : zk E K "LotSales$Lot" cX2_putBid 4 0 := hk
  unfold fX2_putBid
  refine z_run hk hX2_putBid_0 0 1 (pc' := 1) (lv' := [some (.inr (.inl a0)), some (.inl a1), some (.inl a2), some (.inl a3)]) (st' := [.inr (.inl a0)]) rfl ?_
  refine z_gR hk 2 (z_row hX2_putBid_0 1 rfl) (ci := 2) rfl rfl wd_108 (fun x1 => ?_)
  refine z_run hk hX2_putBid_0 2 2 (pc' := 6) (lv' := [some (.inr (.inl a0)), some (.inl a1), some (.inl a2), some (.inl a3)]) (st' := [.inl a2, .inl a1, .inr (.inl x1)]) rfl ?_
  refine z_sI hk (z_row hX2_putBid_0 4 rfl) (fun σ2 => ?_)
  refine z_run hk hX2_putBid_0 5 1 (pc' := 8) (lv' := [some (.inr (.inl a0)), some (.inl a1), some (.inl a2), some (.inl a3)]) (st' := [.inr (.inl a0)]) rfl ?_
  refine z_gR hk 3 (z_row hX2_putBid_0 6 rfl) (ci := 2) rfl rfl wd_110 (fun x3 => ?_)
  refine z_run hk hX2_putBid_0 7 2 (pc' := 13) (lv' := [some (.inr (.inl a0)), some (.inl a1), some (.inl a2), some (.inl a3)]) (st' := [.inl a3, .inl a1, .inr (.inl x3)]) rfl ?_
  refine z_sI hk (z_row hX2_putBid_0 9 rfl) (fun σ4 => ?_)
  exact z_vret hk he (z_row hX2_putBid_0 10 rfl) rfl
theorem kX2_putBid {n : Nat} {own : String} {cc : ByteArray} {nL h index : Nat} {α : Type} {fin : α → zO} {σ : zW} {pc : Nat} {lv : zLV} {st : List zV} {a0 : Nat} {a1 : Int32} {a2 : Int32} {a3 : Int32} {c : zW → Option α} (F : zFx E) (hk : zk E K own cc nL h) (hd : decode cc pc = .ok (.invokevirtual index, 3)) (hl : Cond.methodLink own index qX2_putBid ∈ lw_tbl) (hh : 0 + 1 ≤ h) (hs : zcat st ≤ 8) (k : ∀ s, zG E K fin (c s) s (pc + 3) lv st) : zG E K fin (zck σ 3 a0 (zb (fX2_putBid n a0 a1 a2 a3 σ) c)) σ pc lv (.inl a3 :: .inl a2 :: .inl a1 :: .inr (.inl a0) :: st) :=
  z_vV (n := 3) (y := qX2_putBid) (As := [.inl a1, .inl a2, .inl a3]) hk hd hl wd_476 wd_477 wd_6 wd_478 ⟨by decide, by decide, by decide +kernel⟩ ⟨hh, by decide⟩ (ci := 2) rfl rfl rfl (fun o ho => mX2_putBid F n a0 a1 a2 a3 σ o ho) hs k
abbrev qX2_removeBids : MethodName := { cls := "LotSales$Lot", name := "removeBids", desc := "()V" }
def sX2_removeBids_2 (n : Nat) : Nat → Nat → Int32 → zW → Option (zW)
  | 0, _, _, _ => none
  | k + 1, v0, v1, σ => if v1 < 10 then zck σ 3 v0 (zb (fX2_putBid n v0 v1 0 0 σ) fun σ1 => sX2_removeBids_2 n k v0 (v1 + 1) σ1) else some σ
def fX2_removeBids (n : Nat) (a0 : Nat) (σ : zW) : Option (zW) := sX2_removeBids_2 n n a0 0 σ
theorem gsX2_removeBids_2 (F : zFx E) (n : Nat) (hk : zk E K "LotSales$Lot" cX2_removeBids 2 1) (he : zend E K none "removeBids") : ∀ (k : Nat) (v0 : Nat) (v1 : Int32) (σ : zW), zG E K zfV (sX2_removeBids_2 n k v0 v1 σ) σ 2 [some (.inr (.inl v0)), some (.inl v1)] [] := by
  intro k
  induction k with
  | zero =>
    intro v0 v1 σ
    intro hX
    exact z_none hX
  | succ k ih =>
    intro v0 v1 σ
    rw [sX2_removeBids_2]
    refine z_run hk hX2_removeBids_0 2 2 (pc' := 5) (lv' := [some (.inr (.inl v0)), some (.inl v1)]) (st' := [.inl 10, .inl v1]) rfl ?_
    refine z_cge hk (z_row hX2_removeBids_0 4 rfl) (tgt := 21) rfl ?_ ?_
    · exact z_vret hk he (z_row hX2_removeBids_0 12 rfl) rfl
    · refine z_run hk hX2_removeBids_0 5 4 (pc' := 12) (lv' := [some (.inr (.inl v0)), some (.inl v1)]) (st' := [.inl 0, .inl 0, .inl v1, .inr (.inl v0)]) rfl ?_
      refine kX2_putBid F hk (z_row hX2_removeBids_0 9 rfl) wd_475 (by decide) (Nat.le_of_ble_eq_true rfl) (fun σ1 => ?_)
      refine z_run hk hX2_removeBids_0 10 1 (pc' := 18) (lv' := [some (.inr (.inl v0)), some (.inl (v1 + 1))]) (st' := []) rfl ?_
      refine z_goto hk (z_row hX2_removeBids_0 11 rfl) (tgt := 2) rfl ?_
      exact ih v0 (v1 + 1) σ1
theorem mX2_removeBids (F : zFx E) (n : Nat) (a0 : Nat) (σ : zW) (o : zW) (hf : fX2_removeBids n a0 σ = some o) : zM E qX2_removeBids cX2_removeBids 2 none 1 [.inr (.inl a0)] σ none o := by
  refine zM_of (fin := zfV) F (by decide +kernel) rfl (Nat.le_of_ble_eq_true rfl) (lv0 := [some (.inr (.inl a0)), none]) rfl hf rfl (fun K hk he => ?_)
  have hk : zk E K "LotSales$Lot" cX2_removeBids 2 1 := hk
  unfold fX2_removeBids
  refine z_run hk hX2_removeBids_0 0 2 (pc' := 2) (lv' := [some (.inr (.inl a0)), some (.inl 0)]) (st' := []) rfl ?_
  exact gsX2_removeBids_2 F n hk he n a0 0 σ
theorem kX2_removeBids {n : Nat} {own : String} {cc : ByteArray} {nL h index : Nat} {α : Type} {fin : α → zO} {σ : zW} {pc : Nat} {lv : zLV} {st : List zV} {a0 : Nat} {c : zW → Option α} (F : zFx E) (hk : zk E K own cc nL h) (hd : decode cc pc = .ok (.invokevirtual index, 3)) (hl : Cond.methodLink own index qX2_removeBids ∈ lw_tbl) (hh : 1 + 1 ≤ h) (hs : zcat st ≤ 8) (k : ∀ s, zG E K fin (c s) s (pc + 3) lv st) : zG E K fin (zck σ 3 a0 (zb (fX2_removeBids n a0 σ) c)) σ pc lv (.inr (.inl a0) :: st) :=
  z_vV (n := 0) (y := qX2_removeBids) (As := []) hk hd hl wd_472 wd_473 wd_6 wd_474 ⟨by decide, by decide, by decide +kernel⟩ ⟨hh, by decide⟩ (ci := 2) rfl rfl rfl (fun o ho => mX2_removeBids F n a0 σ o ho) hs k
abbrev qX2_begin : MethodName := { cls := "LotSales$Lot", name := "begin", desc := "(III)V" }
def fX2_begin (n : Nat) (a0 : Nat) (a1 : Int32) (a2 : Int32) (a3 : Int32) (σ : zW) : Option (zW) := zpI σ 3 a0 4 0 fun σ1 => zpI σ1 3 a0 5 a1 fun σ2 => zpI σ2 3 a0 6 a2 fun σ3 => zpI σ3 3 a0 7 a3 fun σ4 => zpI σ4 3 a0 8 0 fun σ5 => zpI σ5 3 a0 9 (-1) fun σ6 => zpI σ6 3 a0 10 (-1) fun σ7 => zpI σ7 3 a0 11 0 fun σ8 => zck σ8 3 a0 (zb (fX2_removeOrders n a0 σ8) fun σ9 => zck σ9 3 a0 (zb (fX2_removeBids n a0 σ9) fun σ10 => some σ10))
theorem mX2_begin (F : zFx E) (n : Nat) (a0 : Nat) (a1 : Int32) (a2 : Int32) (a3 : Int32) (σ : zW) (o : zW) (hf : fX2_begin n a0 a1 a2 a3 σ = some o) : zM E qX2_begin cX2_begin 4 none 2 [.inr (.inl a0), .inl a1, .inl a2, .inl a3] σ none o := by
  refine zM_of (fin := zfV) F (by decide +kernel) rfl (Nat.le_of_ble_eq_true rfl) (lv0 := [some (.inr (.inl a0)), some (.inl a1), some (.inl a2), some (.inl a3)]) rfl hf rfl (fun K hk he => ?_)
  have hk : zk E K "LotSales$Lot" cX2_begin 4 2 := hk
  unfold fX2_begin
  refine z_run hk hX2_begin_0 0 2 (pc' := 2) (lv' := [some (.inr (.inl a0)), some (.inl a1), some (.inl a2), some (.inl a3)]) (st' := [.inl 0, .inr (.inl a0)]) rfl ?_
  refine z_pI hk 4 (z_row hX2_begin_0 2 rfl) (ci := 2) rfl rfl wd_112 rfl rfl rfl (fun σ1 => ?_)
  refine z_run hk hX2_begin_0 3 2 (pc' := 7) (lv' := [some (.inr (.inl a0)), some (.inl a1), some (.inl a2), some (.inl a3)]) (st' := [.inl a1, .inr (.inl a0)]) rfl ?_
  refine z_pI hk 5 (z_row hX2_begin_0 5 rfl) (ci := 2) rfl rfl wd_115 rfl rfl rfl (fun σ2 => ?_)
  refine z_run hk hX2_begin_0 6 2 (pc' := 12) (lv' := [some (.inr (.inl a0)), some (.inl a1), some (.inl a2), some (.inl a3)]) (st' := [.inl a2, .inr (.inl a0)]) rfl ?_
  refine z_pI hk 6 (z_row hX2_begin_0 8 rfl) (ci := 2) rfl rfl wd_118 rfl rfl rfl (fun σ3 => ?_)
  refine z_run hk hX2_begin_0 9 2 (pc' := 17) (lv' := [some (.inr (.inl a0)), some (.inl a1), some (.inl a2), some (.inl a3)]) (st' := [.inl a3, .inr (.inl a0)]) rfl ?_
  refine z_pI hk 7 (z_row hX2_begin_0 11 rfl) (ci := 2) rfl rfl wd_121 rfl rfl rfl (fun σ4 => ?_)
  refine z_run hk hX2_begin_0 12 2 (pc' := 22) (lv' := [some (.inr (.inl a0)), some (.inl a1), some (.inl a2), some (.inl a3)]) (st' := [.inl 0, .inr (.inl a0)]) rfl ?_
  refine z_pI hk 8 (z_row hX2_begin_0 14 rfl) (ci := 2) rfl rfl wd_125 rfl rfl rfl (fun σ5 => ?_)
  refine z_run hk hX2_begin_0 15 2 (pc' := 27) (lv' := [some (.inr (.inl a0)), some (.inl a1), some (.inl a2), some (.inl a3)]) (st' := [.inl (-1), .inr (.inl a0)]) rfl ?_
  refine z_pI hk 9 (z_row hX2_begin_0 17 rfl) (ci := 2) rfl rfl wd_127 rfl rfl rfl (fun σ6 => ?_)
  refine z_run hk hX2_begin_0 18 2 (pc' := 32) (lv' := [some (.inr (.inl a0)), some (.inl a1), some (.inl a2), some (.inl a3)]) (st' := [.inl (-1), .inr (.inl a0)]) rfl ?_
  refine z_pI hk 10 (z_row hX2_begin_0 20 rfl) (ci := 2) rfl rfl wd_129 rfl rfl rfl (fun σ7 => ?_)
  refine z_run hk hX2_begin_0 21 2 (pc' := 37) (lv' := [some (.inr (.inl a0)), some (.inl a1), some (.inl a2), some (.inl a3)]) (st' := [.inl 0, .inr (.inl a0)]) rfl ?_
  refine z_pI hk 11 (z_row hX2_begin_0 23 rfl) (ci := 2) rfl rfl wd_132 rfl rfl rfl (fun σ8 => ?_)
  refine z_run hk hX2_begin_0 24 1 (pc' := 41) (lv' := [some (.inr (.inl a0)), some (.inl a1), some (.inl a2), some (.inl a3)]) (st' := [.inr (.inl a0)]) rfl ?_
  refine kX2_removeOrders F hk (z_row hX2_begin_0 25 rfl) wd_463 (by decide) (Nat.le_of_ble_eq_true rfl) (fun σ9 => ?_)
  refine z_run hk hX2_begin_0 26 1 (pc' := 45) (lv' := [some (.inr (.inl a0)), some (.inl a1), some (.inl a2), some (.inl a3)]) (st' := [.inr (.inl a0)]) rfl ?_
  refine kX2_removeBids F hk (z_row hX2_begin_0 27 rfl) wd_471 (by decide) (Nat.le_of_ble_eq_true rfl) (fun σ10 => ?_)
  exact z_vret hk he (z_row hX2_begin_0 28 rfl) rfl
theorem kX2_begin {n : Nat} {own : String} {cc : ByteArray} {nL h index : Nat} {α : Type} {fin : α → zO} {σ : zW} {pc : Nat} {lv : zLV} {st : List zV} {a0 : Nat} {a1 : Int32} {a2 : Int32} {a3 : Int32} {c : zW → Option α} (F : zFx E) (hk : zk E K own cc nL h) (hd : decode cc pc = .ok (.invokevirtual index, 3)) (hl : Cond.methodLink own index qX2_begin ∈ lw_tbl) (hh : 2 + 1 ≤ h) (hs : zcat st ≤ 8) (k : ∀ s, zG E K fin (c s) s (pc + 3) lv st) : zG E K fin (zck σ 3 a0 (zb (fX2_begin n a0 a1 a2 a3 σ) c)) σ pc lv (.inl a3 :: .inl a2 :: .inl a1 :: .inr (.inl a0) :: st) :=
  z_vV (n := 3) (y := qX2_begin) (As := [.inl a1, .inl a2, .inl a3]) hk hd hl wd_460 wd_461 wd_6 wd_462 ⟨by decide, by decide, by decide +kernel⟩ ⟨hh, by decide⟩ (ci := 2) rfl rfl rfl (fun o ho => mX2_begin F n a0 a1 a2 a3 σ o ho) hs k
abbrev qX2_orderCount : MethodName := { cls := "LotSales$Lot", name := "orderCount", desc := "()I" }
def sX2_orderCount_22 (n : Nat) (σ : zW) (r4 : Nat → Int32 → Int32 → Option (Int32)) (v0 : Nat) (v1 : Int32) (v2 : Int32) : Option (Int32) := r4 v0 v1 (v2 + 1)
def sX2_orderCount_4 (n : Nat) (σ : zW) : Nat → Nat → Int32 → Int32 → Option (Int32)
  | 0, _, _, _ => none
  | k + 1, v0, v1, v2 => if v2 < 10 then zgR σ 3 v0 0 fun x1 => zaI σ x1 v2 fun x2 => if 0 < x2 then sX2_orderCount_22 n σ (sX2_orderCount_4 n σ k) v0 (v1 + 1) v2 else sX2_orderCount_22 n σ (sX2_orderCount_4 n σ k) v0 v1 v2 else some v1
def fX2_orderCount (n : Nat) (a0 : Nat) (σ : zW) : Option (Int32) := sX2_orderCount_4 n σ n a0 0 0
theorem gsX2_orderCount_22 (F : zFx E) (n : Nat) (σ : zW) (hk : zk E K "LotSales$Lot" cX2_orderCount 3 0) (he : zend E K (some .int) "orderCount") (r4 : Nat → Int32 → Int32 → Option (Int32)) (hr4 : ∀ (v0 : Nat) (v1 : Int32) (v2 : Int32), zG E K (zfR σ) (r4 v0 v1 v2) σ 4 [some (.inr (.inl v0)), some (.inl v1), some (.inl v2)] []) (v0 : Nat) (v1 : Int32) (v2 : Int32) : zG E K (zfR σ) (sX2_orderCount_22 n σ r4 v0 v1 v2) σ 22 [some (.inr (.inl v0)), some (.inl v1), some (.inl v2)] [] := by
  unfold sX2_orderCount_22
  refine z_run hk hX2_orderCount_0 13 1 (pc' := 25) (lv' := [some (.inr (.inl v0)), some (.inl v1), some (.inl (v2 + 1))]) (st' := []) rfl ?_
  refine z_goto hk (z_row hX2_orderCount_0 14 rfl) (tgt := 4) rfl ?_
  exact hr4 v0 v1 (v2 + 1)
theorem gsX2_orderCount_4 (F : zFx E) (n : Nat) (σ : zW) (hk : zk E K "LotSales$Lot" cX2_orderCount 3 0) (he : zend E K (some .int) "orderCount") : ∀ (k : Nat) (v0 : Nat) (v1 : Int32) (v2 : Int32), zG E K (zfR σ) (sX2_orderCount_4 n σ k v0 v1 v2) σ 4 [some (.inr (.inl v0)), some (.inl v1), some (.inl v2)] [] := by
  intro k
  induction k with
  | zero =>
    intro v0 v1 v2
    intro hX
    exact z_none hX
  | succ k ih =>
    intro v0 v1 v2
    rw [sX2_orderCount_4]
    refine z_run hk hX2_orderCount_0 4 2 (pc' := 7) (lv' := [some (.inr (.inl v0)), some (.inl v1), some (.inl v2)]) (st' := [.inl 10, .inl v2]) rfl ?_
    refine z_cge hk (z_row hX2_orderCount_0 6 rfl) (tgt := 28) rfl ?_ ?_
    · refine z_run hk hX2_orderCount_0 15 1 (pc' := 29) (lv' := [some (.inr (.inl v0)), some (.inl v1), some (.inl v2)]) (st' := [.inl v1]) rfl ?_
      exact z_iret hk he (z_row hX2_orderCount_0 16 rfl) rfl
    · refine z_run hk hX2_orderCount_0 7 1 (pc' := 11) (lv' := [some (.inr (.inl v0)), some (.inl v1), some (.inl v2)]) (st' := [.inr (.inl v0)]) rfl ?_
      refine z_gR hk 0 (z_row hX2_orderCount_0 8 rfl) (ci := 2) rfl rfl wd_102 (fun x1 => ?_)
      refine z_run hk hX2_orderCount_0 9 1 (pc' := 15) (lv' := [some (.inr (.inl v0)), some (.inl v1), some (.inl v2)]) (st' := [.inl v2, .inr (.inl x1)]) rfl ?_
      refine z_aI hk (z_row hX2_orderCount_0 10 rfl) (fun x2 => ?_)
      refine z_le hk (z_row hX2_orderCount_0 11 rfl) (tgt := 22) rfl ?_ ?_
      · exact gsX2_orderCount_22 F n σ hk he (sX2_orderCount_4 n σ k) ih v0 v1 v2
      · refine z_run hk hX2_orderCount_0 12 1 (pc' := 22) (lv' := [some (.inr (.inl v0)), some (.inl (v1 + 1)), some (.inl v2)]) (st' := []) rfl ?_
        exact gsX2_orderCount_22 F n σ hk he (sX2_orderCount_4 n σ k) ih v0 (v1 + 1) v2
theorem mX2_orderCount (F : zFx E) (n : Nat) (a0 : Nat) (σ : zW) (o : Int32) (hf : fX2_orderCount n a0 σ = some o) : zM E qX2_orderCount cX2_orderCount 3 (some .int) 0 [.inr (.inl a0)] σ (some (.int o)) σ := by
  refine zM_of (fin := (zfR σ)) F (by decide +kernel) rfl (Nat.le_of_ble_eq_true rfl) (lv0 := [some (.inr (.inl a0)), none, none]) rfl hf rfl (fun K hk he => ?_)
  have hk : zk E K "LotSales$Lot" cX2_orderCount 3 0 := hk
  unfold fX2_orderCount
  refine z_run hk hX2_orderCount_0 0 4 (pc' := 4) (lv' := [some (.inr (.inl a0)), some (.inl 0), some (.inl 0)]) (st' := []) rfl ?_
  exact gsX2_orderCount_4 F n σ hk he n a0 0 0
theorem kX2_orderCount {n : Nat} {own : String} {cc : ByteArray} {nL h index : Nat} {α : Type} {fin : α → zO} {σ : zW} {pc : Nat} {lv : zLV} {st : List zV} {a0 : Nat} {c : Int32 → Option α} (F : zFx E) (hk : zk E K own cc nL h) (hd : decode cc pc = .ok (.invokevirtual index, 3)) (hl : Cond.methodLink own index qX2_orderCount ∈ lw_tbl) (hh : 0 + 1 ≤ h) (hs : zcat st ≤ 8) (k : ∀ v, zG E K fin (c v) σ (pc + 3) lv (.inl v :: st)) : zG E K fin (zck σ 3 a0 (zb (fX2_orderCount n a0 σ) c)) σ pc lv (.inr (.inl a0) :: st) :=
  z_vR (n := 0) (y := qX2_orderCount) (As := []) hk hd hl wd_628 wd_629 wd_6 wd_630 ⟨by decide, by decide, by decide +kernel⟩ ⟨hh, by decide⟩ (ci := 2) rfl rfl rfl (fun o ho => mX2_orderCount F n a0 σ o ho) hs k
abbrev qX2_sell : MethodName := { cls := "LotSales$Lot", name := "sell", desc := "(II)V" }
def fX2_sell (n : Nat) (a0 : Nat) (a1 : Int32) (a2 : Int32) (σ : zW) : Option (zW) := zpI σ 3 a0 4 2 fun σ1 => zpI σ1 3 a0 9 0 fun σ2 => zpI σ2 3 a0 10 a1 fun σ3 => zpI σ3 3 a0 11 a2 fun σ4 => some σ4
theorem mX2_sell (F : zFx E) (n : Nat) (a0 : Nat) (a1 : Int32) (a2 : Int32) (σ : zW) (o : zW) (hf : fX2_sell n a0 a1 a2 σ = some o) : zM E qX2_sell cX2_sell 3 none 0 [.inr (.inl a0), .inl a1, .inl a2] σ none o := by
  refine zM_of (fin := zfV) F (by decide +kernel) rfl (Nat.le_of_ble_eq_true rfl) (lv0 := [some (.inr (.inl a0)), some (.inl a1), some (.inl a2)]) rfl hf rfl (fun K hk he => ?_)
  have hk : zk E K "LotSales$Lot" cX2_sell 3 0 := hk
  unfold fX2_sell
  refine z_run hk hX2_sell_0 0 2 (pc' := 2) (lv' := [some (.inr (.inl a0)), some (.inl a1), some (.inl a2)]) (st' := [.inl 2, .inr (.inl a0)]) rfl ?_
  refine z_pI hk 4 (z_row hX2_sell_0 2 rfl) (ci := 2) rfl rfl wd_112 rfl rfl rfl (fun σ1 => ?_)
  refine z_run hk hX2_sell_0 3 2 (pc' := 7) (lv' := [some (.inr (.inl a0)), some (.inl a1), some (.inl a2)]) (st' := [.inl 0, .inr (.inl a0)]) rfl ?_
  refine z_pI hk 9 (z_row hX2_sell_0 5 rfl) (ci := 2) rfl rfl wd_127 rfl rfl rfl (fun σ2 => ?_)
  refine z_run hk hX2_sell_0 6 2 (pc' := 12) (lv' := [some (.inr (.inl a0)), some (.inl a1), some (.inl a2)]) (st' := [.inl a1, .inr (.inl a0)]) rfl ?_
  refine z_pI hk 10 (z_row hX2_sell_0 8 rfl) (ci := 2) rfl rfl wd_129 rfl rfl rfl (fun σ3 => ?_)
  refine z_run hk hX2_sell_0 9 2 (pc' := 17) (lv' := [some (.inr (.inl a0)), some (.inl a1), some (.inl a2)]) (st' := [.inl a2, .inr (.inl a0)]) rfl ?_
  refine z_pI hk 11 (z_row hX2_sell_0 11 rfl) (ci := 2) rfl rfl wd_132 rfl rfl rfl (fun σ4 => ?_)
  exact z_vret hk he (z_row hX2_sell_0 12 rfl) rfl
theorem kX2_sell {n : Nat} {own : String} {cc : ByteArray} {nL h index : Nat} {α : Type} {fin : α → zO} {σ : zW} {pc : Nat} {lv : zLV} {st : List zV} {a0 : Nat} {a1 : Int32} {a2 : Int32} {c : zW → Option α} (F : zFx E) (hk : zk E K own cc nL h) (hd : decode cc pc = .ok (.invokevirtual index, 3)) (hl : Cond.methodLink own index qX2_sell ∈ lw_tbl) (hh : 0 + 1 ≤ h) (hs : zcat st ≤ 8) (k : ∀ s, zG E K fin (c s) s (pc + 3) lv st) : zG E K fin (zck σ 3 a0 (zb (fX2_sell n a0 a1 a2 σ) c)) σ pc lv (.inl a2 :: .inl a1 :: .inr (.inl a0) :: st) :=
  z_vV (n := 2) (y := qX2_sell) (As := [.inl a1, .inl a2]) hk hd hl wd_846 wd_847 wd_6 wd_848 ⟨by decide, by decide, by decide +kernel⟩ ⟨hh, by decide⟩ (ci := 2) rfl rfl rfl (fun o ho => mX2_sell F n a0 a1 a2 σ o ho) hs k
abbrev qX2_quantityOfPart : MethodName := { cls := "LotSales$Lot", name := "quantityOfPart", desc := "(II)I" }
def sX2_quantityOfPart_27 (n : Nat) (σ : zW) (y0 : Int32) (y1 : Int32) : Option (Int32) := some (y0 + y1)
def fX2_quantityOfPart (n : Nat) (a0 : Nat) (a1 : Int32) (a2 : Int32) (σ : zW) : Option (Int32) := if 0 < a2 then zgI σ 3 a0 6 fun x1 => zdv a2 (zgI σ 3 a0 6 fun x2 => zdv a2 (if a1 < (x2 - x2 / a2 * a2) then sX2_quantityOfPart_27 n σ (x1 / a2) 1 else sX2_quantityOfPart_27 n σ (x1 / a2) 0)) else some 0
theorem gsX2_quantityOfPart_27 (F : zFx E) (n : Nat) (σ : zW) (hk : zk E K "LotSales$Lot" cX2_quantityOfPart 3 0) (he : zend E K (some .int) "quantityOfPart") (y0 : Int32) (y1 : Int32) : zG E K (zfR σ) (sX2_quantityOfPart_27 n σ y0 y1) σ 27 [none, none, none] [.inl y1, .inl y0] := by
  unfold sX2_quantityOfPart_27
  refine z_run hk hX2_quantityOfPart_0 17 1 (pc' := 28) (lv' := [none, none, none]) (st' := [.inl (y0 + y1)]) rfl ?_
  exact z_iret hk he (z_row hX2_quantityOfPart_0 18 rfl) rfl
theorem mX2_quantityOfPart (F : zFx E) (n : Nat) (a0 : Nat) (a1 : Int32) (a2 : Int32) (σ : zW) (o : Int32) (hf : fX2_quantityOfPart n a0 a1 a2 σ = some o) : zM E qX2_quantityOfPart cX2_quantityOfPart 3 (some .int) 0 [.inr (.inl a0), .inl a1, .inl a2] σ (some (.int o)) σ := by
  refine zM_of (fin := (zfR σ)) F (by decide +kernel) rfl (Nat.le_of_ble_eq_true rfl) (lv0 := [some (.inr (.inl a0)), some (.inl a1), some (.inl a2)]) rfl hf rfl (fun K hk he => ?_)
  have hk : zk E K "LotSales$Lot" cX2_quantityOfPart 3 0 := hk
  unfold fX2_quantityOfPart
  refine z_run hk hX2_quantityOfPart_0 0 1 (pc' := 1) (lv' := [some (.inr (.inl a0)), some (.inl a1), some (.inl a2)]) (st' := [.inl a2]) rfl ?_
  refine z_gt hk (z_row hX2_quantityOfPart_0 1 rfl) (tgt := 6) rfl ?_ ?_
  · refine z_run hk hX2_quantityOfPart_0 4 1 (pc' := 7) (lv' := [some (.inr (.inl a0)), some (.inl a1), some (.inl a2)]) (st' := [.inr (.inl a0)]) rfl ?_
    refine z_gI hk 6 (z_row hX2_quantityOfPart_0 5 rfl) (ci := 2) rfl rfl wd_118 (fun x1 => ?_)
    refine z_run hk hX2_quantityOfPart_0 6 1 (pc' := 11) (lv' := [some (.inr (.inl a0)), some (.inl a1), some (.inl a2)]) (st' := [.inl a2, .inl x1]) rfl ?_
    refine z_idiv hk (z_row hX2_quantityOfPart_0 7 rfl) ?_
    refine z_run hk hX2_quantityOfPart_0 8 2 (pc' := 14) (lv' := [some (.inr (.inl a0)), some (.inl a1), some (.inl a2)]) (st' := [.inr (.inl a0), .inl a1, .inl (x1 / a2)]) rfl ?_
    refine z_gI hk 6 (z_row hX2_quantityOfPart_0 10 rfl) (ci := 2) rfl rfl wd_118 (fun x2 => ?_)
    refine z_run hk hX2_quantityOfPart_0 11 1 (pc' := 18) (lv' := [some (.inr (.inl a0)), some (.inl a1), some (.inl a2)]) (st' := [.inl a2, .inl x2, .inl a1, .inl (x1 / a2)]) rfl ?_
    refine z_irem hk (z_row hX2_quantityOfPart_0 12 rfl) ?_
    refine z_cge hk (z_row hX2_quantityOfPart_0 13 rfl) (tgt := 26) rfl ?_ ?_
    · refine z_run hk hX2_quantityOfPart_0 16 1 (pc' := 27) (lv' := [some (.inr (.inl a0)), some (.inl a1), some (.inl a2)]) (st' := [.inl 0, .inl (x1 / a2)]) rfl ?_
      refine z_mask [false, false, false] rfl ?_
      exact gsX2_quantityOfPart_27 F n σ hk he (x1 / a2) 0
    · refine z_run hk hX2_quantityOfPart_0 14 1 (pc' := 23) (lv' := [some (.inr (.inl a0)), some (.inl a1), some (.inl a2)]) (st' := [.inl 1, .inl (x1 / a2)]) rfl ?_
      refine z_goto hk (z_row hX2_quantityOfPart_0 15 rfl) (tgt := 27) rfl ?_
      refine z_mask [false, false, false] rfl ?_
      exact gsX2_quantityOfPart_27 F n σ hk he (x1 / a2) 1
  · refine z_run hk hX2_quantityOfPart_0 2 1 (pc' := 5) (lv' := [some (.inr (.inl a0)), some (.inl a1), some (.inl a2)]) (st' := [.inl 0]) rfl ?_
    exact z_iret hk he (z_row hX2_quantityOfPart_0 3 rfl) rfl
theorem kX2_quantityOfPart {n : Nat} {own : String} {cc : ByteArray} {nL h index : Nat} {α : Type} {fin : α → zO} {σ : zW} {pc : Nat} {lv : zLV} {st : List zV} {a0 : Nat} {a1 : Int32} {a2 : Int32} {c : Int32 → Option α} (F : zFx E) (hk : zk E K own cc nL h) (hd : decode cc pc = .ok (.invokevirtual index, 3)) (hl : Cond.methodLink own index qX2_quantityOfPart ∈ lw_tbl) (hh : 0 + 1 ≤ h) (hs : zcat st ≤ 8) (k : ∀ v, zG E K fin (c v) σ (pc + 3) lv (.inl v :: st)) : zG E K fin (zck σ 3 a0 (zb (fX2_quantityOfPart n a0 a1 a2 σ) c)) σ pc lv (.inl a2 :: .inl a1 :: .inr (.inl a0) :: st) :=
  z_vR (n := 2) (y := qX2_quantityOfPart) (As := [.inl a1, .inl a2]) hk hd hl wd_879 wd_880 wd_6 wd_881 ⟨by decide, by decide, by decide +kernel⟩ ⟨hh, by decide⟩ (ci := 2) rfl rfl rfl (fun o ho => mX2_quantityOfPart F n a0 a1 a2 σ o ho) hs k
abbrev qX2_share : MethodName := { cls := "LotSales$Lot", name := "share", desc := "(II)I" }
def sX2_share_19 (n : Nat) (σ : zW) (y0 : Int32) : Option (Int32) := some y0
def fX2_share (n : Nat) (a0 : Nat) (a1 : Int32) (a2 : Int32) (σ : zW) : Option (Int32) := zgI σ 3 a0 6 fun x1 => if 0 < x1 then zgI σ 3 a0 6 fun x2 => zdv x2 (sX2_share_19 n σ ((a1 * a2) / x2)) else sX2_share_19 n σ 0
theorem gsX2_share_19 (F : zFx E) (n : Nat) (σ : zW) (hk : zk E K "LotSales$Lot" cX2_share 3 0) (he : zend E K (some .int) "share") (y0 : Int32) : zG E K (zfR σ) (sX2_share_19 n σ y0) σ 19 [none, none, none] [.inl y0] := by
  unfold sX2_share_19
  exact z_iret hk he (z_row hX2_share_0 11 rfl) rfl
theorem mX2_share (F : zFx E) (n : Nat) (a0 : Nat) (a1 : Int32) (a2 : Int32) (σ : zW) (o : Int32) (hf : fX2_share n a0 a1 a2 σ = some o) : zM E qX2_share cX2_share 3 (some .int) 0 [.inr (.inl a0), .inl a1, .inl a2] σ (some (.int o)) σ := by
  refine zM_of (fin := (zfR σ)) F (by decide +kernel) rfl (Nat.le_of_ble_eq_true rfl) (lv0 := [some (.inr (.inl a0)), some (.inl a1), some (.inl a2)]) rfl hf rfl (fun K hk he => ?_)
  have hk : zk E K "LotSales$Lot" cX2_share 3 0 := hk
  unfold fX2_share
  refine z_run hk hX2_share_0 0 1 (pc' := 1) (lv' := [some (.inr (.inl a0)), some (.inl a1), some (.inl a2)]) (st' := [.inr (.inl a0)]) rfl ?_
  refine z_gI hk 6 (z_row hX2_share_0 1 rfl) (ci := 2) rfl rfl wd_118 (fun x1 => ?_)
  refine z_gt hk (z_row hX2_share_0 2 rfl) (tgt := 11) rfl ?_ ?_
  · refine z_run hk hX2_share_0 5 4 (pc' := 15) (lv' := [some (.inr (.inl a0)), some (.inl a1), some (.inl a2)]) (st' := [.inr (.inl a0), .inl (a1 * a2)]) rfl ?_
    refine z_gI hk 6 (z_row hX2_share_0 9 rfl) (ci := 2) rfl rfl wd_118 (fun x2 => ?_)
    refine z_idiv hk (z_row hX2_share_0 10 rfl) ?_
    refine z_mask [false, false, false] rfl ?_
    exact gsX2_share_19 F n σ hk he ((a1 * a2) / x2)
  · refine z_run hk hX2_share_0 3 1 (pc' := 8) (lv' := [some (.inr (.inl a0)), some (.inl a1), some (.inl a2)]) (st' := [.inl 0]) rfl ?_
    refine z_goto hk (z_row hX2_share_0 4 rfl) (tgt := 19) rfl ?_
    refine z_mask [false, false, false] rfl ?_
    exact gsX2_share_19 F n σ hk he 0
theorem kX2_share {n : Nat} {own : String} {cc : ByteArray} {nL h index : Nat} {α : Type} {fin : α → zO} {σ : zW} {pc : Nat} {lv : zLV} {st : List zV} {a0 : Nat} {a1 : Int32} {a2 : Int32} {c : Int32 → Option α} (F : zFx E) (hk : zk E K own cc nL h) (hd : decode cc pc = .ok (.invokevirtual index, 3)) (hl : Cond.methodLink own index qX2_share ∈ lw_tbl) (hh : 0 + 1 ≤ h) (hs : zcat st ≤ 8) (k : ∀ v, zG E K fin (c v) σ (pc + 3) lv (.inl v :: st)) : zG E K fin (zck σ 3 a0 (zb (fX2_share n a0 a1 a2 σ) c)) σ pc lv (.inl a2 :: .inl a1 :: .inr (.inl a0) :: st) :=
  z_vR (n := 2) (y := qX2_share) (As := [.inl a1, .inl a2]) hk hd hl wd_883 wd_884 wd_6 wd_885 ⟨by decide, by decide, by decide +kernel⟩ ⟨hh, by decide⟩ (ci := 2) rfl rfl rfl (fun o ho => mX2_share F n a0 a1 a2 σ o ho) hs k
abbrev qX2_ordersOfParts : MethodName := { cls := "LotSales$Lot", name := "ordersOfParts", desc := "(I)I" }
def sX2_ordersOfParts_46 (n : Nat) (σ : zW) (r4 : Nat → Int32 → Int32 → Int32 → Option (Int32)) (r20 : Nat → Int32 → Int32 → Int32 → Int32 → Int32 → Option (Int32)) (v0 : Nat) (v1 : Int32) (v2 : Int32) (v3 : Int32) (v4 : Int32) (v5 : Int32) : Option (Int32) := r20 v0 v1 v2 v3 v4 (v5 + 1)
def sX2_ordersOfParts_20 (n : Nat) (σ : zW) (r4 : Nat → Int32 → Int32 → Int32 → Option (Int32)) : Nat → Nat → Int32 → Int32 → Int32 → Int32 → Int32 → Option (Int32)
  | 0, _, _, _, _, _, _ => none
  | k + 1, v0, v1, v2, v3, v4, v5 => if v5 < 10 then zgR σ 3 v0 0 fun x1 => zaI σ x1 v5 fun x2 => zck σ 3 v0 (zb (fX2_share n v0 x2 v4 σ) fun x3 => if 0 < x3 then sX2_ordersOfParts_46 n σ r4 (sX2_ordersOfParts_20 n σ r4 k) v0 v1 (v2 + 1) v3 v4 v5 else sX2_ordersOfParts_46 n σ r4 (sX2_ordersOfParts_20 n σ r4 k) v0 v1 v2 v3 v4 v5) else r4 v0 v1 v2 (v3 + 1)
def sX2_ordersOfParts_4 (n : Nat) (σ : zW) : Nat → Nat → Int32 → Int32 → Int32 → Option (Int32)
  | 0, _, _, _, _ => none
  | k + 1, v0, v1, v2, v3 => if v3 < v1 then zck σ 3 v0 (zb (fX2_quantityOfPart n v0 v3 v1 σ) fun x4 => sX2_ordersOfParts_20 n σ (sX2_ordersOfParts_4 n σ k) n v0 v1 v2 v3 x4 0) else some v2
def fX2_ordersOfParts (n : Nat) (a0 : Nat) (a1 : Int32) (σ : zW) : Option (Int32) := sX2_ordersOfParts_4 n σ n a0 a1 0 0
theorem gsX2_ordersOfParts_46 (F : zFx E) (n : Nat) (σ : zW) (hk : zk E K "LotSales$Lot" cX2_ordersOfParts 6 1) (he : zend E K (some .int) "ordersOfParts") (r4 : Nat → Int32 → Int32 → Int32 → Option (Int32)) (r20 : Nat → Int32 → Int32 → Int32 → Int32 → Int32 → Option (Int32)) (hr4 : ∀ (v0 : Nat) (v1 : Int32) (v2 : Int32) (v3 : Int32), zG E K (zfR σ) (r4 v0 v1 v2 v3) σ 4 [some (.inr (.inl v0)), some (.inl v1), some (.inl v2), some (.inl v3), none, none] []) (hr20 : ∀ (v0 : Nat) (v1 : Int32) (v2 : Int32) (v3 : Int32) (v4 : Int32) (v5 : Int32), zG E K (zfR σ) (r20 v0 v1 v2 v3 v4 v5) σ 20 [some (.inr (.inl v0)), some (.inl v1), some (.inl v2), some (.inl v3), some (.inl v4), some (.inl v5)] []) (v0 : Nat) (v1 : Int32) (v2 : Int32) (v3 : Int32) (v4 : Int32) (v5 : Int32) : zG E K (zfR σ) (sX2_ordersOfParts_46 n σ r4 r20 v0 v1 v2 v3 v4 v5) σ 46 [some (.inr (.inl v0)), some (.inl v1), some (.inl v2), some (.inl v3), some (.inl v4), some (.inl v5)] [] := by
  unfold sX2_ordersOfParts_46
  refine z_run hk hX2_ordersOfParts_0 26 1 (pc' := 49) (lv' := [some (.inr (.inl v0)), some (.inl v1), some (.inl v2), some (.inl v3), some (.inl v4), some (.inl (v5 + 1))]) (st' := []) rfl ?_
  refine z_goto hk (z_row hX2_ordersOfParts_0 27 rfl) (tgt := 20) rfl ?_
  exact hr20 v0 v1 v2 v3 v4 (v5 + 1)
theorem gsX2_ordersOfParts_20 (F : zFx E) (n : Nat) (σ : zW) (hk : zk E K "LotSales$Lot" cX2_ordersOfParts 6 1) (he : zend E K (some .int) "ordersOfParts") (r4 : Nat → Int32 → Int32 → Int32 → Option (Int32)) (hr4 : ∀ (v0 : Nat) (v1 : Int32) (v2 : Int32) (v3 : Int32), zG E K (zfR σ) (r4 v0 v1 v2 v3) σ 4 [some (.inr (.inl v0)), some (.inl v1), some (.inl v2), some (.inl v3), none, none] []) : ∀ (k : Nat) (v0 : Nat) (v1 : Int32) (v2 : Int32) (v3 : Int32) (v4 : Int32) (v5 : Int32), zG E K (zfR σ) (sX2_ordersOfParts_20 n σ r4 k v0 v1 v2 v3 v4 v5) σ 20 [some (.inr (.inl v0)), some (.inl v1), some (.inl v2), some (.inl v3), some (.inl v4), some (.inl v5)] [] := by
  intro k
  induction k with
  | zero =>
    intro v0 v1 v2 v3 v4 v5
    intro hX
    exact z_none hX
  | succ k ih =>
    intro v0 v1 v2 v3 v4 v5
    rw [sX2_ordersOfParts_20]
    refine z_run hk hX2_ordersOfParts_0 14 2 (pc' := 24) (lv' := [some (.inr (.inl v0)), some (.inl v1), some (.inl v2), some (.inl v3), some (.inl v4), some (.inl v5)]) (st' := [.inl 10, .inl v5]) rfl ?_
    refine z_cge hk (z_row hX2_ordersOfParts_0 16 rfl) (tgt := 52) rfl ?_ ?_
    · refine z_run hk hX2_ordersOfParts_0 28 1 (pc' := 55) (lv' := [some (.inr (.inl v0)), some (.inl v1), some (.inl v2), some (.inl (v3 + 1)), some (.inl v4), some (.inl v5)]) (st' := []) rfl ?_
      refine z_goto hk (z_row hX2_ordersOfParts_0 29 rfl) (tgt := 4) rfl ?_
      refine z_mask [true, true, true, true, false, false] rfl ?_
      exact hr4 v0 v1 v2 (v3 + 1)
    · refine z_run hk hX2_ordersOfParts_0 17 2 (pc' := 29) (lv' := [some (.inr (.inl v0)), some (.inl v1), some (.inl v2), some (.inl v3), some (.inl v4), some (.inl v5)]) (st' := [.inr (.inl v0), .inr (.inl v0)]) rfl ?_
      refine z_gR hk 0 (z_row hX2_ordersOfParts_0 19 rfl) (ci := 2) rfl rfl wd_102 (fun x1 => ?_)
      refine z_run hk hX2_ordersOfParts_0 20 1 (pc' := 34) (lv' := [some (.inr (.inl v0)), some (.inl v1), some (.inl v2), some (.inl v3), some (.inl v4), some (.inl v5)]) (st' := [.inl v5, .inr (.inl x1), .inr (.inl v0)]) rfl ?_
      refine z_aI hk (z_row hX2_ordersOfParts_0 21 rfl) (fun x2 => ?_)
      refine z_run hk hX2_ordersOfParts_0 22 1 (pc' := 37) (lv' := [some (.inr (.inl v0)), some (.inl v1), some (.inl v2), some (.inl v3), some (.inl v4), some (.inl v5)]) (st' := [.inl v4, .inl x2, .inr (.inl v0)]) rfl ?_
      refine kX2_share F hk (z_row hX2_ordersOfParts_0 23 rfl) wd_882 (by decide) (Nat.le_of_ble_eq_true rfl) (fun x3 => ?_)
      refine z_le hk (z_row hX2_ordersOfParts_0 24 rfl) (tgt := 46) rfl ?_ ?_
      · exact gsX2_ordersOfParts_46 F n σ hk he r4 (sX2_ordersOfParts_20 n σ r4 k) hr4 ih v0 v1 v2 v3 v4 v5
      · refine z_run hk hX2_ordersOfParts_0 25 1 (pc' := 46) (lv' := [some (.inr (.inl v0)), some (.inl v1), some (.inl (v2 + 1)), some (.inl v3), some (.inl v4), some (.inl v5)]) (st' := []) rfl ?_
        exact gsX2_ordersOfParts_46 F n σ hk he r4 (sX2_ordersOfParts_20 n σ r4 k) hr4 ih v0 v1 (v2 + 1) v3 v4 v5
theorem gsX2_ordersOfParts_4 (F : zFx E) (n : Nat) (σ : zW) (hk : zk E K "LotSales$Lot" cX2_ordersOfParts 6 1) (he : zend E K (some .int) "ordersOfParts") : ∀ (k : Nat) (v0 : Nat) (v1 : Int32) (v2 : Int32) (v3 : Int32), zG E K (zfR σ) (sX2_ordersOfParts_4 n σ k v0 v1 v2 v3) σ 4 [some (.inr (.inl v0)), some (.inl v1), some (.inl v2), some (.inl v3), none, none] [] := by
  intro k
  induction k with
  | zero =>
    intro v0 v1 v2 v3
    intro hX
    exact z_none hX
  | succ k ih =>
    intro v0 v1 v2 v3
    rw [sX2_ordersOfParts_4]
    refine z_run hk hX2_ordersOfParts_0 4 2 (pc' := 6) (lv' := [some (.inr (.inl v0)), some (.inl v1), some (.inl v2), some (.inl v3), none, none]) (st' := [.inl v1, .inl v3]) rfl ?_
    refine z_cge hk (z_row hX2_ordersOfParts_0 6 rfl) (tgt := 58) rfl ?_ ?_
    · refine z_run hk hX2_ordersOfParts_0 30 1 (pc' := 59) (lv' := [some (.inr (.inl v0)), some (.inl v1), some (.inl v2), some (.inl v3), none, none]) (st' := [.inl v2]) rfl ?_
      exact z_iret hk he (z_row hX2_ordersOfParts_0 31 rfl) rfl
    · refine z_run hk hX2_ordersOfParts_0 7 3 (pc' := 12) (lv' := [some (.inr (.inl v0)), some (.inl v1), some (.inl v2), some (.inl v3), none, none]) (st' := [.inl v1, .inl v3, .inr (.inl v0)]) rfl ?_
      refine kX2_quantityOfPart F hk (z_row hX2_ordersOfParts_0 10 rfl) wd_878 (by decide) (Nat.le_of_ble_eq_true rfl) (fun x4 => ?_)
      refine z_run hk hX2_ordersOfParts_0 11 3 (pc' := 20) (lv' := [some (.inr (.inl v0)), some (.inl v1), some (.inl v2), some (.inl v3), some (.inl x4), some (.inl 0)]) (st' := []) rfl ?_
      exact gsX2_ordersOfParts_20 F n σ hk he (sX2_ordersOfParts_4 n σ k) ih n v0 v1 v2 v3 x4 0
theorem mX2_ordersOfParts (F : zFx E) (n : Nat) (a0 : Nat) (a1 : Int32) (σ : zW) (o : Int32) (hf : fX2_ordersOfParts n a0 a1 σ = some o) : zM E qX2_ordersOfParts cX2_ordersOfParts 6 (some .int) 1 [.inr (.inl a0), .inl a1] σ (some (.int o)) σ := by
  refine zM_of (fin := (zfR σ)) F (by decide +kernel) rfl (Nat.le_of_ble_eq_true rfl) (lv0 := [some (.inr (.inl a0)), some (.inl a1), none, none, none, none]) rfl hf rfl (fun K hk he => ?_)
  have hk : zk E K "LotSales$Lot" cX2_ordersOfParts 6 1 := hk
  unfold fX2_ordersOfParts
  refine z_run hk hX2_ordersOfParts_0 0 4 (pc' := 4) (lv' := [some (.inr (.inl a0)), some (.inl a1), some (.inl 0), some (.inl 0), none, none]) (st' := []) rfl ?_
  exact gsX2_ordersOfParts_4 F n σ hk he n a0 a1 0 0
theorem kX2_ordersOfParts {n : Nat} {own : String} {cc : ByteArray} {nL h index : Nat} {α : Type} {fin : α → zO} {σ : zW} {pc : Nat} {lv : zLV} {st : List zV} {a0 : Nat} {a1 : Int32} {c : Int32 → Option α} (F : zFx E) (hk : zk E K own cc nL h) (hd : decode cc pc = .ok (.invokevirtual index, 3)) (hl : Cond.methodLink own index qX2_ordersOfParts ∈ lw_tbl) (hh : 1 + 1 ≤ h) (hs : zcat st ≤ 8) (k : ∀ v, zG E K fin (c v) σ (pc + 3) lv (.inl v :: st)) : zG E K fin (zck σ 3 a0 (zb (fX2_ordersOfParts n a0 a1 σ) c)) σ pc lv (.inl a1 :: .inr (.inl a0) :: st) :=
  z_vR (n := 1) (y := qX2_ordersOfParts) (As := [.inl a1]) hk hd hl wd_875 wd_876 wd_6 wd_877 ⟨by decide, by decide, by decide +kernel⟩ ⟨hh, by decide⟩ (ci := 2) rfl rfl rfl (fun o ho => mX2_ordersOfParts F n a0 a1 σ o ho) hs k
abbrev qX3_has : MethodName := { cls := "LotSales$Sale", name := "has", desc := "(I)Z" }
def sX3_has_17 (n : Nat) (σ : zW) (y0 : Int32) : Option (Int32) := if y0 = 0 ∨ y0 = 1 then some y0 else none
def sX3_has_16 (n : Nat) (σ : zW) : Option (Int32) := sX3_has_17 n σ 0
def fX3_has (n : Nat) (a0 : Nat) (a1 : Int32) (σ : zW) : Option (Int32) := if a1 < 0 then sX3_has_16 n σ else zgI σ 4 a0 5 fun x1 => if a1 < x1 then sX3_has_17 n σ 1 else sX3_has_16 n σ
theorem gsX3_has_17 (F : zFx E) (n : Nat) (σ : zW) (hk : zk E K "LotSales$Sale" cX3_has 2 0) (he : zend E K (some .boolean) "has") (y0 : Int32) : zG E K (zfR σ) (sX3_has_17 n σ y0) σ 17 [none, none] [.inl y0] := by
  unfold sX3_has_17
  exact z_zret (fin := (zfR σ)) (o := y0) hk he (z_row hX3_has_0 9 rfl) rfl
theorem gsX3_has_16 (F : zFx E) (n : Nat) (σ : zW) (hk : zk E K "LotSales$Sale" cX3_has 2 0) (he : zend E K (some .boolean) "has") : zG E K (zfR σ) (sX3_has_16 n σ) σ 16 [none, none] [] := by
  unfold sX3_has_16
  refine z_run hk hX3_has_0 8 1 (pc' := 17) (lv' := [none, none]) (st' := [.inl 0]) rfl ?_
  exact gsX3_has_17 F n σ hk he 0
theorem mX3_has (F : zFx E) (n : Nat) (a0 : Nat) (a1 : Int32) (σ : zW) (o : Int32) (hf : fX3_has n a0 a1 σ = some o) : zM E qX3_has cX3_has 2 (some .boolean) 0 [.inr (.inl a0), .inl a1] σ (some (.int o)) σ := by
  refine zM_of (fin := (zfR σ)) F (by decide +kernel) rfl (Nat.le_of_ble_eq_true rfl) (lv0 := [some (.inr (.inl a0)), some (.inl a1)]) rfl hf rfl (fun K hk he => ?_)
  have hk : zk E K "LotSales$Sale" cX3_has 2 0 := hk
  unfold fX3_has
  refine z_run hk hX3_has_0 0 1 (pc' := 1) (lv' := [some (.inr (.inl a0)), some (.inl a1)]) (st' := [.inl a1]) rfl ?_
  refine z_lt hk (z_row hX3_has_0 1 rfl) (tgt := 16) rfl ?_ ?_
  · refine z_mask [false, false] rfl ?_
    exact gsX3_has_16 F n σ hk he
  · refine z_run hk hX3_has_0 2 2 (pc' := 6) (lv' := [some (.inr (.inl a0)), some (.inl a1)]) (st' := [.inr (.inl a0), .inl a1]) rfl ?_
    refine z_gI hk 5 (z_row hX3_has_0 4 rfl) (ci := 3) rfl rfl wd_170 (fun x1 => ?_)
    refine z_cge hk (z_row hX3_has_0 5 rfl) (tgt := 16) rfl ?_ ?_
    · refine z_mask [false, false] rfl ?_
      exact gsX3_has_16 F n σ hk he
    · refine z_run hk hX3_has_0 6 1 (pc' := 13) (lv' := [some (.inr (.inl a0)), some (.inl a1)]) (st' := [.inl 1]) rfl ?_
      refine z_goto hk (z_row hX3_has_0 7 rfl) (tgt := 17) rfl ?_
      refine z_mask [false, false] rfl ?_
      exact gsX3_has_17 F n σ hk he 1
theorem kX3_has {n : Nat} {own : String} {cc : ByteArray} {nL h index : Nat} {α : Type} {fin : α → zO} {σ : zW} {pc : Nat} {lv : zLV} {st : List zV} {a0 : Nat} {a1 : Int32} {c : Int32 → Option α} (F : zFx E) (hk : zk E K own cc nL h) (hd : decode cc pc = .ok (.invokevirtual index, 3)) (hl : Cond.methodLink own index qX3_has ∈ lw_tbl) (hh : 0 + 1 ≤ h) (hs : zcat st ≤ 8) (k : ∀ v, zG E K fin (c v) σ (pc + 3) lv (.inl v :: st)) : zG E K fin (zck σ 4 a0 (zb (fX3_has n a0 a1 σ) c)) σ pc lv (.inl a1 :: .inr (.inl a0) :: st) :=
  z_vR (n := 1) (y := qX3_has) (As := [.inl a1]) hk hd hl wd_311 wd_312 wd_2 wd_313 ⟨by decide, by decide, by decide +kernel⟩ ⟨hh, by decide⟩ (ci := 3) rfl rfl rfl (fun o ho => mX3_has F n a0 a1 σ o ho) hs k
end
