section
variable {E : zE} {K : zC}

abbrev qX8_thrown : MethodName := { cls := "LotSalesModel", name := "thrown", desc := "()I" }
def fX8_thrown (n : Nat) (a0 : Nat) (σ : zW) : Option (Int32) := zgI σ 9 a0 0 fun x1 => some x1
theorem mX8_thrown (F : zFx E) (n : Nat) (a0 : Nat) (σ : zW) (o : Int32) (hf : fX8_thrown n a0 σ = some o) : zM E qX8_thrown cX8_thrown 1 (some .int) 0 [.inr (.inl a0)] σ (some (.int o)) σ := by
  refine zM_of (fin := (zfR σ)) F (by decide +kernel) rfl (Nat.le_of_ble_eq_true rfl) (lv0 := [some (.inr (.inl a0))]) rfl hf rfl (fun K hk he => ?_)
  have hk : zk E K "LotSalesModel" cX8_thrown 1 0 := hk
  unfold fX8_thrown
  refine z_run hk hX8_thrown_0 0 1 (pc' := 1) (lv' := [some (.inr (.inl a0))]) (st' := [.inr (.inl a0)]) rfl ?_
  refine z_gI hk 0 (z_row hX8_thrown_0 1 rfl) (ci := 8) rfl rfl wd_1122 (fun x1 => ?_)
  exact z_iret hk he (z_row hX8_thrown_0 2 rfl) rfl
theorem kX8_thrown {n : Nat} {own : String} {cc : ByteArray} {nL h index : Nat} {α : Type} {fin : α → zO} {σ : zW} {pc : Nat} {lv : zLV} {st : List zV} {a0 : Nat} {c : Int32 → Option α} (F : zFx E) (hk : zk E K own cc nL h) (hd : decode cc pc = .ok (.invokevirtual index, 3)) (hl : Cond.methodLink own index qX8_thrown ∈ lw_tbl) (hh : 0 + 1 ≤ h) (hs : zcat st ≤ 8) (k : ∀ v, zG E K fin (c v) σ (pc + 3) lv (.inl v :: st)) : zG E K fin (zck σ 9 a0 (zb (fX8_thrown n a0 σ) c)) σ pc lv (.inr (.inl a0) :: st) :=
  z_vR (n := 0) (y := qX8_thrown) (As := []) hk hd hl wd_1113 wd_1114 wd_10 wd_1115 ⟨by decide, by decide, by decide +kernel⟩ ⟨hh, by decide⟩ (ci := 8) rfl rfl rfl (fun o ho => mX8_thrown F n a0 σ o ho) hs k
abbrev qX8_fail : MethodName := { cls := "LotSalesModel", name := "fail", desc := "(I)I" }
def fX8_fail (n : Nat) (a0 : Nat) (a1 : Int32) (σ : zW) : Option (Int32 × zW) := zpI σ 9 a0 0 a1 fun σ1 => some (0, σ1)
theorem mX8_fail (F : zFx E) (n : Nat) (a0 : Nat) (a1 : Int32) (σ : zW) (o : Int32 × zW) (hf : fX8_fail n a0 a1 σ = some o) : zM E qX8_fail cX8_fail 2 (some .int) 0 [.inr (.inl a0), .inl a1] σ (some (.int o.1)) o.2 := by
  refine zM_of (fin := zfW) F (by decide +kernel) rfl (Nat.le_of_ble_eq_true rfl) (lv0 := [some (.inr (.inl a0)), some (.inl a1)]) rfl hf rfl (fun K hk he => ?_)
  have hk : zk E K "LotSalesModel" cX8_fail 2 0 := hk
  unfold fX8_fail
  refine z_run hk hX8_fail_0 0 2 (pc' := 2) (lv' := [some (.inr (.inl a0)), some (.inl a1)]) (st' := [.inl a1, .inr (.inl a0)]) rfl ?_
  refine z_pI hk 0 (z_row hX8_fail_0 2 rfl) (ci := 8) rfl rfl wd_1122 rfl rfl rfl (fun σ1 => ?_)
  refine z_run hk hX8_fail_0 3 1 (pc' := 6) (lv' := [some (.inr (.inl a0)), some (.inl a1)]) (st' := [.inl 0]) rfl ?_
  exact z_iret hk he (z_row hX8_fail_0 4 rfl) rfl
theorem kX8_fail {n : Nat} {own : String} {cc : ByteArray} {nL h index : Nat} {α : Type} {fin : α → zO} {σ : zW} {pc : Nat} {lv : zLV} {st : List zV} {a0 : Nat} {a1 : Int32} {c : Int32 → zW → Option α} (F : zFx E) (hk : zk E K own cc nL h) (hd : decode cc pc = .ok (.invokevirtual index, 3)) (hl : Cond.methodLink own index qX8_fail ∈ lw_tbl) (hh : 0 + 1 ≤ h) (hs : zcat st ≤ 8) (k : ∀ v s, zG E K fin (c v s) s (pc + 3) lv (.inl v :: st)) : zG E K fin (zck σ 9 a0 (zb2 (fX8_fail n a0 a1 σ) c)) σ pc lv (.inl a1 :: .inr (.inl a0) :: st) :=
  z_vW (n := 1) (y := qX8_fail) (As := [.inl a1]) hk hd hl wd_1223 ws_22 wd_10 wd_1224 ⟨by decide, by decide, by decide +kernel⟩ ⟨hh, by decide⟩ (ci := 8) rfl rfl rfl (fun o ho => mX8_fail F n a0 a1 σ o ho) hs k
abbrev qX8_init : MethodName := { cls := "LotSalesModel", name := "<init>", desc := "()V" }
def sX8_init_123 (n : Nat) : Nat → Nat → Int32 → zW → Option (zW)
  | 0, _, _, _ => none
  | k + 1, v0, v1, σ => if v1 < 10 then zgR σ 9 v0 1 fun x1 => zsI σ x1 (13 + v1) 20000 fun σ2 => sX8_init_123 n k v0 (v1 + 1) σ2 else some σ
def fX8_init (n : Nat) (a0 : Nat) (σ : zW) : Option (zW) := if a0 = 0 then none else znA σ 20 1992 fun q3 σ4 => zpR σ4 9 a0 1 q3 fun σ5 => znA σ5 20 19920 fun q6 σ7 => zpR σ7 9 a0 2 q6 fun σ8 => znA σ8 20 1992 fun q9 σ10 => zpR σ10 9 a0 4 q9 fun σ11 => znA σ11 22 60 fun q12 σ13 => zpR σ13 9 a0 11 q12 fun σ14 => zpI σ14 9 a0 15 (-1) fun σ15 => znA σ15 20 120 fun q16 σ17 => zpR σ17 9 a0 16 q16 fun σ18 => zgR σ18 9 a0 1 fun x19 => zsI σ18 x19 0 4 fun σ20 => zgR σ20 9 a0 1 fun x21 => zsI σ20 x21 2 100 fun σ22 => zgR σ22 9 a0 1 fun x23 => zsI σ22 x23 3 500 fun σ24 => zgR σ24 9 a0 1 fun x25 => zsI σ24 x25 4 2000 fun σ26 => zgR σ26 9 a0 1 fun x27 => zsI σ26 x27 7 10 fun σ28 => zgR σ28 9 a0 1 fun x29 => zsI σ28 x29 8 20 fun σ30 => zgR σ30 9 a0 1 fun x31 => zsI σ30 x31 9 50 fun σ32 => zgR σ32 9 a0 1 fun x33 => zsI σ32 x33 10 100 fun σ34 => sX8_init_123 n n a0 0 σ34
theorem gsX8_init_123 (F : zFx E) (n : Nat) (hk : zk E K "LotSalesModel" cX8_init 2 1) (he : zend E K none "<init>") : ∀ (k : Nat) (v0 : Nat) (v1 : Int32) (σ : zW), zG E K zfV (sX8_init_123 n k v0 v1 σ) σ 123 [some (.inr (.inl v0)), some (.inl v1)] [] := by
  intro k
  induction k with
  | zero =>
    intro v0 v1 σ
    intro hX
    exact z_none hX
  | succ k ih =>
    intro v0 v1 σ
    rw [sX8_init_123]
    refine z_run hk hX8_init_1 7 2 (pc' := 126) (lv' := [some (.inr (.inl v0)), some (.inl v1)]) (st' := [.inl 10, .inl v1]) rfl ?_
    refine z_cge hk (z_row hX8_init_1 9 rfl) (tgt := 147) rfl ?_ ?_
    · exact z_vret hk he (z_row hX8_init_1 19 rfl) rfl
    · refine z_run hk hX8_init_1 10 1 (pc' := 130) (lv' := [some (.inr (.inl v0)), some (.inl v1)]) (st' := [.inr (.inl v0)]) rfl ?_
      refine z_gR hk 1 (z_row hX8_init_1 11 rfl) (ci := 8) rfl rfl wd_1123 (fun x1 => ?_)
      refine z_run hk hX8_init_1 12 4 (pc' := 140) (lv' := [some (.inr (.inl v0)), some (.inl v1)]) (st' := [.inl 20000, .inl (13 + v1), .inr (.inl x1)]) rfl ?_
      refine z_sI hk (z_row hX8_init_1 16 rfl) (fun σ2 => ?_)
      refine z_run hk hX8_init_1 17 1 (pc' := 144) (lv' := [some (.inr (.inl v0)), some (.inl (v1 + 1))]) (st' := []) rfl ?_
      refine z_goto hk (z_row hX8_init_1 18 rfl) (tgt := 123) rfl ?_
      exact ih v0 (v1 + 1) σ2
theorem mX8_init (F : zFx E) (n : Nat) (a0 : Nat) (σ : zW) (o : zW) (hf : fX8_init n a0 σ = some o) : zM E qX8_init cX8_init 2 none 1 [.inr (.inl a0)] σ none o := by
  refine zM_of (fin := zfV) F (by decide +kernel) rfl (Nat.le_of_ble_eq_true rfl) (lv0 := [some (.inr (.inl a0)), none]) rfl hf rfl (fun K hk he => ?_)
  have hk : zk E K "LotSalesModel" cX8_init 2 1 := hk
  unfold fX8_init
  refine z_run hk hX8_init_0 0 1 (pc' := 1) (lv' := [some (.inr (.inl a0)), none]) (st' := [.inr (.inl a0)]) rfl ?_
  refine z_oinit0 hk (z_row hX8_init_0 1 rfl) wd_1121 wd_29 wd_30 (by decide) (Nat.le_of_ble_eq_true rfl) ?_
  refine z_run hk hX8_init_0 2 2 (pc' := 8) (lv' := [some (.inr (.inl a0)), none]) (st' := [.inl 1992, .inr (.inl a0)]) rfl ?_
  refine z_newa hk (κ := 20) (tn := 0) (z_row hX8_init_0 4 rfl) wd_63 rfl rfl (by decide) (by decide) (zhent_i E) (fun q3 σ4 => ?_)
  refine z_pR hk 1 (z_row hX8_init_0 5 rfl) (ci := 8) rfl rfl wd_1123 (fun _ => ⟨he.2.1, rfl⟩) (fun _ => ⟨rfl, rfl, rfl, rfl⟩) (fun σ5 => ?_)
  refine z_run hk hX8_init_0 6 2 (pc' := 17) (lv' := [some (.inr (.inl a0)), none]) (st' := [.inl 19920, .inr (.inl a0)]) rfl ?_
  refine z_newa hk (κ := 20) (tn := 0) (z_row hX8_init_0 8 rfl) wd_63 rfl rfl (by decide) (by decide) (zhent_i E) (fun q6 σ7 => ?_)
  refine z_pR hk 2 (z_row hX8_init_0 9 rfl) (ci := 8) rfl rfl wd_1124 (fun _ => ⟨he.2.1, rfl⟩) (fun _ => ⟨rfl, rfl, rfl, rfl⟩) (fun σ8 => ?_)
  refine z_run hk hX8_init_0 10 2 (pc' := 26) (lv' := [some (.inr (.inl a0)), none]) (st' := [.inl 1992, .inr (.inl a0)]) rfl ?_
  refine z_newa hk (κ := 20) (tn := 0) (z_row hX8_init_0 12 rfl) wd_63 rfl rfl (by decide) (by decide) (zhent_i E) (fun q9 σ10 => ?_)
  refine z_pR hk 4 (z_row hX8_init_0 13 rfl) (ci := 8) rfl rfl wd_1126 (fun _ => ⟨he.2.1, rfl⟩) (fun _ => ⟨rfl, rfl, rfl, rfl⟩) (fun σ11 => ?_)
  refine z_run hk hX8_init_0 14 2 (pc' := 34) (lv' := [some (.inr (.inl a0)), none]) (st' := [.inl 60, .inr (.inl a0)]) rfl ?_
  refine z_newa hk (κ := 22) (tn := 1) (z_row hX8_init_0 16 rfl) wd_267 rfl rfl (by decide) (by decide) (zhent_c E) (fun q12 σ13 => ?_)
  refine z_pR hk 11 (z_row hX8_init_0 17 rfl) (ci := 8) rfl rfl wd_1133 (fun _ => ⟨he.2.1, rfl⟩) (fun _ => ⟨rfl, rfl, rfl, rfl⟩) (fun σ14 => ?_)
  refine z_run hk hX8_init_0 18 2 (pc' := 41) (lv' := [some (.inr (.inl a0)), none]) (st' := [.inl (-1), .inr (.inl a0)]) rfl ?_
  refine z_pI hk 15 (z_row hX8_init_0 20 rfl) (ci := 8) rfl rfl wd_1137 rfl rfl rfl (fun σ15 => ?_)
  refine z_run hk hX8_init_0 21 2 (pc' := 47) (lv' := [some (.inr (.inl a0)), none]) (st' := [.inl 120, .inr (.inl a0)]) rfl ?_
  refine z_newa hk (κ := 20) (tn := 0) (z_row hX8_init_0 23 rfl) wd_63 rfl rfl (by decide) (by decide) (zhent_i E) (fun q16 σ17 => ?_)
  refine z_pR hk 16 (z_row hX8_init_0 24 rfl) (ci := 8) rfl rfl wd_1138 (fun _ => ⟨he.2.1, rfl⟩) (fun _ => ⟨rfl, rfl, rfl, rfl⟩) (fun σ18 => ?_)
  refine z_run hk hX8_init_0 25 1 (pc' := 53) (lv' := [some (.inr (.inl a0)), none]) (st' := [.inr (.inl a0)]) rfl ?_
  refine z_gR hk 1 (z_row hX8_init_0 26 rfl) (ci := 8) rfl rfl wd_1123 (fun x19 => ?_)
  refine z_run hk hX8_init_0 27 2 (pc' := 58) (lv' := [some (.inr (.inl a0)), none]) (st' := [.inl 4, .inl 0, .inr (.inl x19)]) rfl ?_
  refine z_sI hk (z_row hX8_init_0 29 rfl) (fun σ20 => ?_)
  refine z_run hk hX8_init_0 30 1 (pc' := 60) (lv' := [some (.inr (.inl a0)), none]) (st' := [.inr (.inl a0)]) rfl ?_
  refine z_gR hk 1 (z_row hX8_init_0 31 rfl) (ci := 8) rfl rfl wd_1123 (fun x21 => ?_)
  refine z_run hk hX8_init_0 32 2 (pc' := 66) (lv' := [some (.inr (.inl a0)), none]) (st' := [.inl 100, .inl 2, .inr (.inl x21)]) rfl ?_
  refine z_sI hk (z_row hX8_init_0 34 rfl) (fun σ22 => ?_)
  refine z_run hk hX8_init_0 35 1 (pc' := 68) (lv' := [some (.inr (.inl a0)), none]) (st' := [.inr (.inl a0)]) rfl ?_
  refine z_gR hk 1 (z_row hX8_init_0 36 rfl) (ci := 8) rfl rfl wd_1123 (fun x23 => ?_)
  refine z_run hk hX8_init_0 37 2 (pc' := 75) (lv' := [some (.inr (.inl a0)), none]) (st' := [.inl 500, .inl 3, .inr (.inl x23)]) rfl ?_
  refine z_sI hk (z_row hX8_init_0 39 rfl) (fun σ24 => ?_)
  refine z_run hk hX8_init_0 40 1 (pc' := 77) (lv' := [some (.inr (.inl a0)), none]) (st' := [.inr (.inl a0)]) rfl ?_
  refine z_gR hk 1 (z_row hX8_init_0 41 rfl) (ci := 8) rfl rfl wd_1123 (fun x25 => ?_)
  refine z_run hk hX8_init_0 42 2 (pc' := 84) (lv' := [some (.inr (.inl a0)), none]) (st' := [.inl 2000, .inl 4, .inr (.inl x25)]) rfl ?_
  refine z_sI hk (z_row hX8_init_0 44 rfl) (fun σ26 => ?_)
  refine z_run hk hX8_init_0 45 1 (pc' := 86) (lv' := [some (.inr (.inl a0)), none]) (st' := [.inr (.inl a0)]) rfl ?_
  refine z_gR hk 1 (z_row hX8_init_0 46 rfl) (ci := 8) rfl rfl wd_1123 (fun x27 => ?_)
  refine z_run hk hX8_init_0 47 2 (pc' := 93) (lv' := [some (.inr (.inl a0)), none]) (st' := [.inl 10, .inl 7, .inr (.inl x27)]) rfl ?_
  refine z_sI hk (z_row hX8_init_0 49 rfl) (fun σ28 => ?_)
  refine z_run hk hX8_init_0 50 1 (pc' := 95) (lv' := [some (.inr (.inl a0)), none]) (st' := [.inr (.inl a0)]) rfl ?_
  refine z_gR hk 1 (z_row hX8_init_0 51 rfl) (ci := 8) rfl rfl wd_1123 (fun x29 => ?_)
  refine z_run hk hX8_init_0 52 2 (pc' := 102) (lv' := [some (.inr (.inl a0)), none]) (st' := [.inl 20, .inl 8, .inr (.inl x29)]) rfl ?_
  refine z_sI hk (z_row hX8_init_0 54 rfl) (fun σ30 => ?_)
  refine z_run hk hX8_init_0 55 1 (pc' := 104) (lv' := [some (.inr (.inl a0)), none]) (st' := [.inr (.inl a0)]) rfl ?_
  refine z_gR hk 1 (z_row hX8_init_0 56 rfl) (ci := 8) rfl rfl wd_1123 (fun x31 => ?_)
  refine z_run hk hX8_init_0 57 2 (pc' := 111) (lv' := [some (.inr (.inl a0)), none]) (st' := [.inl 50, .inl 9, .inr (.inl x31)]) rfl ?_
  refine z_sI hk (z_row hX8_init_0 59 rfl) (fun σ32 => ?_)
  refine z_run hk hX8_init_1 0 1 (pc' := 113) (lv' := [some (.inr (.inl a0)), none]) (st' := [.inr (.inl a0)]) rfl ?_
  refine z_gR hk 1 (z_row hX8_init_1 1 rfl) (ci := 8) rfl rfl wd_1123 (fun x33 => ?_)
  refine z_run hk hX8_init_1 2 2 (pc' := 120) (lv' := [some (.inr (.inl a0)), none]) (st' := [.inl 100, .inl 10, .inr (.inl x33)]) rfl ?_
  refine z_sI hk (z_row hX8_init_1 4 rfl) (fun σ34 => ?_)
  refine z_run hk hX8_init_1 5 2 (pc' := 123) (lv' := [some (.inr (.inl a0)), some (.inl 0)]) (st' := []) rfl ?_
  exact gsX8_init_123 F n hk he n a0 0 σ34
theorem kX8_init {n : Nat} {own : String} {cc : ByteArray} {nL h index : Nat} {α : Type} {fin : α → zO} {σ : zW} {pc : Nat} {lv : zLV} {st : List zV} {a0 : Nat} {c : zW → Option α} (F : zFx E) (hk : zk E K own cc nL h) (hd : decode cc pc = .ok (.invokespecial index, 3)) (hl : Cond.methodLink own index qX8_init ∈ lw_tbl) (hh : 1 + 1 ≤ h) (hs : zcat st ≤ 8) (k : ∀ s, zG E K fin (c s) s (pc + 3) lv st) : zG E K fin (if a0 = 0 then none else (zb (fX8_init n a0 σ) c)) σ pc lv (.inr (.inl a0) :: st) :=
  z_iV (n := 0) (y := qX8_init) (As := []) hk hd hl wd_1119 wd_10 wd_1120 rfl ⟨by decide, by decide, by decide +kernel⟩ ⟨hh, by decide⟩ rfl (fun o ho => mX8_init F n a0 σ o ho) hs k
abbrev qX8_keep : MethodName := { cls := "LotSalesModel", name := "keep", desc := "()V" }
def sX8_keep_52 (n : Nat) : Nat → Nat → Int32 → zW → Option (zW)
  | 0, _, _, _ => none
  | k + 1, v0, v1, σ => if v1 < 1992 then zgR σ 9 v0 2 fun x3 => zgI σ 9 v0 3 fun x4 => zgR σ 9 v0 1 fun x5 => zaI σ x5 v1 fun x6 => zsI σ x3 ((1992 * x4) + v1) x6 fun σ7 => sX8_keep_52 n k v0 (v1 + 1) σ7 else zgI σ 9 v0 3 fun x1 => zpI σ 9 v0 3 (x1 + 1) fun σ2 => some σ2
def sX8_keep_50 (n : Nat) (v0 : Nat) (σ : zW) : Option (zW) := sX8_keep_52 n n v0 0 σ
def sX8_keep_11 (n : Nat) : Nat → Nat → Int32 → zW → Option (zW)
  | 0, _, _, _ => none
  | k + 1, v0, v1, σ => if v1 < 17928 then zgR σ 9 v0 2 fun x10 => zgR σ 9 v0 2 fun x11 => zaI σ x11 (1992 + v1) fun x12 => zsI σ x10 v1 x12 fun σ13 => sX8_keep_11 n k v0 (v1 + 1) σ13 else zgI σ 9 v0 3 fun x8 => zpI σ 9 v0 3 (x8 - 1) fun σ9 => sX8_keep_50 n v0 σ9
def fX8_keep (n : Nat) (a0 : Nat) (σ : zW) : Option (zW) := zgI σ 9 a0 3 fun x14 => if x14 = 10 then sX8_keep_11 n n a0 0 σ else sX8_keep_50 n a0 σ
theorem gsX8_keep_52 (F : zFx E) (n : Nat) (hk : zk E K "LotSalesModel" cX8_keep 2 0) (he : zend E K none "keep") : ∀ (k : Nat) (v0 : Nat) (v1 : Int32) (σ : zW), zG E K zfV (sX8_keep_52 n k v0 v1 σ) σ 52 [some (.inr (.inl v0)), some (.inl v1)] [] := by
  intro k
  induction k with
  | zero =>
    intro v0 v1 σ
    intro hX
    exact z_none hX
  | succ k ih =>
    intro v0 v1 σ
    rw [sX8_keep_52]
    refine z_run hk hX8_keep_0 29 2 (pc' := 56) (lv' := [some (.inr (.inl v0)), some (.inl v1)]) (st' := [.inl 1992, .inl v1]) rfl ?_
    refine z_cge hk (z_row hX8_keep_0 31 rfl) (tgt := 86) rfl ?_ ?_
    · refine z_run hk hX8_keep_0 47 2 (pc' := 88) (lv' := [some (.inr (.inl v0)), some (.inl v1)]) (st' := [.inr (.inl v0), .inr (.inl v0)]) rfl ?_
      refine z_gI hk 3 (z_row hX8_keep_0 49 rfl) (ci := 8) rfl rfl wd_1125 (fun x1 => ?_)
      refine z_run hk hX8_keep_0 50 2 (pc' := 93) (lv' := [some (.inr (.inl v0)), some (.inl v1)]) (st' := [.inl (x1 + 1), .inr (.inl v0)]) rfl ?_
      refine z_pI hk 3 (z_row hX8_keep_0 52 rfl) (ci := 8) rfl rfl wd_1125 rfl rfl rfl (fun σ2 => ?_)
      exact z_vret hk he (z_row hX8_keep_0 53 rfl) rfl
    · refine z_run hk hX8_keep_0 32 1 (pc' := 60) (lv' := [some (.inr (.inl v0)), some (.inl v1)]) (st' := [.inr (.inl v0)]) rfl ?_
      refine z_gR hk 2 (z_row hX8_keep_0 33 rfl) (ci := 8) rfl rfl wd_1124 (fun x3 => ?_)
      refine z_run hk hX8_keep_0 34 2 (pc' := 67) (lv' := [some (.inr (.inl v0)), some (.inl v1)]) (st' := [.inr (.inl v0), .inl 1992, .inr (.inl x3)]) rfl ?_
      refine z_gI hk 3 (z_row hX8_keep_0 36 rfl) (ci := 8) rfl rfl wd_1125 (fun x4 => ?_)
      refine z_run hk hX8_keep_0 37 4 (pc' := 74) (lv' := [some (.inr (.inl v0)), some (.inl v1)]) (st' := [.inr (.inl v0), .inl ((1992 * x4) + v1), .inr (.inl x3)]) rfl ?_
      refine z_gR hk 1 (z_row hX8_keep_0 41 rfl) (ci := 8) rfl rfl wd_1123 (fun x5 => ?_)
      refine z_run hk hX8_keep_0 42 1 (pc' := 78) (lv' := [some (.inr (.inl v0)), some (.inl v1)]) (st' := [.inl v1, .inr (.inl x5), .inl ((1992 * x4) + v1), .inr (.inl x3)]) rfl ?_
      refine z_aI hk (z_row hX8_keep_0 43 rfl) (fun x6 => ?_)
      refine z_sI hk (z_row hX8_keep_0 44 rfl) (fun σ7 => ?_)
      refine z_run hk hX8_keep_0 45 1 (pc' := 83) (lv' := [some (.inr (.inl v0)), some (.inl (v1 + 1))]) (st' := []) rfl ?_
      refine z_goto hk (z_row hX8_keep_0 46 rfl) (tgt := 52) rfl ?_
      exact ih v0 (v1 + 1) σ7
theorem gsX8_keep_50 (F : zFx E) (n : Nat) (hk : zk E K "LotSalesModel" cX8_keep 2 0) (he : zend E K none "keep") (v0 : Nat) (σ : zW) : zG E K zfV (sX8_keep_50 n v0 σ) σ 50 [some (.inr (.inl v0)), none] [] := by
  unfold sX8_keep_50
  refine z_run hk hX8_keep_0 27 2 (pc' := 52) (lv' := [some (.inr (.inl v0)), some (.inl 0)]) (st' := []) rfl ?_
  exact gsX8_keep_52 F n hk he n v0 0 σ
theorem gsX8_keep_11 (F : zFx E) (n : Nat) (hk : zk E K "LotSalesModel" cX8_keep 2 0) (he : zend E K none "keep") : ∀ (k : Nat) (v0 : Nat) (v1 : Int32) (σ : zW), zG E K zfV (sX8_keep_11 n k v0 v1 σ) σ 11 [some (.inr (.inl v0)), some (.inl v1)] [] := by
  intro k
  induction k with
  | zero =>
    intro v0 v1 σ
    intro hX
    exact z_none hX
  | succ k ih =>
    intro v0 v1 σ
    rw [sX8_keep_11]
    refine z_run hk hX8_keep_0 6 2 (pc' := 15) (lv' := [some (.inr (.inl v0)), some (.inl v1)]) (st' := [.inl 17928, .inl v1]) rfl ?_
    refine z_cge hk (z_row hX8_keep_0 8 rfl) (tgt := 40) rfl ?_ ?_
    · refine z_run hk hX8_keep_0 21 2 (pc' := 42) (lv' := [some (.inr (.inl v0)), some (.inl v1)]) (st' := [.inr (.inl v0), .inr (.inl v0)]) rfl ?_
      refine z_gI hk 3 (z_row hX8_keep_0 23 rfl) (ci := 8) rfl rfl wd_1125 (fun x8 => ?_)
      refine z_run hk hX8_keep_0 24 2 (pc' := 47) (lv' := [some (.inr (.inl v0)), some (.inl v1)]) (st' := [.inl (x8 - 1), .inr (.inl v0)]) rfl ?_
      refine z_pI hk 3 (z_row hX8_keep_0 26 rfl) (ci := 8) rfl rfl wd_1125 rfl rfl rfl (fun σ9 => ?_)
      refine z_mask [true, false] rfl ?_
      exact gsX8_keep_50 F n hk he v0 σ9
    · refine z_run hk hX8_keep_0 9 1 (pc' := 19) (lv' := [some (.inr (.inl v0)), some (.inl v1)]) (st' := [.inr (.inl v0)]) rfl ?_
      refine z_gR hk 2 (z_row hX8_keep_0 10 rfl) (ci := 8) rfl rfl wd_1124 (fun x10 => ?_)
      refine z_run hk hX8_keep_0 11 2 (pc' := 24) (lv' := [some (.inr (.inl v0)), some (.inl v1)]) (st' := [.inr (.inl v0), .inl v1, .inr (.inl x10)]) rfl ?_
      refine z_gR hk 2 (z_row hX8_keep_0 13 rfl) (ci := 8) rfl rfl wd_1124 (fun x11 => ?_)
      refine z_run hk hX8_keep_0 14 3 (pc' := 32) (lv' := [some (.inr (.inl v0)), some (.inl v1)]) (st' := [.inl (1992 + v1), .inr (.inl x11), .inl v1, .inr (.inl x10)]) rfl ?_
      refine z_aI hk (z_row hX8_keep_0 17 rfl) (fun x12 => ?_)
      refine z_sI hk (z_row hX8_keep_0 18 rfl) (fun σ13 => ?_)
      refine z_run hk hX8_keep_0 19 1 (pc' := 37) (lv' := [some (.inr (.inl v0)), some (.inl (v1 + 1))]) (st' := []) rfl ?_
      refine z_goto hk (z_row hX8_keep_0 20 rfl) (tgt := 11) rfl ?_
      exact ih v0 (v1 + 1) σ13
theorem mX8_keep (F : zFx E) (n : Nat) (a0 : Nat) (σ : zW) (o : zW) (hf : fX8_keep n a0 σ = some o) : zM E qX8_keep cX8_keep 2 none 0 [.inr (.inl a0)] σ none o := by
  refine zM_of (fin := zfV) F (by decide +kernel) rfl (Nat.le_of_ble_eq_true rfl) (lv0 := [some (.inr (.inl a0)), none]) rfl hf rfl (fun K hk he => ?_)
  have hk : zk E K "LotSalesModel" cX8_keep 2 0 := hk
  unfold fX8_keep
  refine z_run hk hX8_keep_0 0 1 (pc' := 1) (lv' := [some (.inr (.inl a0)), none]) (st' := [.inr (.inl a0)]) rfl ?_
  refine z_gI hk 3 (z_row hX8_keep_0 1 rfl) (ci := 8) rfl rfl wd_1125 (fun x14 => ?_)
  refine z_run hk hX8_keep_0 2 1 (pc' := 6) (lv' := [some (.inr (.inl a0)), none]) (st' := [.inl 10, .inl x14]) rfl ?_
  refine z_cne hk (z_row hX8_keep_0 3 rfl) (tgt := 50) rfl ?_ ?_
  · exact gsX8_keep_50 F n hk he a0 σ
  · refine z_run hk hX8_keep_0 4 2 (pc' := 11) (lv' := [some (.inr (.inl a0)), some (.inl 0)]) (st' := []) rfl ?_
    exact gsX8_keep_11 F n hk he n a0 0 σ
theorem kX8_keep {n : Nat} {own : String} {cc : ByteArray} {nL h index : Nat} {α : Type} {fin : α → zO} {σ : zW} {pc : Nat} {lv : zLV} {st : List zV} {a0 : Nat} {c : zW → Option α} (F : zFx E) (hk : zk E K own cc nL h) (hd : decode cc pc = .ok (.invokevirtual index, 3)) (hl : Cond.methodLink own index qX8_keep ∈ lw_tbl) (hh : 0 + 1 ≤ h) (hs : zcat st ≤ 8) (k : ∀ s, zG E K fin (c s) s (pc + 3) lv st) : zG E K fin (zck σ 9 a0 (zb (fX8_keep n a0 σ) c)) σ pc lv (.inr (.inl a0) :: st) :=
  z_vV (n := 0) (y := qX8_keep) (As := []) hk hd hl wd_1187 ws_15 wd_10 wd_1188 ⟨by decide, by decide, by decide +kernel⟩ ⟨hh, by decide⟩ (ci := 8) rfl rfl rfl (fun o ho => mX8_keep F n a0 σ o ho) hs k
abbrev qX8_note : MethodName := { cls := "LotSalesModel", name := "note", desc := "(IIII)V" }
def sX8_note_81 (n : Nat) (σ : zW) : Option (zW) := some σ
def fX8_note (n : Nat) (a0 : Nat) (a1 : Int32) (a2 : Int32) (a3 : Int32) (a4 : Int32) (σ : zW) : Option (zW) := zgR σ 9 a0 1 fun x1 => zaI σ x1 991 fun x2 => if x2 < 250 then zgR σ 9 a0 1 fun x3 => zaI σ x3 991 fun x4 => zgR σ 9 a0 1 fun x5 => zsI σ x5 (992 + (4 * x4)) a1 fun σ6 => zgR σ6 9 a0 1 fun x7 => zsI σ6 x7 ((992 + (4 * x4)) + 1) a2 fun σ8 => zgR σ8 9 a0 1 fun x9 => zsI σ8 x9 ((992 + (4 * x4)) + 2) a3 fun σ10 => zgR σ10 9 a0 1 fun x11 => zsI σ10 x11 ((992 + (4 * x4)) + 3) a4 fun σ12 => zgR σ12 9 a0 1 fun x13 => zaI σ12 x13 991 fun x14 => zsI σ12 x13 991 (x14 + 1) fun σ15 => sX8_note_81 n σ15 else sX8_note_81 n σ
theorem gsX8_note_81 (F : zFx E) (n : Nat) (hk : zk E K "LotSalesModel" cX8_note 6 0) (he : zend E K none "note") (σ : zW) : zG E K zfV (sX8_note_81 n σ) σ 81 [none, none, none, none, none, none] [] := by
  unfold sX8_note_81
  exact z_vret hk he (z_row hX8_note_0 49 rfl) rfl
theorem mX8_note (F : zFx E) (n : Nat) (a0 : Nat) (a1 : Int32) (a2 : Int32) (a3 : Int32) (a4 : Int32) (σ : zW) (o : zW) (hf : fX8_note n a0 a1 a2 a3 a4 σ = some o) : zM E qX8_note cX8_note 6 none 0 [.inr (.inl a0), .inl a1, .inl a2, .inl a3, .inl a4] σ none o := by
  refine zM_of (fin := zfV) F (by decide +kernel) rfl (Nat.le_of_ble_eq_true rfl) (lv0 := [some (.inr (.inl a0)), some (.inl a1), some (.inl a2), some (.inl a3), some (.inl a4), none]) rfl hf rfl (fun K hk he => ?_)
  have hk : zk E K "LotSalesModel" cX8_note 6 0 := hk
  unfold fX8_note
  refine z_run hk hX8_note_0 0 1 (pc' := 1) (lv' := [some (.inr (.inl a0)), some (.inl a1), some (.inl a2), some (.inl a3), some (.inl a4), none]) (st' := [.inr (.inl a0)]) rfl ?_
  refine z_gR hk 1 (z_row hX8_note_0 1 rfl) (ci := 8) rfl rfl wd_1123 (fun x1 => ?_)
  refine z_run hk hX8_note_0 2 1 (pc' := 7) (lv' := [some (.inr (.inl a0)), some (.inl a1), some (.inl a2), some (.inl a3), some (.inl a4), none]) (st' := [.inl 991, .inr (.inl x1)]) rfl ?_
  refine z_aI hk (z_row hX8_note_0 3 rfl) (fun x2 => ?_)
  refine z_run hk hX8_note_0 4 1 (pc' := 11) (lv' := [some (.inr (.inl a0)), some (.inl a1), some (.inl a2), some (.inl a3), some (.inl a4), none]) (st' := [.inl 250, .inl x2]) rfl ?_
  refine z_cge hk (z_row hX8_note_0 5 rfl) (tgt := 81) rfl ?_ ?_
  · refine z_mask [false, false, false, false, false, false] rfl ?_
    exact gsX8_note_81 F n hk he σ
  · refine z_run hk hX8_note_0 6 3 (pc' := 19) (lv' := [some (.inr (.inl a0)), some (.inl a1), some (.inl a2), some (.inl a3), some (.inl a4), none]) (st' := [.inr (.inl a0), .inl 4, .inl 992]) rfl ?_
    refine z_gR hk 1 (z_row hX8_note_0 9 rfl) (ci := 8) rfl rfl wd_1123 (fun x3 => ?_)
    refine z_run hk hX8_note_0 10 1 (pc' := 25) (lv' := [some (.inr (.inl a0)), some (.inl a1), some (.inl a2), some (.inl a3), some (.inl a4), none]) (st' := [.inl 991, .inr (.inl x3), .inl 4, .inl 992]) rfl ?_
    refine z_aI hk (z_row hX8_note_0 11 rfl) (fun x4 => ?_)
    refine z_run hk hX8_note_0 12 4 (pc' := 31) (lv' := [some (.inr (.inl a0)), some (.inl a1), some (.inl a2), some (.inl a3), some (.inl a4), some (.inl (992 + (4 * x4)))]) (st' := [.inr (.inl a0)]) rfl ?_
    refine z_gR hk 1 (z_row hX8_note_0 16 rfl) (ci := 8) rfl rfl wd_1123 (fun x5 => ?_)
    refine z_run hk hX8_note_0 17 2 (pc' := 37) (lv' := [some (.inr (.inl a0)), some (.inl a1), some (.inl a2), some (.inl a3), some (.inl a4), some (.inl (992 + (4 * x4)))]) (st' := [.inl a1, .inl (992 + (4 * x4)), .inr (.inl x5)]) rfl ?_
    refine z_sI hk (z_row hX8_note_0 19 rfl) (fun σ6 => ?_)
    refine z_run hk hX8_note_0 20 1 (pc' := 39) (lv' := [some (.inr (.inl a0)), some (.inl a1), some (.inl a2), some (.inl a3), some (.inl a4), some (.inl (992 + (4 * x4)))]) (st' := [.inr (.inl a0)]) rfl ?_
    refine z_gR hk 1 (z_row hX8_note_0 21 rfl) (ci := 8) rfl rfl wd_1123 (fun x7 => ?_)
    refine z_run hk hX8_note_0 22 4 (pc' := 47) (lv' := [some (.inr (.inl a0)), some (.inl a1), some (.inl a2), some (.inl a3), some (.inl a4), some (.inl (992 + (4 * x4)))]) (st' := [.inl a2, .inl ((992 + (4 * x4)) + 1), .inr (.inl x7)]) rfl ?_
    refine z_sI hk (z_row hX8_note_0 26 rfl) (fun σ8 => ?_)
    refine z_run hk hX8_note_0 27 1 (pc' := 49) (lv' := [some (.inr (.inl a0)), some (.inl a1), some (.inl a2), some (.inl a3), some (.inl a4), some (.inl (992 + (4 * x4)))]) (st' := [.inr (.inl a0)]) rfl ?_
    refine z_gR hk 1 (z_row hX8_note_0 28 rfl) (ci := 8) rfl rfl wd_1123 (fun x9 => ?_)
    refine z_run hk hX8_note_0 29 4 (pc' := 57) (lv' := [some (.inr (.inl a0)), some (.inl a1), some (.inl a2), some (.inl a3), some (.inl a4), some (.inl (992 + (4 * x4)))]) (st' := [.inl a3, .inl ((992 + (4 * x4)) + 2), .inr (.inl x9)]) rfl ?_
    refine z_sI hk (z_row hX8_note_0 33 rfl) (fun σ10 => ?_)
    refine z_run hk hX8_note_0 34 1 (pc' := 59) (lv' := [some (.inr (.inl a0)), some (.inl a1), some (.inl a2), some (.inl a3), some (.inl a4), some (.inl (992 + (4 * x4)))]) (st' := [.inr (.inl a0)]) rfl ?_
    refine z_gR hk 1 (z_row hX8_note_0 35 rfl) (ci := 8) rfl rfl wd_1123 (fun x11 => ?_)
    refine z_run hk hX8_note_0 36 4 (pc' := 68) (lv' := [some (.inr (.inl a0)), some (.inl a1), some (.inl a2), some (.inl a3), some (.inl a4), some (.inl (992 + (4 * x4)))]) (st' := [.inl a4, .inl ((992 + (4 * x4)) + 3), .inr (.inl x11)]) rfl ?_
    refine z_sI hk (z_row hX8_note_0 40 rfl) (fun σ12 => ?_)
    refine z_run hk hX8_note_0 41 1 (pc' := 70) (lv' := [some (.inr (.inl a0)), some (.inl a1), some (.inl a2), some (.inl a3), some (.inl a4), some (.inl (992 + (4 * x4)))]) (st' := [.inr (.inl a0)]) rfl ?_
    refine z_gR hk 1 (z_row hX8_note_0 42 rfl) (ci := 8) rfl rfl wd_1123 (fun x13 => ?_)
    refine z_run hk hX8_note_0 43 2 (pc' := 77) (lv' := [some (.inr (.inl a0)), some (.inl a1), some (.inl a2), some (.inl a3), some (.inl a4), some (.inl (992 + (4 * x4)))]) (st' := [.inl 991, .inr (.inl x13), .inl 991, .inr (.inl x13)]) rfl ?_
    refine z_aI hk (z_row hX8_note_0 45 rfl) (fun x14 => ?_)
    refine z_run hk hX8_note_0 46 2 (pc' := 80) (lv' := [some (.inr (.inl a0)), some (.inl a1), some (.inl a2), some (.inl a3), some (.inl a4), some (.inl (992 + (4 * x4)))]) (st' := [.inl (x14 + 1), .inl 991, .inr (.inl x13)]) rfl ?_
    refine z_sI hk (z_row hX8_note_0 48 rfl) (fun σ15 => ?_)
    refine z_mask [false, false, false, false, false, false] rfl ?_
    exact gsX8_note_81 F n hk he σ15
theorem kX8_note {n : Nat} {own : String} {cc : ByteArray} {nL h index : Nat} {α : Type} {fin : α → zO} {σ : zW} {pc : Nat} {lv : zLV} {st : List zV} {a0 : Nat} {a1 : Int32} {a2 : Int32} {a3 : Int32} {a4 : Int32} {c : zW → Option α} (F : zFx E) (hk : zk E K own cc nL h) (hd : decode cc pc = .ok (.invokevirtual index, 3)) (hl : Cond.methodLink own index qX8_note ∈ lw_tbl) (hh : 0 + 1 ≤ h) (hs : zcat st ≤ 8) (k : ∀ s, zG E K fin (c s) s (pc + 3) lv st) : zG E K fin (zck σ 9 a0 (zb (fX8_note n a0 a1 a2 a3 a4 σ) c)) σ pc lv (.inl a4 :: .inl a3 :: .inl a2 :: .inl a1 :: .inr (.inl a0) :: st) :=
  z_vV (n := 4) (y := qX8_note) (As := [.inl a1, .inl a2, .inl a3, .inl a4]) hk hd hl wd_1293 ws_32 wd_10 wd_1294 ⟨by decide, by decide, by decide +kernel⟩ ⟨hh, by decide⟩ (ci := 8) rfl rfl rfl (fun o ho => mX8_note F n a0 a1 a2 a3 a4 σ o ho) hs k
abbrev qX8_isLot : MethodName := { cls := "LotSalesModel", name := "isLot", desc := "(I)Z" }
def fX8_isLot (n : Nat) (a0 : Nat) (a1 : Int32) (σ : zW) : Option (Int32) := zgR σ 9 a0 1 fun x1 => zaI σ x1 23 fun x2 => zb (fX8_isIn n a1 0 (x2 - 1) σ) fun x3 => if x3 = 0 ∨ x3 = 1 then some x3 else none
theorem mX8_isLot (F : zFx E) (n : Nat) (a0 : Nat) (a1 : Int32) (σ : zW) (o : Int32) (hf : fX8_isLot n a0 a1 σ = some o) : zM E qX8_isLot cX8_isLot 2 (some .boolean) 1 [.inr (.inl a0), .inl a1] σ (some (.int o)) σ := by
  refine zM_of (fin := (zfR σ)) F (by decide +kernel) rfl (Nat.le_of_ble_eq_true rfl) (lv0 := [some (.inr (.inl a0)), some (.inl a1)]) rfl hf rfl (fun K hk he => ?_)
  have hk : zk E K "LotSalesModel" cX8_isLot 2 1 := hk
  unfold fX8_isLot
  refine z_run hk hX8_isLot_0 0 3 (pc' := 3) (lv' := [some (.inr (.inl a0)), some (.inl a1)]) (st' := [.inr (.inl a0), .inl 0, .inl a1]) rfl ?_
  refine z_gR hk 1 (z_row hX8_isLot_0 3 rfl) (ci := 8) rfl rfl wd_1123 (fun x1 => ?_)
  refine z_run hk hX8_isLot_0 4 1 (pc' := 8) (lv' := [some (.inr (.inl a0)), some (.inl a1)]) (st' := [.inl 23, .inr (.inl x1), .inl 0, .inl a1]) rfl ?_
  refine z_aI hk (z_row hX8_isLot_0 5 rfl) (fun x2 => ?_)
  refine z_run hk hX8_isLot_0 6 2 (pc' := 11) (lv' := [some (.inr (.inl a0)), some (.inl a1)]) (st' := [.inl (x2 - 1), .inl 0, .inl a1]) rfl ?_
  refine kX8_isIn F hk (z_row hX8_isLot_0 8 rfl) wd_1181 (by decide) (Nat.le_of_ble_eq_true rfl) (fun x3 => ?_)
  exact z_zret (fin := (zfR σ)) (o := x3) hk he (z_row hX8_isLot_0 9 rfl) rfl
theorem kX8_isLot {n : Nat} {own : String} {cc : ByteArray} {nL h index : Nat} {α : Type} {fin : α → zO} {σ : zW} {pc : Nat} {lv : zLV} {st : List zV} {a0 : Nat} {a1 : Int32} {c : Int32 → Option α} (F : zFx E) (hk : zk E K own cc nL h) (hd : decode cc pc = .ok (.invokevirtual index, 3)) (hl : Cond.methodLink own index qX8_isLot ∈ lw_tbl) (hh : 1 + 1 ≤ h) (hs : zcat st ≤ 8) (k : ∀ v, zG E K fin (c v) σ (pc + 3) lv (.inl v :: st)) : zG E K fin (zck σ 9 a0 (zb (fX8_isLot n a0 a1 σ) c)) σ pc lv (.inl a1 :: .inr (.inl a0) :: st) :=
  z_vR (n := 1) (y := qX8_isLot) (As := [.inl a1]) hk hd hl wd_1211 ws_20 wd_10 wd_1212 ⟨by decide, by decide, by decide +kernel⟩ ⟨hh, by decide⟩ (ci := 8) rfl rfl rfl (fun o ho => mX8_isLot F n a0 a1 σ o ho) hs k
abbrev qX8_isBidder : MethodName := { cls := "LotSalesModel", name := "isBidder", desc := "(I)Z" }
def fX8_isBidder (n : Nat) (a0 : Int32) (σ : zW) : Option (Int32) := zb (fX8_isIn n a0 0 9 σ) fun x1 => if x1 = 0 ∨ x1 = 1 then some x1 else none
theorem mX8_isBidder (F : zFx E) (n : Nat) (a0 : Int32) (σ : zW) (o : Int32) (hf : fX8_isBidder n a0 σ = some o) : zM E qX8_isBidder cX8_isBidder 1 (some .boolean) 1 [.inl a0] σ (some (.int o)) σ := by
  refine zM_of (fin := (zfR σ)) F (by decide +kernel) rfl (Nat.le_of_ble_eq_true rfl) (lv0 := [some (.inl a0)]) rfl hf rfl (fun K hk he => ?_)
  have hk : zk E K "LotSalesModel" cX8_isBidder 1 1 := hk
  unfold fX8_isBidder
  refine z_run hk hX8_isBidder_0 0 3 (pc' := 4) (lv' := [some (.inl a0)]) (st' := [.inl 9, .inl 0, .inl a0]) rfl ?_
  refine kX8_isIn F hk (z_row hX8_isBidder_0 3 rfl) wd_1181 (by decide) (Nat.le_of_ble_eq_true rfl) (fun x1 => ?_)
  exact z_zret (fin := (zfR σ)) (o := x1) hk he (z_row hX8_isBidder_0 4 rfl) rfl
theorem kX8_isBidder {n : Nat} {own : String} {cc : ByteArray} {nL h index : Nat} {α : Type} {fin : α → zO} {σ : zW} {pc : Nat} {lv : zLV} {st : List zV} {a0 : Int32} {c : Int32 → Option α} (F : zFx E) (hk : zk E K own cc nL h) (hd : decode cc pc = .ok (.invokestatic index, 3)) (hl : Cond.methodLink own index qX8_isBidder ∈ lw_tbl) (hh : 1 + 1 ≤ h) (hs : zcat st ≤ 8) (k : ∀ v, zG E K fin (c v) σ (pc + 3) lv (.inl v :: st)) : zG E K fin (zb (fX8_isBidder n a0 σ) c) σ pc lv (.inl a0 :: st) :=
  z_qR (n := 1) (y := qX8_isBidder) (As := [.inl a0]) hk hd hl wd_1264 wd_10 wd_1265 ⟨by decide, by decide, by decide +kernel⟩ ⟨hh, by decide⟩ rfl (fun o ho => mX8_isBidder F n a0 σ o ho) hs k
abbrev qX8_at : MethodName := { cls := "LotSalesModel", name := "at", desc := "(II)I" }
def fX8_at (n : Nat) (a0 : Nat) (a1 : Int32) (a2 : Int32) (σ : zW) : Option (Int32) := zgR σ 9 a0 1 fun x1 => zaI σ x1 ((24 + (8 * a1)) + a2) fun x2 => some x2
theorem mX8_at (F : zFx E) (n : Nat) (a0 : Nat) (a1 : Int32) (a2 : Int32) (σ : zW) (o : Int32) (hf : fX8_at n a0 a1 a2 σ = some o) : zM E qX8_at cX8_at 3 (some .int) 0 [.inr (.inl a0), .inl a1, .inl a2] σ (some (.int o)) σ := by
  refine zM_of (fin := (zfR σ)) F (by decide +kernel) rfl (Nat.le_of_ble_eq_true rfl) (lv0 := [some (.inr (.inl a0)), some (.inl a1), some (.inl a2)]) rfl hf rfl (fun K hk he => ?_)
  have hk : zk E K "LotSalesModel" cX8_at 3 0 := hk
  unfold fX8_at
  refine z_run hk hX8_at_0 0 1 (pc' := 1) (lv' := [some (.inr (.inl a0)), some (.inl a1), some (.inl a2)]) (st' := [.inr (.inl a0)]) rfl ?_
  refine z_gR hk 1 (z_row hX8_at_0 1 rfl) (ci := 8) rfl rfl wd_1123 (fun x1 => ?_)
  refine z_run hk hX8_at_0 2 7 (pc' := 13) (lv' := [some (.inr (.inl a0)), some (.inl a1), some (.inl a2)]) (st' := [.inl ((24 + (8 * a1)) + a2), .inr (.inl x1)]) rfl ?_
  refine z_aI hk (z_row hX8_at_0 9 rfl) (fun x2 => ?_)
  exact z_iret hk he (z_row hX8_at_0 10 rfl) rfl
theorem kX8_at {n : Nat} {own : String} {cc : ByteArray} {nL h index : Nat} {α : Type} {fin : α → zO} {σ : zW} {pc : Nat} {lv : zLV} {st : List zV} {a0 : Nat} {a1 : Int32} {a2 : Int32} {c : Int32 → Option α} (F : zFx E) (hk : zk E K own cc nL h) (hd : decode cc pc = .ok (.invokevirtual index, 3)) (hl : Cond.methodLink own index qX8_at ∈ lw_tbl) (hh : 0 + 1 ≤ h) (hs : zcat st ≤ 8) (k : ∀ v, zG E K fin (c v) σ (pc + 3) lv (.inl v :: st)) : zG E K fin (zck σ 9 a0 (zb (fX8_at n a0 a1 a2 σ) c)) σ pc lv (.inl a2 :: .inl a1 :: .inr (.inl a0) :: st) :=
  z_vR (n := 2) (y := qX8_at) (As := [.inl a1, .inl a2]) hk hd hl wd_1215 ws_21 wd_10 wd_1216 ⟨by decide, by decide, by decide +kernel⟩ ⟨hh, by decide⟩ (ci := 8) rfl rfl rfl (fun o ho => mX8_at F n a0 a1 a2 σ o ho) hs k
abbrev qX8_set : MethodName := { cls := "LotSalesModel", name := "set", desc := "(III)V" }
def fX8_set (n : Nat) (a0 : Nat) (a1 : Int32) (a2 : Int32) (a3 : Int32) (σ : zW) : Option (zW) := zgR σ 9 a0 1 fun x1 => zsI σ x1 ((24 + (8 * a1)) + a2) a3 fun σ2 => some σ2
theorem mX8_set (F : zFx E) (n : Nat) (a0 : Nat) (a1 : Int32) (a2 : Int32) (a3 : Int32) (σ : zW) (o : zW) (hf : fX8_set n a0 a1 a2 a3 σ = some o) : zM E qX8_set cX8_set 4 none 0 [.inr (.inl a0), .inl a1, .inl a2, .inl a3] σ none o := by
  refine zM_of (fin := zfV) F (by decide +kernel) rfl (Nat.le_of_ble_eq_true rfl) (lv0 := [some (.inr (.inl a0)), some (.inl a1), some (.inl a2), some (.inl a3)]) rfl hf rfl (fun K hk he => ?_)
  have hk : zk E K "LotSalesModel" cX8_set 4 0 := hk
  unfold fX8_set
  refine z_run hk hX8_set_0 0 1 (pc' := 1) (lv' := [some (.inr (.inl a0)), some (.inl a1), some (.inl a2), some (.inl a3)]) (st' := [.inr (.inl a0)]) rfl ?_
  refine z_gR hk 1 (z_row hX8_set_0 1 rfl) (ci := 8) rfl rfl wd_1123 (fun x1 => ?_)
  refine z_run hk hX8_set_0 2 8 (pc' := 14) (lv' := [some (.inr (.inl a0)), some (.inl a1), some (.inl a2), some (.inl a3)]) (st' := [.inl a3, .inl ((24 + (8 * a1)) + a2), .inr (.inl x1)]) rfl ?_
  refine z_sI hk (z_row hX8_set_0 10 rfl) (fun σ2 => ?_)
  exact z_vret hk he (z_row hX8_set_0 11 rfl) rfl
theorem kX8_set {n : Nat} {own : String} {cc : ByteArray} {nL h index : Nat} {α : Type} {fin : α → zO} {σ : zW} {pc : Nat} {lv : zLV} {st : List zV} {a0 : Nat} {a1 : Int32} {a2 : Int32} {a3 : Int32} {c : zW → Option α} (F : zFx E) (hk : zk E K own cc nL h) (hd : decode cc pc = .ok (.invokevirtual index, 3)) (hl : Cond.methodLink own index qX8_set ∈ lw_tbl) (hh : 0 + 1 ≤ h) (hs : zcat st ≤ 8) (k : ∀ s, zG E K fin (c s) s (pc + 3) lv st) : zG E K fin (zck σ 9 a0 (zb (fX8_set n a0 a1 a2 a3 σ) c)) σ pc lv (.inl a3 :: .inl a2 :: .inl a1 :: .inr (.inl a0) :: st) :=
  z_vV (n := 3) (y := qX8_set) (As := [.inl a1, .inl a2, .inl a3]) hk hd hl wd_1195 ws_17 wd_10 wd_1196 ⟨by decide, by decide, by decide +kernel⟩ ⟨hh, by decide⟩ (ci := 8) rfl rfl rfl (fun o ho => mX8_set F n a0 a1 a2 a3 σ o ho) hs k
abbrev qX8_putOrder : MethodName := { cls := "LotSalesModel", name := "putOrder", desc := "(IIII)V" }
def fX8_putOrder (n : Nat) (a0 : Nat) (a1 : Int32) (a2 : Int32) (a3 : Int32) (a4 : Int32) (σ : zW) : Option (zW) := zgR σ 9 a0 1 fun x1 => zsI σ x1 ((184 + (10 * a1)) + a2) a3 fun σ2 => zgR σ2 9 a0 1 fun x3 => zsI σ2 x3 ((384 + (10 * a1)) + a2) a4 fun σ4 => some σ4
theorem mX8_putOrder (F : zFx E) (n : Nat) (a0 : Nat) (a1 : Int32) (a2 : Int32) (a3 : Int32) (a4 : Int32) (σ : zW) (o : zW) (hf : fX8_putOrder n a0 a1 a2 a3 a4 σ = some o) : zM E qX8_putOrder cX8_putOrder 5 none 0 [.inr (.inl a0), .inl a1, .inl a2, .inl a3, .inl a4] σ none o := by
  refine zM_of (fin := zfV) F (by decide +kernel) rfl (Nat.le_of_ble_eq_true rfl) (lv0 := [some (.inr (.inl a0)), some (.inl a1), some (.inl a2), some (.inl a3), some (.inl a4)]) rfl hf rfl (fun K hk he => ?_)
  have hk : zk E K "LotSalesModel" cX8_putOrder 5 0 := hk
  unfold fX8_putOrder
  refine z_run hk hX8_putOrder_0 0 1 (pc' := 1) (lv' := [some (.inr (.inl a0)), some (.inl a1), some (.inl a2), some (.inl a3), some (.inl a4)]) (st' := [.inr (.inl a0)]) rfl ?_
  refine z_gR hk 1 (z_row hX8_putOrder_0 1 rfl) (ci := 8) rfl rfl wd_1123 (fun x1 => ?_)
  refine z_run hk hX8_putOrder_0 2 8 (pc' := 15) (lv' := [some (.inr (.inl a0)), some (.inl a1), some (.inl a2), some (.inl a3), some (.inl a4)]) (st' := [.inl a3, .inl ((184 + (10 * a1)) + a2), .inr (.inl x1)]) rfl ?_
  refine z_sI hk (z_row hX8_putOrder_0 10 rfl) (fun σ2 => ?_)
  refine z_run hk hX8_putOrder_0 11 1 (pc' := 17) (lv' := [some (.inr (.inl a0)), some (.inl a1), some (.inl a2), some (.inl a3), some (.inl a4)]) (st' := [.inr (.inl a0)]) rfl ?_
  refine z_gR hk 1 (z_row hX8_putOrder_0 12 rfl) (ci := 8) rfl rfl wd_1123 (fun x3 => ?_)
  refine z_run hk hX8_putOrder_0 13 8 (pc' := 32) (lv' := [some (.inr (.inl a0)), some (.inl a1), some (.inl a2), some (.inl a3), some (.inl a4)]) (st' := [.inl a4, .inl ((384 + (10 * a1)) + a2), .inr (.inl x3)]) rfl ?_
  refine z_sI hk (z_row hX8_putOrder_0 21 rfl) (fun σ4 => ?_)
  exact z_vret hk he (z_row hX8_putOrder_0 22 rfl) rfl
theorem kX8_putOrder {n : Nat} {own : String} {cc : ByteArray} {nL h index : Nat} {α : Type} {fin : α → zO} {σ : zW} {pc : Nat} {lv : zLV} {st : List zV} {a0 : Nat} {a1 : Int32} {a2 : Int32} {a3 : Int32} {a4 : Int32} {c : zW → Option α} (F : zFx E) (hk : zk E K own cc nL h) (hd : decode cc pc = .ok (.invokevirtual index, 3)) (hl : Cond.methodLink own index qX8_putOrder ∈ lw_tbl) (hh : 0 + 1 ≤ h) (hs : zcat st ≤ 8) (k : ∀ s, zG E K fin (c s) s (pc + 3) lv st) : zG E K fin (zck σ 9 a0 (zb (fX8_putOrder n a0 a1 a2 a3 a4 σ) c)) σ pc lv (.inl a4 :: .inl a3 :: .inl a2 :: .inl a1 :: .inr (.inl a0) :: st) :=
  z_vV (n := 4) (y := qX8_putOrder) (As := [.inl a1, .inl a2, .inl a3, .inl a4]) hk hd hl wd_1199 ws_18 wd_10 wd_1200 ⟨by decide, by decide, by decide +kernel⟩ ⟨hh, by decide⟩ (ci := 8) rfl rfl rfl (fun o ho => mX8_putOrder F n a0 a1 a2 a3 a4 σ o ho) hs k
abbrev qX8_putBid : MethodName := { cls := "LotSalesModel", name := "putBid", desc := "(IIII)V" }
def fX8_putBid (n : Nat) (a0 : Nat) (a1 : Int32) (a2 : Int32) (a3 : Int32) (a4 : Int32) (σ : zW) : Option (zW) := zgR σ 9 a0 1 fun x1 => zsI σ x1 ((584 + (10 * a1)) + a2) a3 fun σ2 => zgR σ2 9 a0 1 fun x3 => zsI σ2 x3 ((784 + (10 * a1)) + a2) a4 fun σ4 => some σ4
theorem mX8_putBid (F : zFx E) (n : Nat) (a0 : Nat) (a1 : Int32) (a2 : Int32) (a3 : Int32) (a4 : Int32) (σ : zW) (o : zW) (hf : fX8_putBid n a0 a1 a2 a3 a4 σ = some o) : zM E qX8_putBid cX8_putBid 5 none 0 [.inr (.inl a0), .inl a1, .inl a2, .inl a3, .inl a4] σ none o := by
  refine zM_of (fin := zfV) F (by decide +kernel) rfl (Nat.le_of_ble_eq_true rfl) (lv0 := [some (.inr (.inl a0)), some (.inl a1), some (.inl a2), some (.inl a3), some (.inl a4)]) rfl hf rfl (fun K hk he => ?_)
  have hk : zk E K "LotSalesModel" cX8_putBid 5 0 := hk
  unfold fX8_putBid
  refine z_run hk hX8_putBid_0 0 1 (pc' := 1) (lv' := [some (.inr (.inl a0)), some (.inl a1), some (.inl a2), some (.inl a3), some (.inl a4)]) (st' := [.inr (.inl a0)]) rfl ?_
  refine z_gR hk 1 (z_row hX8_putBid_0 1 rfl) (ci := 8) rfl rfl wd_1123 (fun x1 => ?_)
  refine z_run hk hX8_putBid_0 2 8 (pc' := 15) (lv' := [some (.inr (.inl a0)), some (.inl a1), some (.inl a2), some (.inl a3), some (.inl a4)]) (st' := [.inl a3, .inl ((584 + (10 * a1)) + a2), .inr (.inl x1)]) rfl ?_
  refine z_sI hk (z_row hX8_putBid_0 10 rfl) (fun σ2 => ?_)
  refine z_run hk hX8_putBid_0 11 1 (pc' := 17) (lv' := [some (.inr (.inl a0)), some (.inl a1), some (.inl a2), some (.inl a3), some (.inl a4)]) (st' := [.inr (.inl a0)]) rfl ?_
  refine z_gR hk 1 (z_row hX8_putBid_0 12 rfl) (ci := 8) rfl rfl wd_1123 (fun x3 => ?_)
  refine z_run hk hX8_putBid_0 13 8 (pc' := 32) (lv' := [some (.inr (.inl a0)), some (.inl a1), some (.inl a2), some (.inl a3), some (.inl a4)]) (st' := [.inl a4, .inl ((784 + (10 * a1)) + a2), .inr (.inl x3)]) rfl ?_
  refine z_sI hk (z_row hX8_putBid_0 21 rfl) (fun σ4 => ?_)
  exact z_vret hk he (z_row hX8_putBid_0 22 rfl) rfl
theorem kX8_putBid {n : Nat} {own : String} {cc : ByteArray} {nL h index : Nat} {α : Type} {fin : α → zO} {σ : zW} {pc : Nat} {lv : zLV} {st : List zV} {a0 : Nat} {a1 : Int32} {a2 : Int32} {a3 : Int32} {a4 : Int32} {c : zW → Option α} (F : zFx E) (hk : zk E K own cc nL h) (hd : decode cc pc = .ok (.invokevirtual index, 3)) (hl : Cond.methodLink own index qX8_putBid ∈ lw_tbl) (hh : 0 + 1 ≤ h) (hs : zcat st ≤ 8) (k : ∀ s, zG E K fin (c s) s (pc + 3) lv st) : zG E K fin (zck σ 9 a0 (zb (fX8_putBid n a0 a1 a2 a3 a4 σ) c)) σ pc lv (.inl a4 :: .inl a3 :: .inl a2 :: .inl a1 :: .inr (.inl a0) :: st) :=
  z_vV (n := 4) (y := qX8_putBid) (As := [.inl a1, .inl a2, .inl a3, .inl a4]) hk hd hl wd_1203 ws_19 wd_10 wd_1204 ⟨by decide, by decide, by decide +kernel⟩ ⟨hh, by decide⟩ (ci := 8) rfl rfl rfl (fun o ho => mX8_putBid F n a0 a1 a2 a3 a4 σ o ho) hs k
abbrev qX8_makeLot : MethodName := { cls := "LotSalesModel", name := "makeLot", desc := "(III)I" }
def sX8_makeLot_89 (n : Nat) : Nat → Nat → Int32 → Int32 → zW → Option (Int32 × zW)
  | 0, _, _, _, _ => none
  | k + 1, v0, v4, v5, σ => if v5 < 10 then zck σ 9 v0 (zb (fX8_putOrder n v0 v4 v5 0 0 σ) fun σ1 => zck σ1 9 v0 (zb (fX8_putBid n v0 v4 v5 0 0 σ1) fun σ2 => sX8_makeLot_89 n k v0 v4 (v5 + 1) σ2)) else some (v4, σ)
def fX8_makeLot (n : Nat) (a0 : Nat) (a1 : Int32) (a2 : Int32) (a3 : Int32) (σ : zW) : Option (Int32 × zW) := zgR σ 9 a0 1 fun x3 => zaI σ x3 23 fun x4 => zgR σ 9 a0 1 fun x5 => zaI σ x5 23 fun x6 => zsI σ x5 23 (x6 + 1) fun σ7 => zck σ7 9 a0 (zb (fX8_set n a0 x4 0 a1 σ7) fun σ8 => zck σ8 9 a0 (zb (fX8_set n a0 x4 1 a2 σ8) fun σ9 => zck σ9 9 a0 (zb (fX8_set n a0 x4 2 a3 σ9) fun σ10 => zck σ10 9 a0 (zb (fX8_set n a0 x4 3 0 σ10) fun σ11 => zck σ11 9 a0 (zb (fX8_set n a0 x4 4 0 σ11) fun σ12 => zck σ12 9 a0 (zb (fX8_set n a0 x4 5 (-1) σ12) fun σ13 => zck σ13 9 a0 (zb (fX8_set n a0 x4 6 (-1) σ13) fun σ14 => zck σ14 9 a0 (zb (fX8_set n a0 x4 7 0 σ14) fun σ15 => sX8_makeLot_89 n n a0 x4 0 σ15))))))))
theorem gsX8_makeLot_89 (F : zFx E) (n : Nat) (hk : zk E K "LotSalesModel" cX8_makeLot 6 1) (he : zend E K (some .int) "makeLot") : ∀ (k : Nat) (v0 : Nat) (v4 : Int32) (v5 : Int32) (σ : zW), zG E K zfW (sX8_makeLot_89 n k v0 v4 v5 σ) σ 89 [some (.inr (.inl v0)), none, none, none, some (.inl v4), some (.inl v5)] [] := by
  intro k
  induction k with
  | zero =>
    intro v0 v4 v5 σ
    intro hX
    exact z_none hX
  | succ k ih =>
    intro v0 v4 v5 σ
    rw [sX8_makeLot_89]
    refine z_run hk hX8_makeLot_0 55 2 (pc' := 93) (lv' := [some (.inr (.inl v0)), none, none, none, some (.inl v4), some (.inl v5)]) (st' := [.inl 10, .inl v5]) rfl ?_
    refine z_cge hk (z_row hX8_makeLot_0 57 rfl) (tgt := 122) rfl ?_ ?_
    · refine z_run hk hX8_makeLot_1 12 1 (pc' := 124) (lv' := [some (.inr (.inl v0)), none, none, none, some (.inl v4), some (.inl v5)]) (st' := [.inl v4]) rfl ?_
      exact z_iret hk he (z_row hX8_makeLot_1 13 rfl) rfl
    · refine z_run hk hX8_makeLot_0 58 2 (pc' := 99) (lv' := [some (.inr (.inl v0)), none, none, none, some (.inl v4), some (.inl v5)]) (st' := [.inl v4, .inr (.inl v0)]) rfl ?_
      refine z_run hk hX8_makeLot_1 0 3 (pc' := 103) (lv' := [some (.inr (.inl v0)), none, none, none, some (.inl v4), some (.inl v5)]) (st' := [.inl 0, .inl 0, .inl v5, .inl v4, .inr (.inl v0)]) rfl ?_
      refine kX8_putOrder F hk (z_row hX8_makeLot_1 3 rfl) wd_1197 (by decide) (Nat.le_of_ble_eq_true rfl) (fun σ1 => ?_)
      refine z_run hk hX8_makeLot_1 4 5 (pc' := 113) (lv' := [some (.inr (.inl v0)), none, none, none, some (.inl v4), some (.inl v5)]) (st' := [.inl 0, .inl 0, .inl v5, .inl v4, .inr (.inl v0)]) rfl ?_
      refine kX8_putBid F hk (z_row hX8_makeLot_1 9 rfl) wd_1201 (by decide) (Nat.le_of_ble_eq_true rfl) (fun σ2 => ?_)
      refine z_run hk hX8_makeLot_1 10 1 (pc' := 119) (lv' := [some (.inr (.inl v0)), none, none, none, some (.inl v4), some (.inl (v5 + 1))]) (st' := []) rfl ?_
      refine z_goto hk (z_row hX8_makeLot_1 11 rfl) (tgt := 89) rfl ?_
      exact ih v0 v4 (v5 + 1) σ2
theorem mX8_makeLot (F : zFx E) (n : Nat) (a0 : Nat) (a1 : Int32) (a2 : Int32) (a3 : Int32) (σ : zW) (o : Int32 × zW) (hf : fX8_makeLot n a0 a1 a2 a3 σ = some o) : zM E qX8_makeLot cX8_makeLot 6 (some .int) 1 [.inr (.inl a0), .inl a1, .inl a2, .inl a3] σ (some (.int o.1)) o.2 := by
  refine zM_of (fin := zfW) F (by decide +kernel) rfl (Nat.le_of_ble_eq_true rfl) (lv0 := [some (.inr (.inl a0)), some (.inl a1), some (.inl a2), some (.inl a3), none, none]) rfl hf rfl (fun K hk he => ?_)
  have hk : zk E K "LotSalesModel" cX8_makeLot 6 1 := hk
  unfold fX8_makeLot
  refine z_run hk hX8_makeLot_0 0 1 (pc' := 1) (lv' := [some (.inr (.inl a0)), some (.inl a1), some (.inl a2), some (.inl a3), none, none]) (st' := [.inr (.inl a0)]) rfl ?_
  refine z_gR hk 1 (z_row hX8_makeLot_0 1 rfl) (ci := 8) rfl rfl wd_1123 (fun x3 => ?_)
  refine z_run hk hX8_makeLot_0 2 1 (pc' := 6) (lv' := [some (.inr (.inl a0)), some (.inl a1), some (.inl a2), some (.inl a3), none, none]) (st' := [.inl 23, .inr (.inl x3)]) rfl ?_
  refine z_aI hk (z_row hX8_makeLot_0 3 rfl) (fun x4 => ?_)
  refine z_run hk hX8_makeLot_0 4 2 (pc' := 10) (lv' := [some (.inr (.inl a0)), some (.inl a1), some (.inl a2), some (.inl a3), some (.inl x4), none]) (st' := [.inr (.inl a0)]) rfl ?_
  refine z_gR hk 1 (z_row hX8_makeLot_0 6 rfl) (ci := 8) rfl rfl wd_1123 (fun x5 => ?_)
  refine z_run hk hX8_makeLot_0 7 2 (pc' := 16) (lv' := [some (.inr (.inl a0)), some (.inl a1), some (.inl a2), some (.inl a3), some (.inl x4), none]) (st' := [.inl 23, .inr (.inl x5), .inl 23, .inr (.inl x5)]) rfl ?_
  refine z_aI hk (z_row hX8_makeLot_0 9 rfl) (fun x6 => ?_)
  refine z_run hk hX8_makeLot_0 10 2 (pc' := 19) (lv' := [some (.inr (.inl a0)), some (.inl a1), some (.inl a2), some (.inl a3), some (.inl x4), none]) (st' := [.inl (x6 + 1), .inl 23, .inr (.inl x5)]) rfl ?_
  refine z_sI hk (z_row hX8_makeLot_0 12 rfl) (fun σ7 => ?_)
  refine z_run hk hX8_makeLot_0 13 4 (pc' := 25) (lv' := [some (.inr (.inl a0)), some (.inl a1), some (.inl a2), some (.inl a3), some (.inl x4), none]) (st' := [.inl a1, .inl 0, .inl x4, .inr (.inl a0)]) rfl ?_
  refine kX8_set F hk (z_row hX8_makeLot_0 17 rfl) wd_1193 (by decide) (Nat.le_of_ble_eq_true rfl) (fun σ8 => ?_)
  refine z_run hk hX8_makeLot_0 18 4 (pc' := 33) (lv' := [some (.inr (.inl a0)), some (.inl a1), some (.inl a2), some (.inl a3), some (.inl x4), none]) (st' := [.inl a2, .inl 1, .inl x4, .inr (.inl a0)]) rfl ?_
  refine kX8_set F hk (z_row hX8_makeLot_0 22 rfl) wd_1193 (by decide) (Nat.le_of_ble_eq_true rfl) (fun σ9 => ?_)
  refine z_run hk hX8_makeLot_0 23 4 (pc' := 41) (lv' := [some (.inr (.inl a0)), some (.inl a1), some (.inl a2), some (.inl a3), some (.inl x4), none]) (st' := [.inl a3, .inl 2, .inl x4, .inr (.inl a0)]) rfl ?_
  refine kX8_set F hk (z_row hX8_makeLot_0 27 rfl) wd_1193 (by decide) (Nat.le_of_ble_eq_true rfl) (fun σ10 => ?_)
  refine z_run hk hX8_makeLot_0 28 4 (pc' := 49) (lv' := [some (.inr (.inl a0)), some (.inl a1), some (.inl a2), some (.inl a3), some (.inl x4), none]) (st' := [.inl 0, .inl 3, .inl x4, .inr (.inl a0)]) rfl ?_
  refine kX8_set F hk (z_row hX8_makeLot_0 32 rfl) wd_1193 (by decide) (Nat.le_of_ble_eq_true rfl) (fun σ11 => ?_)
  refine z_run hk hX8_makeLot_0 33 4 (pc' := 57) (lv' := [some (.inr (.inl a0)), some (.inl a1), some (.inl a2), some (.inl a3), some (.inl x4), none]) (st' := [.inl 0, .inl 4, .inl x4, .inr (.inl a0)]) rfl ?_
  refine kX8_set F hk (z_row hX8_makeLot_0 37 rfl) wd_1193 (by decide) (Nat.le_of_ble_eq_true rfl) (fun σ12 => ?_)
  refine z_run hk hX8_makeLot_0 38 4 (pc' := 65) (lv' := [some (.inr (.inl a0)), some (.inl a1), some (.inl a2), some (.inl a3), some (.inl x4), none]) (st' := [.inl (-1), .inl 5, .inl x4, .inr (.inl a0)]) rfl ?_
  refine kX8_set F hk (z_row hX8_makeLot_0 42 rfl) wd_1193 (by decide) (Nat.le_of_ble_eq_true rfl) (fun σ13 => ?_)
  refine z_run hk hX8_makeLot_0 43 4 (pc' := 74) (lv' := [some (.inr (.inl a0)), some (.inl a1), some (.inl a2), some (.inl a3), some (.inl x4), none]) (st' := [.inl (-1), .inl 6, .inl x4, .inr (.inl a0)]) rfl ?_
  refine kX8_set F hk (z_row hX8_makeLot_0 47 rfl) wd_1193 (by decide) (Nat.le_of_ble_eq_true rfl) (fun σ14 => ?_)
  refine z_run hk hX8_makeLot_0 48 4 (pc' := 83) (lv' := [some (.inr (.inl a0)), some (.inl a1), some (.inl a2), some (.inl a3), some (.inl x4), none]) (st' := [.inl 0, .inl 7, .inl x4, .inr (.inl a0)]) rfl ?_
  refine kX8_set F hk (z_row hX8_makeLot_0 52 rfl) wd_1193 (by decide) (Nat.le_of_ble_eq_true rfl) (fun σ15 => ?_)
  refine z_run hk hX8_makeLot_0 53 2 (pc' := 89) (lv' := [some (.inr (.inl a0)), some (.inl a1), some (.inl a2), some (.inl a3), some (.inl x4), some (.inl 0)]) (st' := []) rfl ?_
  refine z_mask [true, false, false, false, true, true] rfl ?_
  exact gsX8_makeLot_89 F n hk he n a0 x4 0 σ15
theorem kX8_makeLot {n : Nat} {own : String} {cc : ByteArray} {nL h index : Nat} {α : Type} {fin : α → zO} {σ : zW} {pc : Nat} {lv : zLV} {st : List zV} {a0 : Nat} {a1 : Int32} {a2 : Int32} {a3 : Int32} {c : Int32 → zW → Option α} (F : zFx E) (hk : zk E K own cc nL h) (hd : decode cc pc = .ok (.invokevirtual index, 3)) (hl : Cond.methodLink own index qX8_makeLot ∈ lw_tbl) (hh : 1 + 1 ≤ h) (hs : zcat st ≤ 8) (k : ∀ v s, zG E K fin (c v s) s (pc + 3) lv (.inl v :: st)) : zG E K fin (zck σ 9 a0 (zb2 (fX8_makeLot n a0 a1 a2 a3 σ) c)) σ pc lv (.inl a3 :: .inl a2 :: .inl a1 :: .inr (.inl a0) :: st) :=
  z_vW (n := 3) (y := qX8_makeLot) (As := [.inl a1, .inl a2, .inl a3]) hk hd hl wd_1191 ws_16 wd_10 wd_1192 ⟨by decide, by decide, by decide +kernel⟩ ⟨hh, by decide⟩ (ci := 8) rfl rfl rfl (fun o ho => mX8_makeLot F n a0 a1 a2 a3 σ o ho) hs k
abbrev qX8_orderOf : MethodName := { cls := "LotSalesModel", name := "orderOf", desc := "(II)I" }
def fX8_orderOf (n : Nat) (a0 : Nat) (a1 : Int32) (a2 : Int32) (σ : zW) : Option (Int32) := zgR σ 9 a0 1 fun x1 => zaI σ x1 ((184 + (10 * a1)) + a2) fun x2 => some x2
theorem mX8_orderOf (F : zFx E) (n : Nat) (a0 : Nat) (a1 : Int32) (a2 : Int32) (σ : zW) (o : Int32) (hf : fX8_orderOf n a0 a1 a2 σ = some o) : zM E qX8_orderOf cX8_orderOf 3 (some .int) 0 [.inr (.inl a0), .inl a1, .inl a2] σ (some (.int o)) σ := by
  refine zM_of (fin := (zfR σ)) F (by decide +kernel) rfl (Nat.le_of_ble_eq_true rfl) (lv0 := [some (.inr (.inl a0)), some (.inl a1), some (.inl a2)]) rfl hf rfl (fun K hk he => ?_)
  have hk : zk E K "LotSalesModel" cX8_orderOf 3 0 := hk
  unfold fX8_orderOf
  refine z_run hk hX8_orderOf_0 0 1 (pc' := 1) (lv' := [some (.inr (.inl a0)), some (.inl a1), some (.inl a2)]) (st' := [.inr (.inl a0)]) rfl ?_
  refine z_gR hk 1 (z_row hX8_orderOf_0 1 rfl) (ci := 8) rfl rfl wd_1123 (fun x1 => ?_)
  refine z_run hk hX8_orderOf_0 2 7 (pc' := 14) (lv' := [some (.inr (.inl a0)), some (.inl a1), some (.inl a2)]) (st' := [.inl ((184 + (10 * a1)) + a2), .inr (.inl x1)]) rfl ?_
  refine z_aI hk (z_row hX8_orderOf_0 9 rfl) (fun x2 => ?_)
  exact z_iret hk he (z_row hX8_orderOf_0 10 rfl) rfl
theorem kX8_orderOf {n : Nat} {own : String} {cc : ByteArray} {nL h index : Nat} {α : Type} {fin : α → zO} {σ : zW} {pc : Nat} {lv : zLV} {st : List zV} {a0 : Nat} {a1 : Int32} {a2 : Int32} {c : Int32 → Option α} (F : zFx E) (hk : zk E K own cc nL h) (hd : decode cc pc = .ok (.invokevirtual index, 3)) (hl : Cond.methodLink own index qX8_orderOf ∈ lw_tbl) (hh : 0 + 1 ≤ h) (hs : zcat st ≤ 8) (k : ∀ v, zG E K fin (c v) σ (pc + 3) lv (.inl v :: st)) : zG E K fin (zck σ 9 a0 (zb (fX8_orderOf n a0 a1 a2 σ) c)) σ pc lv (.inl a2 :: .inl a1 :: .inr (.inl a0) :: st) :=
  z_vR (n := 2) (y := qX8_orderOf) (As := [.inl a1, .inl a2]) hk hd hl wd_1285 ws_30 wd_10 wd_1286 ⟨by decide, by decide, by decide +kernel⟩ ⟨hh, by decide⟩ (ci := 8) rfl rfl rfl (fun o ho => mX8_orderOf F n a0 a1 a2 σ o ho) hs k
abbrev qX8_nextNumber : MethodName := { cls := "LotSalesModel", name := "nextNumber", desc := "()I" }
def fX8_nextNumber (n : Nat) (a0 : Nat) (σ : zW) : Option (Int32 × zW) := zgR σ 9 a0 1 fun x1 => zaI σ x1 984 fun x2 => zsI σ x1 984 (x2 + 1) fun σ3 => zgR σ3 9 a0 1 fun x4 => zaI σ3 x4 984 fun x5 => some (x5, σ3)
theorem mX8_nextNumber (F : zFx E) (n : Nat) (a0 : Nat) (σ : zW) (o : Int32 × zW) (hf : fX8_nextNumber n a0 σ = some o) : zM E qX8_nextNumber cX8_nextNumber 1 (some .int) 0 [.inr (.inl a0)] σ (some (.int o.1)) o.2 := by
  refine zM_of (fin := zfW) F (by decide +kernel) rfl (Nat.le_of_ble_eq_true rfl) (lv0 := [some (.inr (.inl a0))]) rfl hf rfl (fun K hk he => ?_)
  have hk : zk E K "LotSalesModel" cX8_nextNumber 1 0 := hk
  unfold fX8_nextNumber
  refine z_run hk hX8_nextNumber_0 0 1 (pc' := 1) (lv' := [some (.inr (.inl a0))]) (st' := [.inr (.inl a0)]) rfl ?_
  refine z_gR hk 1 (z_row hX8_nextNumber_0 1 rfl) (ci := 8) rfl rfl wd_1123 (fun x1 => ?_)
  refine z_run hk hX8_nextNumber_0 2 2 (pc' := 8) (lv' := [some (.inr (.inl a0))]) (st' := [.inl 984, .inr (.inl x1), .inl 984, .inr (.inl x1)]) rfl ?_
  refine z_aI hk (z_row hX8_nextNumber_0 4 rfl) (fun x2 => ?_)
  refine z_run hk hX8_nextNumber_0 5 2 (pc' := 11) (lv' := [some (.inr (.inl a0))]) (st' := [.inl (x2 + 1), .inl 984, .inr (.inl x1)]) rfl ?_
  refine z_sI hk (z_row hX8_nextNumber_0 7 rfl) (fun σ3 => ?_)
  refine z_run hk hX8_nextNumber_0 8 1 (pc' := 13) (lv' := [some (.inr (.inl a0))]) (st' := [.inr (.inl a0)]) rfl ?_
  refine z_gR hk 1 (z_row hX8_nextNumber_0 9 rfl) (ci := 8) rfl rfl wd_1123 (fun x4 => ?_)
  refine z_run hk hX8_nextNumber_0 10 1 (pc' := 19) (lv' := [some (.inr (.inl a0))]) (st' := [.inl 984, .inr (.inl x4)]) rfl ?_
  refine z_aI hk (z_row hX8_nextNumber_0 11 rfl) (fun x5 => ?_)
  exact z_iret hk he (z_row hX8_nextNumber_0 12 rfl) rfl
theorem kX8_nextNumber {n : Nat} {own : String} {cc : ByteArray} {nL h index : Nat} {α : Type} {fin : α → zO} {σ : zW} {pc : Nat} {lv : zLV} {st : List zV} {a0 : Nat} {c : Int32 → zW → Option α} (F : zFx E) (hk : zk E K own cc nL h) (hd : decode cc pc = .ok (.invokevirtual index, 3)) (hl : Cond.methodLink own index qX8_nextNumber ∈ lw_tbl) (hh : 0 + 1 ≤ h) (hs : zcat st ≤ 8) (k : ∀ v s, zG E K fin (c v s) s (pc + 3) lv (.inl v :: st)) : zG E K fin (zck σ 9 a0 (zb2 (fX8_nextNumber n a0 σ) c)) σ pc lv (.inr (.inl a0) :: st) :=
  z_vW (n := 0) (y := qX8_nextNumber) (As := []) hk hd hl wd_1289 ws_31 wd_10 wd_1290 ⟨by decide, by decide, by decide +kernel⟩ ⟨hh, by decide⟩ (ci := 8) rfl rfl rfl (fun o ho => mX8_nextNumber F n a0 σ o ho) hs k
abbrev qX8_ordersOf : MethodName := { cls := "LotSalesModel", name := "ordersOf", desc := "(I)I" }
def sX8_ordersOf_25 (n : Nat) (σ : zW) (r4 : Nat → Int32 → Int32 → Int32 → Option (Int32)) (v0 : Nat) (v1 : Int32) (v3 : Int32) (y0 : Int32) (y1 : Int32) : Option (Int32) := r4 v0 v1 (y0 + y1) (v3 + 1)
def sX8_ordersOf_4 (n : Nat) (σ : zW) : Nat → Nat → Int32 → Int32 → Int32 → Option (Int32)
  | 0, _, _, _, _ => none
  | k + 1, v0, v1, v2, v3 => if v3 < 10 then zck σ 9 v0 (zb (fX8_orderOf n v0 v1 v3 σ) fun x1 => if 0 < x1 then sX8_ordersOf_25 n σ (sX8_ordersOf_4 n σ k) v0 v1 v3 v2 1 else sX8_ordersOf_25 n σ (sX8_ordersOf_4 n σ k) v0 v1 v3 v2 0) else some v2
def fX8_ordersOf (n : Nat) (a0 : Nat) (a1 : Int32) (σ : zW) : Option (Int32) := sX8_ordersOf_4 n σ n a0 a1 0 0
theorem gsX8_ordersOf_25 (F : zFx E) (n : Nat) (σ : zW) (hk : zk E K "LotSalesModel" cX8_ordersOf 4 1) (he : zend E K (some .int) "ordersOf") (r4 : Nat → Int32 → Int32 → Int32 → Option (Int32)) (hr4 : ∀ (v0 : Nat) (v1 : Int32) (v2 : Int32) (v3 : Int32), zG E K (zfR σ) (r4 v0 v1 v2 v3) σ 4 [some (.inr (.inl v0)), some (.inl v1), some (.inl v2), some (.inl v3)] []) (v0 : Nat) (v1 : Int32) (v3 : Int32) (y0 : Int32) (y1 : Int32) : zG E K (zfR σ) (sX8_ordersOf_25 n σ r4 v0 v1 v3 y0 y1) σ 25 [some (.inr (.inl v0)), some (.inl v1), none, some (.inl v3)] [.inl y1, .inl y0] := by
  unfold sX8_ordersOf_25
  refine z_run hk hX8_ordersOf_0 16 3 (pc' := 30) (lv' := [some (.inr (.inl v0)), some (.inl v1), some (.inl (y0 + y1)), some (.inl (v3 + 1))]) (st' := []) rfl ?_
  refine z_goto hk (z_row hX8_ordersOf_0 19 rfl) (tgt := 4) rfl ?_
  exact hr4 v0 v1 (y0 + y1) (v3 + 1)
theorem gsX8_ordersOf_4 (F : zFx E) (n : Nat) (σ : zW) (hk : zk E K "LotSalesModel" cX8_ordersOf 4 1) (he : zend E K (some .int) "ordersOf") : ∀ (k : Nat) (v0 : Nat) (v1 : Int32) (v2 : Int32) (v3 : Int32), zG E K (zfR σ) (sX8_ordersOf_4 n σ k v0 v1 v2 v3) σ 4 [some (.inr (.inl v0)), some (.inl v1), some (.inl v2), some (.inl v3)] [] := by
  intro k
  induction k with
  | zero =>
    intro v0 v1 v2 v3
    intro hX
    exact z_none hX
  | succ k ih =>
    intro v0 v1 v2 v3
    rw [sX8_ordersOf_4]
    refine z_run hk hX8_ordersOf_0 4 2 (pc' := 7) (lv' := [some (.inr (.inl v0)), some (.inl v1), some (.inl v2), some (.inl v3)]) (st' := [.inl 10, .inl v3]) rfl ?_
    refine z_cge hk (z_row hX8_ordersOf_0 6 rfl) (tgt := 33) rfl ?_ ?_
    · refine z_run hk hX8_ordersOf_0 20 1 (pc' := 34) (lv' := [some (.inr (.inl v0)), some (.inl v1), some (.inl v2), some (.inl v3)]) (st' := [.inl v2]) rfl ?_
      exact z_iret hk he (z_row hX8_ordersOf_0 21 rfl) rfl
    · refine z_run hk hX8_ordersOf_0 7 4 (pc' := 14) (lv' := [some (.inr (.inl v0)), some (.inl v1), some (.inl v2), some (.inl v3)]) (st' := [.inl v3, .inl v1, .inr (.inl v0), .inl v2]) rfl ?_
      refine kX8_orderOf F hk (z_row hX8_ordersOf_0 11 rfl) wd_1283 (by decide) (Nat.le_of_ble_eq_true rfl) (fun x1 => ?_)
      refine z_le hk (z_row hX8_ordersOf_0 12 rfl) (tgt := 24) rfl ?_ ?_
      · refine z_run hk hX8_ordersOf_0 15 1 (pc' := 25) (lv' := [some (.inr (.inl v0)), some (.inl v1), some (.inl v2), some (.inl v3)]) (st' := [.inl 0, .inl v2]) rfl ?_
        refine z_mask [true, true, false, true] rfl ?_
        exact gsX8_ordersOf_25 F n σ hk he (sX8_ordersOf_4 n σ k) ih v0 v1 v3 v2 0
      · refine z_run hk hX8_ordersOf_0 13 1 (pc' := 21) (lv' := [some (.inr (.inl v0)), some (.inl v1), some (.inl v2), some (.inl v3)]) (st' := [.inl 1, .inl v2]) rfl ?_
        refine z_goto hk (z_row hX8_ordersOf_0 14 rfl) (tgt := 25) rfl ?_
        refine z_mask [true, true, false, true] rfl ?_
        exact gsX8_ordersOf_25 F n σ hk he (sX8_ordersOf_4 n σ k) ih v0 v1 v3 v2 1
theorem mX8_ordersOf (F : zFx E) (n : Nat) (a0 : Nat) (a1 : Int32) (σ : zW) (o : Int32) (hf : fX8_ordersOf n a0 a1 σ = some o) : zM E qX8_ordersOf cX8_ordersOf 4 (some .int) 1 [.inr (.inl a0), .inl a1] σ (some (.int o)) σ := by
  refine zM_of (fin := (zfR σ)) F (by decide +kernel) rfl (Nat.le_of_ble_eq_true rfl) (lv0 := [some (.inr (.inl a0)), some (.inl a1), none, none]) rfl hf rfl (fun K hk he => ?_)
  have hk : zk E K "LotSalesModel" cX8_ordersOf 4 1 := hk
  unfold fX8_ordersOf
  refine z_run hk hX8_ordersOf_0 0 4 (pc' := 4) (lv' := [some (.inr (.inl a0)), some (.inl a1), some (.inl 0), some (.inl 0)]) (st' := []) rfl ?_
  exact gsX8_ordersOf_4 F n σ hk he n a0 a1 0 0
theorem kX8_ordersOf {n : Nat} {own : String} {cc : ByteArray} {nL h index : Nat} {α : Type} {fin : α → zO} {σ : zW} {pc : Nat} {lv : zLV} {st : List zV} {a0 : Nat} {a1 : Int32} {c : Int32 → Option α} (F : zFx E) (hk : zk E K own cc nL h) (hd : decode cc pc = .ok (.invokevirtual index, 3)) (hl : Cond.methodLink own index qX8_ordersOf ∈ lw_tbl) (hh : 1 + 1 ≤ h) (hs : zcat st ≤ 8) (k : ∀ v, zG E K fin (c v) σ (pc + 3) lv (.inl v :: st)) : zG E K fin (zck σ 9 a0 (zb (fX8_ordersOf n a0 a1 σ) c)) σ pc lv (.inl a1 :: .inr (.inl a0) :: st) :=
  z_vR (n := 1) (y := qX8_ordersOf) (As := [.inl a1]) hk hd hl wd_1281 ws_29 wd_10 wd_1282 ⟨by decide, by decide, by decide +kernel⟩ ⟨hh, by decide⟩ (ci := 8) rfl rfl rfl (fun o ho => mX8_ordersOf F n a0 a1 σ o ho) hs k
abbrev qX8_allOrders : MethodName := { cls := "LotSalesModel", name := "allOrders", desc := "()I" }
def sX8_allOrders_4 (n : Nat) (σ : zW) : Nat → Nat → Int32 → Int32 → Option (Int32)
  | 0, _, _, _ => none
  | k + 1, v0, v1, v2 => zgR σ 9 v0 1 fun x1 => zaI σ x1 23 fun x2 => if v2 < x2 then zck σ 9 v0 (zb (fX8_ordersOf n v0 v2 σ) fun x3 => sX8_allOrders_4 n σ k v0 (v1 + x3) (v2 + 1)) else some v1
def fX8_allOrders (n : Nat) (a0 : Nat) (σ : zW) : Option (Int32) := sX8_allOrders_4 n σ n a0 0 0
theorem gsX8_allOrders_4 (F : zFx E) (n : Nat) (σ : zW) (hk : zk E K "LotSalesModel" cX8_allOrders 3 2) (he : zend E K (some .int) "allOrders") : ∀ (k : Nat) (v0 : Nat) (v1 : Int32) (v2 : Int32), zG E K (zfR σ) (sX8_allOrders_4 n σ k v0 v1 v2) σ 4 [some (.inr (.inl v0)), some (.inl v1), some (.inl v2)] [] := by
  intro k
  induction k with
  | zero =>
    intro v0 v1 v2
    intro hX
    exact z_none hX
  | succ k ih =>
    intro v0 v1 v2
    rw [sX8_allOrders_4]
    refine z_run hk hX8_allOrders_0 4 2 (pc' := 6) (lv' := [some (.inr (.inl v0)), some (.inl v1), some (.inl v2)]) (st' := [.inr (.inl v0), .inl v2]) rfl ?_
    refine z_gR hk 1 (z_row hX8_allOrders_0 6 rfl) (ci := 8) rfl rfl wd_1123 (fun x1 => ?_)
    refine z_run hk hX8_allOrders_0 7 1 (pc' := 11) (lv' := [some (.inr (.inl v0)), some (.inl v1), some (.inl v2)]) (st' := [.inl 23, .inr (.inl x1), .inl v2]) rfl ?_
    refine z_aI hk (z_row hX8_allOrders_0 8 rfl) (fun x2 => ?_)
    refine z_cge hk (z_row hX8_allOrders_0 9 rfl) (tgt := 29) rfl ?_ ?_
    · refine z_run hk hX8_allOrders_0 18 1 (pc' := 30) (lv' := [some (.inr (.inl v0)), some (.inl v1), some (.inl v2)]) (st' := [.inl v1]) rfl ?_
      exact z_iret hk he (z_row hX8_allOrders_0 19 rfl) rfl
    · refine z_run hk hX8_allOrders_0 10 3 (pc' := 18) (lv' := [some (.inr (.inl v0)), some (.inl v1), some (.inl v2)]) (st' := [.inl v2, .inr (.inl v0), .inl v1]) rfl ?_
      refine kX8_ordersOf F hk (z_row hX8_allOrders_0 13 rfl) wd_1279 (by decide) (Nat.le_of_ble_eq_true rfl) (fun x3 => ?_)
      refine z_run hk hX8_allOrders_0 14 3 (pc' := 26) (lv' := [some (.inr (.inl v0)), some (.inl (v1 + x3)), some (.inl (v2 + 1))]) (st' := []) rfl ?_
      refine z_goto hk (z_row hX8_allOrders_0 17 rfl) (tgt := 4) rfl ?_
      exact ih v0 (v1 + x3) (v2 + 1)
theorem mX8_allOrders (F : zFx E) (n : Nat) (a0 : Nat) (σ : zW) (o : Int32) (hf : fX8_allOrders n a0 σ = some o) : zM E qX8_allOrders cX8_allOrders 3 (some .int) 2 [.inr (.inl a0)] σ (some (.int o)) σ := by
  refine zM_of (fin := (zfR σ)) F (by decide +kernel) rfl (Nat.le_of_ble_eq_true rfl) (lv0 := [some (.inr (.inl a0)), none, none]) rfl hf rfl (fun K hk he => ?_)
  have hk : zk E K "LotSalesModel" cX8_allOrders 3 2 := hk
  unfold fX8_allOrders
  refine z_run hk hX8_allOrders_0 0 4 (pc' := 4) (lv' := [some (.inr (.inl a0)), some (.inl 0), some (.inl 0)]) (st' := []) rfl ?_
  exact gsX8_allOrders_4 F n σ hk he n a0 0 0
theorem kX8_allOrders {n : Nat} {own : String} {cc : ByteArray} {nL h index : Nat} {α : Type} {fin : α → zO} {σ : zW} {pc : Nat} {lv : zLV} {st : List zV} {a0 : Nat} {c : Int32 → Option α} (F : zFx E) (hk : zk E K own cc nL h) (hd : decode cc pc = .ok (.invokevirtual index, 3)) (hl : Cond.methodLink own index qX8_allOrders ∈ lw_tbl) (hh : 2 + 1 ≤ h) (hs : zcat st ≤ 8) (k : ∀ v, zG E K fin (c v) σ (pc + 3) lv (.inl v :: st)) : zG E K fin (zck σ 9 a0 (zb (fX8_allOrders n a0 σ) c)) σ pc lv (.inr (.inl a0) :: st) :=
  z_vR (n := 0) (y := qX8_allOrders) (As := []) hk hd hl wd_1277 ws_28 wd_10 wd_1278 ⟨by decide, by decide, by decide +kernel⟩ ⟨hh, by decide⟩ (ci := 8) rfl rfl rfl (fun o ho => mX8_allOrders F n a0 σ o ho) hs k
abbrev qX8_removeOrders : MethodName := { cls := "LotSalesModel", name := "removeOrders", desc := "(I)I" }
def sX8_removeOrders_8 (n : Nat) : Nat → Nat → Int32 → Int32 → Int32 → zW → Option (Int32 × zW)
  | 0, _, _, _, _, _ => none
  | k + 1, v0, v1, v2, v3, σ => if v3 < 10 then zck σ 9 v0 (zb (fX8_putOrder n v0 v1 v3 0 0 σ) fun σ1 => sX8_removeOrders_8 n k v0 v1 v2 (v3 + 1) σ1) else some (v2, σ)
def fX8_removeOrders (n : Nat) (a0 : Nat) (a1 : Int32) (σ : zW) : Option (Int32 × zW) := zck σ 9 a0 (zb (fX8_ordersOf n a0 a1 σ) fun x2 => sX8_removeOrders_8 n n a0 a1 x2 0 σ)
theorem gsX8_removeOrders_8 (F : zFx E) (n : Nat) (hk : zk E K "LotSalesModel" cX8_removeOrders 4 2) (he : zend E K (some .int) "removeOrders") : ∀ (k : Nat) (v0 : Nat) (v1 : Int32) (v2 : Int32) (v3 : Int32) (σ : zW), zG E K zfW (sX8_removeOrders_8 n k v0 v1 v2 v3 σ) σ 8 [some (.inr (.inl v0)), some (.inl v1), some (.inl v2), some (.inl v3)] [] := by
  intro k
  induction k with
  | zero =>
    intro v0 v1 v2 v3 σ
    intro hX
    exact z_none hX
  | succ k ih =>
    intro v0 v1 v2 v3 σ
    rw [sX8_removeOrders_8]
    refine z_run hk hX8_removeOrders_0 6 2 (pc' := 11) (lv' := [some (.inr (.inl v0)), some (.inl v1), some (.inl v2), some (.inl v3)]) (st' := [.inl 10, .inl v3]) rfl ?_
    refine z_cge hk (z_row hX8_removeOrders_0 8 rfl) (tgt := 28) rfl ?_ ?_
    · refine z_run hk hX8_removeOrders_0 17 1 (pc' := 29) (lv' := [some (.inr (.inl v0)), some (.inl v1), some (.inl v2), some (.inl v3)]) (st' := [.inl v2]) rfl ?_
      exact z_iret hk he (z_row hX8_removeOrders_0 18 rfl) rfl
    · refine z_run hk hX8_removeOrders_0 9 5 (pc' := 19) (lv' := [some (.inr (.inl v0)), some (.inl v1), some (.inl v2), some (.inl v3)]) (st' := [.inl 0, .inl 0, .inl v3, .inl v1, .inr (.inl v0)]) rfl ?_
      refine kX8_putOrder F hk (z_row hX8_removeOrders_0 14 rfl) wd_1197 (by decide) (Nat.le_of_ble_eq_true rfl) (fun σ1 => ?_)
      refine z_run hk hX8_removeOrders_0 15 1 (pc' := 25) (lv' := [some (.inr (.inl v0)), some (.inl v1), some (.inl v2), some (.inl (v3 + 1))]) (st' := []) rfl ?_
      refine z_goto hk (z_row hX8_removeOrders_0 16 rfl) (tgt := 8) rfl ?_
      exact ih v0 v1 v2 (v3 + 1) σ1
theorem mX8_removeOrders (F : zFx E) (n : Nat) (a0 : Nat) (a1 : Int32) (σ : zW) (o : Int32 × zW) (hf : fX8_removeOrders n a0 a1 σ = some o) : zM E qX8_removeOrders cX8_removeOrders 4 (some .int) 2 [.inr (.inl a0), .inl a1] σ (some (.int o.1)) o.2 := by
  refine zM_of (fin := zfW) F (by decide +kernel) rfl (Nat.le_of_ble_eq_true rfl) (lv0 := [some (.inr (.inl a0)), some (.inl a1), none, none]) rfl hf rfl (fun K hk he => ?_)
  have hk : zk E K "LotSalesModel" cX8_removeOrders 4 2 := hk
  unfold fX8_removeOrders
  refine z_run hk hX8_removeOrders_0 0 2 (pc' := 2) (lv' := [some (.inr (.inl a0)), some (.inl a1), none, none]) (st' := [.inl a1, .inr (.inl a0)]) rfl ?_
  refine kX8_ordersOf F hk (z_row hX8_removeOrders_0 2 rfl) wd_1279 (by decide) (Nat.le_of_ble_eq_true rfl) (fun x2 => ?_)
  refine z_run hk hX8_removeOrders_0 3 3 (pc' := 8) (lv' := [some (.inr (.inl a0)), some (.inl a1), some (.inl x2), some (.inl 0)]) (st' := []) rfl ?_
  exact gsX8_removeOrders_8 F n hk he n a0 a1 x2 0 σ
theorem kX8_removeOrders {n : Nat} {own : String} {cc : ByteArray} {nL h index : Nat} {α : Type} {fin : α → zO} {σ : zW} {pc : Nat} {lv : zLV} {st : List zV} {a0 : Nat} {a1 : Int32} {c : Int32 → zW → Option α} (F : zFx E) (hk : zk E K own cc nL h) (hd : decode cc pc = .ok (.invokevirtual index, 3)) (hl : Cond.methodLink own index qX8_removeOrders ∈ lw_tbl) (hh : 2 + 1 ≤ h) (hs : zcat st ≤ 8) (k : ∀ v s, zG E K fin (c v s) s (pc + 3) lv (.inl v :: st)) : zG E K fin (zck σ 9 a0 (zb2 (fX8_removeOrders n a0 a1 σ) c)) σ pc lv (.inl a1 :: .inr (.inl a0) :: st) :=
  z_vW (n := 1) (y := qX8_removeOrders) (As := [.inl a1]) hk hd hl wd_1398 ws_46 wd_10 wd_1399 ⟨by decide, by decide, by decide +kernel⟩ ⟨hh, by decide⟩ (ci := 8) rfl rfl rfl (fun o ho => mX8_removeOrders F n a0 a1 σ o ho) hs k
abbrev qX8_addLot : MethodName := { cls := "LotSalesModel", name := "addLot", desc := "(III)I" }
def sX8_addLot_51 (n : Nat) (v0 : Nat) (v1 : Int32) (v2 : Int32) (v3 : Int32) (y0 : Nat) (y1 : Int32) (σ : zW) : Option (Int32 × zW) := zpI σ 9 y0 0 y1 fun σ1 => zgI σ1 9 v0 0 fun x2 => if x2 = 0 then zck σ1 9 v0 (zb (fX8_keep n v0 σ1) fun σ3 => zck σ3 9 v0 (zb2 (fX8_makeLot n v0 v1 v2 v3 σ3) fun x4 σ5 => some (x4, σ5))) else some (0, σ1)
def sX8_addLot_30 (n : Nat) (v0 : Nat) (v1 : Int32) (v2 : Int32) (v3 : Int32) (y0 : Nat) (σ : zW) : Option (Int32 × zW) := sX8_addLot_51 n v0 v1 v2 v3 y0 1 σ
def fX8_addLot (n : Nat) (a0 : Nat) (a1 : Int32) (a2 : Int32) (a3 : Int32) (σ : zW) : Option (Int32 × zW) := zb (fX8_isIn n a1 0 5 σ) fun x6 => if x6 = 0 then sX8_addLot_30 n a0 a1 a2 a3 a0 σ else zb (fX8_isIn n a2 1 20 σ) fun x7 => if x7 = 0 then sX8_addLot_30 n a0 a1 a2 a3 a0 σ else zb (fX8_isIn n a3 0 90000 σ) fun x8 => if x8 = 0 then sX8_addLot_30 n a0 a1 a2 a3 a0 σ else zgR σ 9 a0 1 fun x9 => zaI σ x9 23 fun x10 => if x10 = 20 then sX8_addLot_51 n a0 a1 a2 a3 a0 2 σ else sX8_addLot_51 n a0 a1 a2 a3 a0 0 σ
theorem gsX8_addLot_51 (F : zFx E) (n : Nat) (hk : zk E K "LotSalesModel" cX8_addLot 4 2) (he : zend E K (some .int) "addLot") (v0 : Nat) (v1 : Int32) (v2 : Int32) (v3 : Int32) (y0 : Nat) (y1 : Int32) (σ : zW) : zG E K zfW (sX8_addLot_51 n v0 v1 v2 v3 y0 y1 σ) σ 51 [some (.inr (.inl v0)), some (.inl v1), some (.inl v2), some (.inl v3)] [.inl y1, .inr (.inl y0)] := by
  unfold sX8_addLot_51
  refine z_pI hk 0 (z_row hX8_addLot_0 27 rfl) (ci := 8) rfl rfl wd_1122 rfl rfl rfl (fun σ1 => ?_)
  refine z_run hk hX8_addLot_0 28 1 (pc' := 55) (lv' := [some (.inr (.inl v0)), some (.inl v1), some (.inl v2), some (.inl v3)]) (st' := [.inr (.inl v0)]) rfl ?_
  refine z_gI hk 0 (z_row hX8_addLot_0 29 rfl) (ci := 8) rfl rfl wd_1122 (fun x2 => ?_)
  refine z_eq hk (z_row hX8_addLot_0 30 rfl) (tgt := 63) rfl ?_ ?_
  · refine z_run hk hX8_addLot_0 33 1 (pc' := 64) (lv' := [some (.inr (.inl v0)), some (.inl v1), some (.inl v2), some (.inl v3)]) (st' := [.inr (.inl v0)]) rfl ?_
    refine kX8_keep F hk (z_row hX8_addLot_0 34 rfl) wd_1185 (by decide) (Nat.le_of_ble_eq_true rfl) (fun σ3 => ?_)
    refine z_run hk hX8_addLot_0 35 4 (pc' := 71) (lv' := [some (.inr (.inl v0)), some (.inl v1), some (.inl v2), some (.inl v3)]) (st' := [.inl v3, .inl v2, .inl v1, .inr (.inl v0)]) rfl ?_
    refine kX8_makeLot F hk (z_row hX8_addLot_0 39 rfl) wd_1189 (by decide) (Nat.le_of_ble_eq_true rfl) (fun x4 σ5 => ?_)
    exact z_iret hk he (z_row hX8_addLot_0 40 rfl) rfl
  · refine z_run hk hX8_addLot_0 31 1 (pc' := 62) (lv' := [some (.inr (.inl v0)), some (.inl v1), some (.inl v2), some (.inl v3)]) (st' := [.inl 0]) rfl ?_
    exact z_iret hk he (z_row hX8_addLot_0 32 rfl) rfl
theorem gsX8_addLot_30 (F : zFx E) (n : Nat) (hk : zk E K "LotSalesModel" cX8_addLot 4 2) (he : zend E K (some .int) "addLot") (v0 : Nat) (v1 : Int32) (v2 : Int32) (v3 : Int32) (y0 : Nat) (σ : zW) : zG E K zfW (sX8_addLot_30 n v0 v1 v2 v3 y0 σ) σ 30 [some (.inr (.inl v0)), some (.inl v1), some (.inl v2), some (.inl v3)] [.inr (.inl y0)] := by
  unfold sX8_addLot_30
  refine z_run hk hX8_addLot_0 16 1 (pc' := 31) (lv' := [some (.inr (.inl v0)), some (.inl v1), some (.inl v2), some (.inl v3)]) (st' := [.inl 1, .inr (.inl y0)]) rfl ?_
  refine z_goto hk (z_row hX8_addLot_0 17 rfl) (tgt := 51) rfl ?_
  exact gsX8_addLot_51 F n hk he v0 v1 v2 v3 y0 1 σ
theorem mX8_addLot (F : zFx E) (n : Nat) (a0 : Nat) (a1 : Int32) (a2 : Int32) (a3 : Int32) (σ : zW) (o : Int32 × zW) (hf : fX8_addLot n a0 a1 a2 a3 σ = some o) : zM E qX8_addLot cX8_addLot 4 (some .int) 2 [.inr (.inl a0), .inl a1, .inl a2, .inl a3] σ (some (.int o.1)) o.2 := by
  refine zM_of (fin := zfW) F (by decide +kernel) rfl (Nat.le_of_ble_eq_true rfl) (lv0 := [some (.inr (.inl a0)), some (.inl a1), some (.inl a2), some (.inl a3)]) rfl hf rfl (fun K hk he => ?_)
  have hk : zk E K "LotSalesModel" cX8_addLot 4 2 := hk
  unfold fX8_addLot
  refine z_run hk hX8_addLot_0 0 4 (pc' := 4) (lv' := [some (.inr (.inl a0)), some (.inl a1), some (.inl a2), some (.inl a3)]) (st' := [.inl 5, .inl 0, .inl a1, .inr (.inl a0)]) rfl ?_
  refine kX8_isIn F hk (z_row hX8_addLot_0 4 rfl) wd_1181 (by decide) (Nat.le_of_ble_eq_true rfl) (fun x6 => ?_)
  refine z_eq hk (z_row hX8_addLot_0 5 rfl) (tgt := 30) rfl ?_ ?_
  · exact gsX8_addLot_30 F n hk he a0 a1 a2 a3 a0 σ
  · refine z_run hk hX8_addLot_0 6 3 (pc' := 14) (lv' := [some (.inr (.inl a0)), some (.inl a1), some (.inl a2), some (.inl a3)]) (st' := [.inl 20, .inl 1, .inl a2, .inr (.inl a0)]) rfl ?_
    refine kX8_isIn F hk (z_row hX8_addLot_0 9 rfl) wd_1181 (by decide) (Nat.le_of_ble_eq_true rfl) (fun x7 => ?_)
    refine z_eq hk (z_row hX8_addLot_0 10 rfl) (tgt := 30) rfl ?_ ?_
    · exact gsX8_addLot_30 F n hk he a0 a1 a2 a3 a0 σ
    · refine z_run hk hX8_addLot_0 11 2 (pc' := 22) (lv' := [some (.inr (.inl a0)), some (.inl a1), some (.inl a2), some (.inl a3)]) (st' := [.inl 0, .inl a3, .inr (.inl a0)]) rfl ?_
      refine z_ldc hk (z_row hX8_addLot_0 13 rfl) wd_1184 ?_
      refine kX8_isIn F hk (z_row hX8_addLot_0 14 rfl) wd_1181 (by decide) (Nat.le_of_ble_eq_true rfl) (fun x8 => ?_)
      refine z_ne hk (z_row hX8_addLot_0 15 rfl) (tgt := 34) rfl ?_ ?_
      · refine z_run hk hX8_addLot_0 18 1 (pc' := 35) (lv' := [some (.inr (.inl a0)), some (.inl a1), some (.inl a2), some (.inl a3)]) (st' := [.inr (.inl a0), .inr (.inl a0)]) rfl ?_
        refine z_gR hk 1 (z_row hX8_addLot_0 19 rfl) (ci := 8) rfl rfl wd_1123 (fun x9 => ?_)
        refine z_run hk hX8_addLot_0 20 1 (pc' := 40) (lv' := [some (.inr (.inl a0)), some (.inl a1), some (.inl a2), some (.inl a3)]) (st' := [.inl 23, .inr (.inl x9), .inr (.inl a0)]) rfl ?_
        refine z_aI hk (z_row hX8_addLot_0 21 rfl) (fun x10 => ?_)
        refine z_run hk hX8_addLot_0 22 1 (pc' := 43) (lv' := [some (.inr (.inl a0)), some (.inl a1), some (.inl a2), some (.inl a3)]) (st' := [.inl 20, .inl x10, .inr (.inl a0)]) rfl ?_
        refine z_cne hk (z_row hX8_addLot_0 23 rfl) (tgt := 50) rfl ?_ ?_
        · refine z_run hk hX8_addLot_0 26 1 (pc' := 51) (lv' := [some (.inr (.inl a0)), some (.inl a1), some (.inl a2), some (.inl a3)]) (st' := [.inl 0, .inr (.inl a0)]) rfl ?_
          exact gsX8_addLot_51 F n hk he a0 a1 a2 a3 a0 0 σ
        · refine z_run hk hX8_addLot_0 24 1 (pc' := 47) (lv' := [some (.inr (.inl a0)), some (.inl a1), some (.inl a2), some (.inl a3)]) (st' := [.inl 2, .inr (.inl a0)]) rfl ?_
          refine z_goto hk (z_row hX8_addLot_0 25 rfl) (tgt := 51) rfl ?_
          exact gsX8_addLot_51 F n hk he a0 a1 a2 a3 a0 2 σ
      · exact gsX8_addLot_30 F n hk he a0 a1 a2 a3 a0 σ
theorem kX8_addLot {n : Nat} {own : String} {cc : ByteArray} {nL h index : Nat} {α : Type} {fin : α → zO} {σ : zW} {pc : Nat} {lv : zLV} {st : List zV} {a0 : Nat} {a1 : Int32} {a2 : Int32} {a3 : Int32} {c : Int32 → zW → Option α} (F : zFx E) (hk : zk E K own cc nL h) (hd : decode cc pc = .ok (.invokevirtual index, 3)) (hl : Cond.methodLink own index qX8_addLot ∈ lw_tbl) (hh : 2 + 1 ≤ h) (hs : zcat st ≤ 8) (k : ∀ v s, zG E K fin (c v s) s (pc + 3) lv (.inl v :: st)) : zG E K fin (zck σ 9 a0 (zb2 (fX8_addLot n a0 a1 a2 a3 σ) c)) σ pc lv (.inl a3 :: .inl a2 :: .inl a1 :: .inr (.inl a0) :: st) :=
  z_vW (n := 3) (y := qX8_addLot) (As := [.inl a1, .inl a2, .inl a3]) hk hd hl wd_1178 wd_1179 wd_10 wd_1180 ⟨by decide, by decide, by decide +kernel⟩ ⟨hh, by decide⟩ (ci := 8) rfl rfl rfl (fun o ho => mX8_addLot F n a0 a1 a2 a3 σ o ho) hs k
abbrev qX8_lot : MethodName := { cls := "LotSalesModel", name := "lot", desc := "(II)I" }
def sX8_lot_76 (n : Nat) (y0 : Int32) (σ : zW) : Option (Int32 × zW) := some (y0, σ)
def sX8_lot_27 (n : Nat) (v0 : Nat) (v1 : Int32) (v2 : Int32) (y0 : Nat) (y1 : Int32) (σ : zW) : Option (Int32 × zW) := zpI σ 9 y0 0 y1 fun σ1 => zgI σ1 9 v0 0 fun x2 => if x2 = 0 then if v2 = 0 then zck σ1 9 v0 (zb (fX8_at n v0 v1 3 σ1) fun x5 => sX8_lot_76 n x5 σ1) else if v2 = 4 then zck σ1 9 v0 (zb (fX8_at n v0 v1 4 σ1) fun x4 => sX8_lot_76 n x4 σ1) else zck σ1 9 v0 (zb (fX8_at n v0 v1 (v2 - 1) σ1) fun x3 => sX8_lot_76 n x3 σ1) else sX8_lot_76 n 0 σ1
def fX8_lot (n : Nat) (a0 : Nat) (a1 : Int32) (a2 : Int32) (σ : zW) : Option (Int32 × zW) := zck σ 9 a0 (zb (fX8_isLot n a0 a1 σ) fun x6 => if x6 = 0 then sX8_lot_27 n a0 a1 a2 a0 1 σ else zb (fX8_isIn n a2 0 4 σ) fun x7 => if x7 = 0 then sX8_lot_27 n a0 a1 a2 a0 2 σ else sX8_lot_27 n a0 a1 a2 a0 0 σ)
theorem gsX8_lot_76 (F : zFx E) (n : Nat) (hk : zk E K "LotSalesModel" cX8_lot 3 2) (he : zend E K (some .int) "lot") (y0 : Int32) (σ : zW) : zG E K zfW (sX8_lot_76 n y0 σ) σ 76 [none, none, none] [.inl y0] := by
  unfold sX8_lot_76
  exact z_iret hk he (z_row hX8_lot_0 42 rfl) rfl
theorem gsX8_lot_27 (F : zFx E) (n : Nat) (hk : zk E K "LotSalesModel" cX8_lot 3 2) (he : zend E K (some .int) "lot") (v0 : Nat) (v1 : Int32) (v2 : Int32) (y0 : Nat) (y1 : Int32) (σ : zW) : zG E K zfW (sX8_lot_27 n v0 v1 v2 y0 y1 σ) σ 27 [some (.inr (.inl v0)), some (.inl v1), some (.inl v2)] [.inl y1, .inr (.inl y0)] := by
  unfold sX8_lot_27
  refine z_pI hk 0 (z_row hX8_lot_0 15 rfl) (ci := 8) rfl rfl wd_1122 rfl rfl rfl (fun σ1 => ?_)
  refine z_run hk hX8_lot_0 16 1 (pc' := 31) (lv' := [some (.inr (.inl v0)), some (.inl v1), some (.inl v2)]) (st' := [.inr (.inl v0)]) rfl ?_
  refine z_gI hk 0 (z_row hX8_lot_0 17 rfl) (ci := 8) rfl rfl wd_1122 (fun x2 => ?_)
  refine z_eq hk (z_row hX8_lot_0 18 rfl) (tgt := 41) rfl ?_ ?_
  · refine z_run hk hX8_lot_0 21 1 (pc' := 42) (lv' := [some (.inr (.inl v0)), some (.inl v1), some (.inl v2)]) (st' := [.inl v2]) rfl ?_
    refine z_ne hk (z_row hX8_lot_0 22 rfl) (tgt := 54) rfl ?_ ?_
    · refine z_run hk hX8_lot_0 28 2 (pc' := 56) (lv' := [some (.inr (.inl v0)), some (.inl v1), some (.inl v2)]) (st' := [.inl 4, .inl v2]) rfl ?_
      refine z_cne hk (z_row hX8_lot_0 30 rfl) (tgt := 68) rfl ?_ ?_
      · refine z_run hk hX8_lot_0 36 5 (pc' := 73) (lv' := [some (.inr (.inl v0)), some (.inl v1), some (.inl v2)]) (st' := [.inl (v2 - 1), .inl v1, .inr (.inl v0)]) rfl ?_
        refine kX8_at F hk (z_row hX8_lot_0 41 rfl) wd_1213 (by decide) (Nat.le_of_ble_eq_true rfl) (fun x3 => ?_)
        refine z_mask [false, false, false] rfl ?_
        exact gsX8_lot_76 F n hk he x3 σ1
      · refine z_run hk hX8_lot_0 31 3 (pc' := 62) (lv' := [some (.inr (.inl v0)), some (.inl v1), some (.inl v2)]) (st' := [.inl 4, .inl v1, .inr (.inl v0)]) rfl ?_
        refine kX8_at F hk (z_row hX8_lot_0 34 rfl) wd_1213 (by decide) (Nat.le_of_ble_eq_true rfl) (fun x4 => ?_)
        refine z_goto hk (z_row hX8_lot_0 35 rfl) (tgt := 76) rfl ?_
        refine z_mask [false, false, false] rfl ?_
        exact gsX8_lot_76 F n hk he x4 σ1
    · refine z_run hk hX8_lot_0 23 3 (pc' := 48) (lv' := [some (.inr (.inl v0)), some (.inl v1), some (.inl v2)]) (st' := [.inl 3, .inl v1, .inr (.inl v0)]) rfl ?_
      refine kX8_at F hk (z_row hX8_lot_0 26 rfl) wd_1213 (by decide) (Nat.le_of_ble_eq_true rfl) (fun x5 => ?_)
      refine z_goto hk (z_row hX8_lot_0 27 rfl) (tgt := 76) rfl ?_
      refine z_mask [false, false, false] rfl ?_
      exact gsX8_lot_76 F n hk he x5 σ1
  · refine z_run hk hX8_lot_0 19 1 (pc' := 38) (lv' := [some (.inr (.inl v0)), some (.inl v1), some (.inl v2)]) (st' := [.inl 0]) rfl ?_
    refine z_goto hk (z_row hX8_lot_0 20 rfl) (tgt := 76) rfl ?_
    refine z_mask [false, false, false] rfl ?_
    exact gsX8_lot_76 F n hk he 0 σ1
theorem mX8_lot (F : zFx E) (n : Nat) (a0 : Nat) (a1 : Int32) (a2 : Int32) (σ : zW) (o : Int32 × zW) (hf : fX8_lot n a0 a1 a2 σ = some o) : zM E qX8_lot cX8_lot 3 (some .int) 2 [.inr (.inl a0), .inl a1, .inl a2] σ (some (.int o.1)) o.2 := by
  refine zM_of (fin := zfW) F (by decide +kernel) rfl (Nat.le_of_ble_eq_true rfl) (lv0 := [some (.inr (.inl a0)), some (.inl a1), some (.inl a2)]) rfl hf rfl (fun K hk he => ?_)
  have hk : zk E K "LotSalesModel" cX8_lot 3 2 := hk
  unfold fX8_lot
  refine z_run hk hX8_lot_0 0 3 (pc' := 3) (lv' := [some (.inr (.inl a0)), some (.inl a1), some (.inl a2)]) (st' := [.inl a1, .inr (.inl a0), .inr (.inl a0)]) rfl ?_
  refine kX8_isLot F hk (z_row hX8_lot_0 3 rfl) wd_1209 (by decide) (Nat.le_of_ble_eq_true rfl) (fun x6 => ?_)
  refine z_ne hk (z_row hX8_lot_0 4 rfl) (tgt := 13) rfl ?_ ?_
  · refine z_run hk hX8_lot_0 7 3 (pc' := 16) (lv' := [some (.inr (.inl a0)), some (.inl a1), some (.inl a2)]) (st' := [.inl 4, .inl 0, .inl a2, .inr (.inl a0)]) rfl ?_
    refine kX8_isIn F hk (z_row hX8_lot_0 10 rfl) wd_1181 (by decide) (Nat.le_of_ble_eq_true rfl) (fun x7 => ?_)
    refine z_ne hk (z_row hX8_lot_0 11 rfl) (tgt := 26) rfl ?_ ?_
    · refine z_run hk hX8_lot_0 14 1 (pc' := 27) (lv' := [some (.inr (.inl a0)), some (.inl a1), some (.inl a2)]) (st' := [.inl 0, .inr (.inl a0)]) rfl ?_
      exact gsX8_lot_27 F n hk he a0 a1 a2 a0 0 σ
    · refine z_run hk hX8_lot_0 12 1 (pc' := 23) (lv' := [some (.inr (.inl a0)), some (.inl a1), some (.inl a2)]) (st' := [.inl 2, .inr (.inl a0)]) rfl ?_
      refine z_goto hk (z_row hX8_lot_0 13 rfl) (tgt := 27) rfl ?_
      exact gsX8_lot_27 F n hk he a0 a1 a2 a0 2 σ
  · refine z_run hk hX8_lot_0 5 1 (pc' := 10) (lv' := [some (.inr (.inl a0)), some (.inl a1), some (.inl a2)]) (st' := [.inl 1, .inr (.inl a0)]) rfl ?_
    refine z_goto hk (z_row hX8_lot_0 6 rfl) (tgt := 27) rfl ?_
    exact gsX8_lot_27 F n hk he a0 a1 a2 a0 1 σ
theorem kX8_lot {n : Nat} {own : String} {cc : ByteArray} {nL h index : Nat} {α : Type} {fin : α → zO} {σ : zW} {pc : Nat} {lv : zLV} {st : List zV} {a0 : Nat} {a1 : Int32} {a2 : Int32} {c : Int32 → zW → Option α} (F : zFx E) (hk : zk E K own cc nL h) (hd : decode cc pc = .ok (.invokevirtual index, 3)) (hl : Cond.methodLink own index qX8_lot ∈ lw_tbl) (hh : 2 + 1 ≤ h) (hs : zcat st ≤ 8) (k : ∀ v s, zG E K fin (c v s) s (pc + 3) lv (.inl v :: st)) : zG E K fin (zck σ 9 a0 (zb2 (fX8_lot n a0 a1 a2 σ) c)) σ pc lv (.inl a2 :: .inl a1 :: .inr (.inl a0) :: st) :=
  z_vW (n := 2) (y := qX8_lot) (As := [.inl a1, .inl a2]) hk hd hl wd_1206 wd_1207 wd_10 wd_1208 ⟨by decide, by decide, by decide +kernel⟩ ⟨hh, by decide⟩ (ci := 8) rfl rfl rfl (fun o ho => mX8_lot F n a0 a1 a2 σ o ho) hs k
abbrev qX8_lots : MethodName := { cls := "LotSalesModel", name := "lots", desc := "(I)I" }
def sX8_lots_57 (n : Nat) (r25 : Nat → Int32 → Int32 → Int32 → zW → Option (Int32 × zW)) (v0 : Nat) (v1 : Int32) (v3 : Int32) (y0 : Int32) (y1 : Int32) (σ : zW) : Option (Int32 × zW) := r25 v0 v1 (y0 + y1) (v3 + 1) σ
def sX8_lots_52 (n : Nat) (r25 : Nat → Int32 → Int32 → Int32 → zW → Option (Int32 × zW)) (v0 : Nat) (v1 : Int32) (v3 : Int32) (y0 : Int32) (σ : zW) : Option (Int32 × zW) := sX8_lots_57 n r25 v0 v1 v3 y0 1 σ
def sX8_lots_25 (n : Nat) : Nat → Nat → Int32 → Int32 → Int32 → zW → Option (Int32 × zW)
  | 0, _, _, _, _, _ => none
  | k + 1, v0, v1, v2, v3, σ => zgR σ 9 v0 1 fun x1 => zaI σ x1 23 fun x2 => if v3 < x2 then if v1 = (-1) then sX8_lots_52 n (sX8_lots_25 n k) v0 v1 v3 v2 σ else zck σ 9 v0 (zb (fX8_at n v0 v3 3 σ) fun x3 => if x3 = v1 then sX8_lots_52 n (sX8_lots_25 n k) v0 v1 v3 v2 σ else sX8_lots_57 n (sX8_lots_25 n k) v0 v1 v3 v2 0 σ) else some (v2, σ)
def fX8_lots (n : Nat) (a0 : Nat) (a1 : Int32) (σ : zW) : Option (Int32 × zW) := zpI σ 9 a0 0 0 fun σ4 => zb (fX8_isIn n a1 (-1) 6 σ4) fun x5 => if x5 = 0 then zck σ4 9 a0 (zb2 (fX8_fail n a0 1 σ4) fun x6 σ7 => some (x6, σ7)) else sX8_lots_25 n n a0 a1 0 0 σ4
theorem gsX8_lots_57 (F : zFx E) (n : Nat) (hk : zk E K "LotSalesModel" cX8_lots 4 1) (he : zend E K (some .int) "lots") (r25 : Nat → Int32 → Int32 → Int32 → zW → Option (Int32 × zW)) (hr25 : ∀ (v0 : Nat) (v1 : Int32) (v2 : Int32) (v3 : Int32) (σ : zW), zG E K zfW (r25 v0 v1 v2 v3 σ) σ 25 [some (.inr (.inl v0)), some (.inl v1), some (.inl v2), some (.inl v3)] []) (v0 : Nat) (v1 : Int32) (v3 : Int32) (y0 : Int32) (y1 : Int32) (σ : zW) : zG E K zfW (sX8_lots_57 n r25 v0 v1 v3 y0 y1 σ) σ 57 [some (.inr (.inl v0)), some (.inl v1), none, some (.inl v3)] [.inl y1, .inl y0] := by
  unfold sX8_lots_57
  refine z_run hk hX8_lots_0 35 3 (pc' := 62) (lv' := [some (.inr (.inl v0)), some (.inl v1), some (.inl (y0 + y1)), some (.inl (v3 + 1))]) (st' := []) rfl ?_
  refine z_goto hk (z_row hX8_lots_0 38 rfl) (tgt := 25) rfl ?_
  exact hr25 v0 v1 (y0 + y1) (v3 + 1) σ
theorem gsX8_lots_52 (F : zFx E) (n : Nat) (hk : zk E K "LotSalesModel" cX8_lots 4 1) (he : zend E K (some .int) "lots") (r25 : Nat → Int32 → Int32 → Int32 → zW → Option (Int32 × zW)) (hr25 : ∀ (v0 : Nat) (v1 : Int32) (v2 : Int32) (v3 : Int32) (σ : zW), zG E K zfW (r25 v0 v1 v2 v3 σ) σ 25 [some (.inr (.inl v0)), some (.inl v1), some (.inl v2), some (.inl v3)] []) (v0 : Nat) (v1 : Int32) (v3 : Int32) (y0 : Int32) (σ : zW) : zG E K zfW (sX8_lots_52 n r25 v0 v1 v3 y0 σ) σ 52 [some (.inr (.inl v0)), some (.inl v1), none, some (.inl v3)] [.inl y0] := by
  unfold sX8_lots_52
  refine z_run hk hX8_lots_0 32 1 (pc' := 53) (lv' := [some (.inr (.inl v0)), some (.inl v1), none, some (.inl v3)]) (st' := [.inl 1, .inl y0]) rfl ?_
  refine z_goto hk (z_row hX8_lots_0 33 rfl) (tgt := 57) rfl ?_
  exact gsX8_lots_57 F n hk he r25 hr25 v0 v1 v3 y0 1 σ
theorem gsX8_lots_25 (F : zFx E) (n : Nat) (hk : zk E K "LotSalesModel" cX8_lots 4 1) (he : zend E K (some .int) "lots") : ∀ (k : Nat) (v0 : Nat) (v1 : Int32) (v2 : Int32) (v3 : Int32) (σ : zW), zG E K zfW (sX8_lots_25 n k v0 v1 v2 v3 σ) σ 25 [some (.inr (.inl v0)), some (.inl v1), some (.inl v2), some (.inl v3)] [] := by
  intro k
  induction k with
  | zero =>
    intro v0 v1 v2 v3 σ
    intro hX
    exact z_none hX
  | succ k ih =>
    intro v0 v1 v2 v3 σ
    rw [sX8_lots_25]
    refine z_run hk hX8_lots_0 16 2 (pc' := 27) (lv' := [some (.inr (.inl v0)), some (.inl v1), some (.inl v2), some (.inl v3)]) (st' := [.inr (.inl v0), .inl v3]) rfl ?_
    refine z_gR hk 1 (z_row hX8_lots_0 18 rfl) (ci := 8) rfl rfl wd_1123 (fun x1 => ?_)
    refine z_run hk hX8_lots_0 19 1 (pc' := 32) (lv' := [some (.inr (.inl v0)), some (.inl v1), some (.inl v2), some (.inl v3)]) (st' := [.inl 23, .inr (.inl x1), .inl v3]) rfl ?_
    refine z_aI hk (z_row hX8_lots_0 20 rfl) (fun x2 => ?_)
    refine z_cge hk (z_row hX8_lots_0 21 rfl) (tgt := 65) rfl ?_ ?_
    · refine z_run hk hX8_lots_0 39 1 (pc' := 66) (lv' := [some (.inr (.inl v0)), some (.inl v1), some (.inl v2), some (.inl v3)]) (st' := [.inl v2]) rfl ?_
      exact z_iret hk he (z_row hX8_lots_0 40 rfl) rfl
    · refine z_run hk hX8_lots_0 22 3 (pc' := 39) (lv' := [some (.inr (.inl v0)), some (.inl v1), some (.inl v2), some (.inl v3)]) (st' := [.inl (-1), .inl v1, .inl v2]) rfl ?_
      refine z_ceq hk (z_row hX8_lots_0 25 rfl) (tgt := 52) rfl ?_ ?_
      · refine z_mask [true, true, false, true] rfl ?_
        exact gsX8_lots_52 F n hk he (sX8_lots_25 n k) ih v0 v1 v3 v2 σ
      · refine z_run hk hX8_lots_0 26 3 (pc' := 45) (lv' := [some (.inr (.inl v0)), some (.inl v1), some (.inl v2), some (.inl v3)]) (st' := [.inl 3, .inl v3, .inr (.inl v0), .inl v2]) rfl ?_
        refine kX8_at F hk (z_row hX8_lots_0 29 rfl) wd_1213 (by decide) (Nat.le_of_ble_eq_true rfl) (fun x3 => ?_)
        refine z_run hk hX8_lots_0 30 1 (pc' := 49) (lv' := [some (.inr (.inl v0)), some (.inl v1), some (.inl v2), some (.inl v3)]) (st' := [.inl v1, .inl x3, .inl v2]) rfl ?_
        refine z_cne hk (z_row hX8_lots_0 31 rfl) (tgt := 56) rfl ?_ ?_
        · refine z_run hk hX8_lots_0 34 1 (pc' := 57) (lv' := [some (.inr (.inl v0)), some (.inl v1), some (.inl v2), some (.inl v3)]) (st' := [.inl 0, .inl v2]) rfl ?_
          refine z_mask [true, true, false, true] rfl ?_
          exact gsX8_lots_57 F n hk he (sX8_lots_25 n k) ih v0 v1 v3 v2 0 σ
        · refine z_mask [true, true, false, true] rfl ?_
          exact gsX8_lots_52 F n hk he (sX8_lots_25 n k) ih v0 v1 v3 v2 σ
theorem mX8_lots (F : zFx E) (n : Nat) (a0 : Nat) (a1 : Int32) (σ : zW) (o : Int32 × zW) (hf : fX8_lots n a0 a1 σ = some o) : zM E qX8_lots cX8_lots 4 (some .int) 1 [.inr (.inl a0), .inl a1] σ (some (.int o.1)) o.2 := by
  refine zM_of (fin := zfW) F (by decide +kernel) rfl (Nat.le_of_ble_eq_true rfl) (lv0 := [some (.inr (.inl a0)), some (.inl a1), none, none]) rfl hf rfl (fun K hk he => ?_)
  have hk : zk E K "LotSalesModel" cX8_lots 4 1 := hk
  unfold fX8_lots
  refine z_run hk hX8_lots_0 0 2 (pc' := 2) (lv' := [some (.inr (.inl a0)), some (.inl a1), none, none]) (st' := [.inl 0, .inr (.inl a0)]) rfl ?_
  refine z_pI hk 0 (z_row hX8_lots_0 2 rfl) (ci := 8) rfl rfl wd_1122 rfl rfl rfl (fun σ4 => ?_)
  refine z_run hk hX8_lots_0 3 3 (pc' := 9) (lv' := [some (.inr (.inl a0)), some (.inl a1), none, none]) (st' := [.inl 6, .inl (-1), .inl a1]) rfl ?_
  refine kX8_isIn F hk (z_row hX8_lots_0 6 rfl) wd_1181 (by decide) (Nat.le_of_ble_eq_true rfl) (fun x5 => ?_)
  refine z_ne hk (z_row hX8_lots_0 7 rfl) (tgt := 21) rfl ?_ ?_
  · refine z_run hk hX8_lots_0 12 4 (pc' := 25) (lv' := [some (.inr (.inl a0)), some (.inl a1), some (.inl 0), some (.inl 0)]) (st' := []) rfl ?_
    exact gsX8_lots_25 F n hk he n a0 a1 0 0 σ4
  · refine z_run hk hX8_lots_0 8 2 (pc' := 17) (lv' := [some (.inr (.inl a0)), some (.inl a1), none, none]) (st' := [.inl 1, .inr (.inl a0)]) rfl ?_
    refine kX8_fail F hk (z_row hX8_lots_0 10 rfl) wd_1221 (by decide) (Nat.le_of_ble_eq_true rfl) (fun x6 σ7 => ?_)
    exact z_iret hk he (z_row hX8_lots_0 11 rfl) rfl
theorem kX8_lots {n : Nat} {own : String} {cc : ByteArray} {nL h index : Nat} {α : Type} {fin : α → zO} {σ : zW} {pc : Nat} {lv : zLV} {st : List zV} {a0 : Nat} {a1 : Int32} {c : Int32 → zW → Option α} (F : zFx E) (hk : zk E K own cc nL h) (hd : decode cc pc = .ok (.invokevirtual index, 3)) (hl : Cond.methodLink own index qX8_lots ∈ lw_tbl) (hh : 1 + 1 ≤ h) (hs : zcat st ≤ 8) (k : ∀ v s, zG E K fin (c v s) s (pc + 3) lv (.inl v :: st)) : zG E K fin (zck σ 9 a0 (zb2 (fX8_lots n a0 a1 σ) c)) σ pc lv (.inl a1 :: .inr (.inl a0) :: st) :=
  z_vW (n := 1) (y := qX8_lots) (As := [.inl a1]) hk hd hl wd_1218 wd_1219 wd_10 wd_1220 ⟨by decide, by decide, by decide +kernel⟩ ⟨hh, by decide⟩ (ci := 8) rfl rfl rfl (fun o ho => mX8_lots F n a0 a1 σ o ho) hs k
abbrev qX8_rowOf : MethodName := { cls := "LotSalesModel", name := "rowOf", desc := "(I)I" }
def sX8_rowOf_31 (n : Nat) (σ : zW) (r4 : Nat → Int32 → Int32 → Int32 → Option (Int32)) (v0 : Nat) (v1 : Int32) (v3 : Int32) (y0 : Int32) : Option (Int32) := r4 v0 v1 y0 (v3 + 1)
def sX8_rowOf_4 (n : Nat) (σ : zW) : Nat → Nat → Int32 → Int32 → Int32 → Option (Int32)
  | 0, _, _, _, _ => none
  | k + 1, v0, v1, v2, v3 => zgR σ 9 v0 1 fun x1 => zaI σ x1 0 fun x2 => if v3 < x2 then zgR σ 9 v0 1 fun x3 => zaI σ x3 (1 + v3) fun x4 => if v1 < x4 then sX8_rowOf_31 n σ (sX8_rowOf_4 n σ k) v0 v1 v3 v2 else sX8_rowOf_31 n σ (sX8_rowOf_4 n σ k) v0 v1 v3 v3 else some v2
def fX8_rowOf (n : Nat) (a0 : Nat) (a1 : Int32) (σ : zW) : Option (Int32) := sX8_rowOf_4 n σ n a0 a1 0 1
theorem gsX8_rowOf_31 (F : zFx E) (n : Nat) (σ : zW) (hk : zk E K "LotSalesModel" cX8_rowOf 4 0) (he : zend E K (some .int) "rowOf") (r4 : Nat → Int32 → Int32 → Int32 → Option (Int32)) (hr4 : ∀ (v0 : Nat) (v1 : Int32) (v2 : Int32) (v3 : Int32), zG E K (zfR σ) (r4 v0 v1 v2 v3) σ 4 [some (.inr (.inl v0)), some (.inl v1), some (.inl v2), some (.inl v3)] []) (v0 : Nat) (v1 : Int32) (v3 : Int32) (y0 : Int32) : zG E K (zfR σ) (sX8_rowOf_31 n σ r4 v0 v1 v3 y0) σ 31 [some (.inr (.inl v0)), some (.inl v1), none, some (.inl v3)] [.inl y0] := by
  unfold sX8_rowOf_31
  refine z_run hk hX8_rowOf_0 21 2 (pc' := 35) (lv' := [some (.inr (.inl v0)), some (.inl v1), some (.inl y0), some (.inl (v3 + 1))]) (st' := []) rfl ?_
  refine z_goto hk (z_row hX8_rowOf_0 23 rfl) (tgt := 4) rfl ?_
  exact hr4 v0 v1 y0 (v3 + 1)
theorem gsX8_rowOf_4 (F : zFx E) (n : Nat) (σ : zW) (hk : zk E K "LotSalesModel" cX8_rowOf 4 0) (he : zend E K (some .int) "rowOf") : ∀ (k : Nat) (v0 : Nat) (v1 : Int32) (v2 : Int32) (v3 : Int32), zG E K (zfR σ) (sX8_rowOf_4 n σ k v0 v1 v2 v3) σ 4 [some (.inr (.inl v0)), some (.inl v1), some (.inl v2), some (.inl v3)] [] := by
  intro k
  induction k with
  | zero =>
    intro v0 v1 v2 v3
    intro hX
    exact z_none hX
  | succ k ih =>
    intro v0 v1 v2 v3
    rw [sX8_rowOf_4]
    refine z_run hk hX8_rowOf_0 4 2 (pc' := 6) (lv' := [some (.inr (.inl v0)), some (.inl v1), some (.inl v2), some (.inl v3)]) (st' := [.inr (.inl v0), .inl v3]) rfl ?_
    refine z_gR hk 1 (z_row hX8_rowOf_0 6 rfl) (ci := 8) rfl rfl wd_1123 (fun x1 => ?_)
    refine z_run hk hX8_rowOf_0 7 1 (pc' := 10) (lv' := [some (.inr (.inl v0)), some (.inl v1), some (.inl v2), some (.inl v3)]) (st' := [.inl 0, .inr (.inl x1), .inl v3]) rfl ?_
    refine z_aI hk (z_row hX8_rowOf_0 8 rfl) (fun x2 => ?_)
    refine z_cge hk (z_row hX8_rowOf_0 9 rfl) (tgt := 38) rfl ?_ ?_
    · refine z_run hk hX8_rowOf_0 24 1 (pc' := 39) (lv' := [some (.inr (.inl v0)), some (.inl v1), some (.inl v2), some (.inl v3)]) (st' := [.inl v2]) rfl ?_
      exact z_iret hk he (z_row hX8_rowOf_0 25 rfl) rfl
    · refine z_run hk hX8_rowOf_0 10 1 (pc' := 15) (lv' := [some (.inr (.inl v0)), some (.inl v1), some (.inl v2), some (.inl v3)]) (st' := [.inr (.inl v0)]) rfl ?_
      refine z_gR hk 1 (z_row hX8_rowOf_0 11 rfl) (ci := 8) rfl rfl wd_1123 (fun x3 => ?_)
      refine z_run hk hX8_rowOf_0 12 3 (pc' := 21) (lv' := [some (.inr (.inl v0)), some (.inl v1), some (.inl v2), some (.inl v3)]) (st' := [.inl (1 + v3), .inr (.inl x3)]) rfl ?_
      refine z_aI hk (z_row hX8_rowOf_0 15 rfl) (fun x4 => ?_)
      refine z_run hk hX8_rowOf_0 16 1 (pc' := 23) (lv' := [some (.inr (.inl v0)), some (.inl v1), some (.inl v2), some (.inl v3)]) (st' := [.inl v1, .inl x4]) rfl ?_
      refine z_cgt hk (z_row hX8_rowOf_0 17 rfl) (tgt := 30) rfl ?_ ?_
      · refine z_run hk hX8_rowOf_0 20 1 (pc' := 31) (lv' := [some (.inr (.inl v0)), some (.inl v1), some (.inl v2), some (.inl v3)]) (st' := [.inl v2]) rfl ?_
        refine z_mask [true, true, false, true] rfl ?_
        exact gsX8_rowOf_31 F n σ hk he (sX8_rowOf_4 n σ k) ih v0 v1 v3 v2
      · refine z_run hk hX8_rowOf_0 18 1 (pc' := 27) (lv' := [some (.inr (.inl v0)), some (.inl v1), some (.inl v2), some (.inl v3)]) (st' := [.inl v3]) rfl ?_
        refine z_goto hk (z_row hX8_rowOf_0 19 rfl) (tgt := 31) rfl ?_
        refine z_mask [true, true, false, true] rfl ?_
        exact gsX8_rowOf_31 F n σ hk he (sX8_rowOf_4 n σ k) ih v0 v1 v3 v3
theorem mX8_rowOf (F : zFx E) (n : Nat) (a0 : Nat) (a1 : Int32) (σ : zW) (o : Int32) (hf : fX8_rowOf n a0 a1 σ = some o) : zM E qX8_rowOf cX8_rowOf 4 (some .int) 0 [.inr (.inl a0), .inl a1] σ (some (.int o)) σ := by
  refine zM_of (fin := (zfR σ)) F (by decide +kernel) rfl (Nat.le_of_ble_eq_true rfl) (lv0 := [some (.inr (.inl a0)), some (.inl a1), none, none]) rfl hf rfl (fun K hk he => ?_)
  have hk : zk E K "LotSalesModel" cX8_rowOf 4 0 := hk
  unfold fX8_rowOf
  refine z_run hk hX8_rowOf_0 0 4 (pc' := 4) (lv' := [some (.inr (.inl a0)), some (.inl a1), some (.inl 0), some (.inl 1)]) (st' := []) rfl ?_
  exact gsX8_rowOf_4 F n σ hk he n a0 a1 0 1
theorem kX8_rowOf {n : Nat} {own : String} {cc : ByteArray} {nL h index : Nat} {α : Type} {fin : α → zO} {σ : zW} {pc : Nat} {lv : zLV} {st : List zV} {a0 : Nat} {a1 : Int32} {c : Int32 → Option α} (F : zFx E) (hk : zk E K own cc nL h) (hd : decode cc pc = .ok (.invokevirtual index, 3)) (hl : Cond.methodLink own index qX8_rowOf ∈ lw_tbl) (hh : 0 + 1 ≤ h) (hs : zcat st ≤ 8) (k : ∀ v, zG E K fin (c v) σ (pc + 3) lv (.inl v :: st)) : zG E K fin (zck σ 9 a0 (zb (fX8_rowOf n a0 a1 σ) c)) σ pc lv (.inl a1 :: .inr (.inl a0) :: st) :=
  z_vR (n := 1) (y := qX8_rowOf) (As := [.inl a1]) hk hd hl wd_1248 ws_25 wd_10 wd_1249 ⟨by decide, by decide, by decide +kernel⟩ ⟨hh, by decide⟩ (ci := 8) rfl rfl rfl (fun o ho => mX8_rowOf F n a0 a1 σ o ho) hs k
abbrev qX8_stepBelow : MethodName := { cls := "LotSalesModel", name := "stepBelow", desc := "(I)I" }
def sX8_stepBelow_59 (n : Nat) (σ : zW) (r15 : Nat → Int32 → Int32 → Option (Int32)) (v0 : Nat) (v1 : Int32) (v2 : Int32) (v4 : Int32) (y0 : Int32) : Option (Int32) := zdv v4 (if v1 < (v2 + (((((y0 - v2) + v4) - 1) / v4) * v4)) then zdv v4 (some (v2 + (((v1 - v2) / v4) * v4))) else r15 v0 v1 (v2 + (((((y0 - v2) + v4) - 1) / v4) * v4)))
def sX8_stepBelow_15 (n : Nat) (σ : zW) : Nat → Nat → Int32 → Int32 → Option (Int32)
  | 0, _, _, _ => none
  | k + 1, v0, v1, v2 => zck σ 9 v0 (zb (fX8_rowOf n v0 v2 σ) fun x1 => zgR σ 9 v0 1 fun x2 => zaI σ x2 (7 + x1) fun x3 => zgR σ 9 v0 1 fun x4 => zaI σ x4 0 fun x5 => if (x1 + 1) < x5 then zgR σ 9 v0 1 fun x6 => zaI σ x6 ((1 + x1) + 1) fun x7 => sX8_stepBelow_59 n σ (sX8_stepBelow_15 n σ k) v0 v1 v2 x3 x7 else sX8_stepBelow_59 n σ (sX8_stepBelow_15 n σ k) v0 v1 v2 x3 300000)
def fX8_stepBelow (n : Nat) (a0 : Nat) (a1 : Int32) (σ : zW) : Option (Int32) := zgR σ 9 a0 1 fun x8 => zaI σ x8 7 fun x9 => if a1 < x9 then some 0 else sX8_stepBelow_15 n σ n a0 a1 x9
theorem gsX8_stepBelow_59 (F : zFx E) (n : Nat) (σ : zW) (hk : zk E K "LotSalesModel" cX8_stepBelow 7 1) (he : zend E K (some .int) "stepBelow") (r15 : Nat → Int32 → Int32 → Option (Int32)) (hr15 : ∀ (v0 : Nat) (v1 : Int32) (v2 : Int32), zG E K (zfR σ) (r15 v0 v1 v2) σ 15 [some (.inr (.inl v0)), some (.inl v1), some (.inl v2), none, none, none, none] []) (v0 : Nat) (v1 : Int32) (v2 : Int32) (v4 : Int32) (y0 : Int32) : zG E K (zfR σ) (sX8_stepBelow_59 n σ r15 v0 v1 v2 v4 y0) σ 59 [some (.inr (.inl v0)), some (.inl v1), some (.inl v2), none, some (.inl v4), none, none] [.inl y0] := by
  unfold sX8_stepBelow_59
  refine z_run hk hX8_stepBelow_0 39 10 (pc' := 73) (lv' := [some (.inr (.inl v0)), some (.inl v1), some (.inl v2), none, some (.inl v4), some (.inl y0), none]) (st' := [.inl v4, .inl (((y0 - v2) + v4) - 1), .inl v2]) rfl ?_
  refine z_idiv hk (z_row hX8_stepBelow_0 49 rfl) ?_
  refine z_run hk hX8_stepBelow_0 50 6 (pc' := 83) (lv' := [some (.inr (.inl v0)), some (.inl v1), some (.inl v2), none, some (.inl v4), some (.inl y0), some (.inl (v2 + (((((y0 - v2) + v4) - 1) / v4) * v4)))]) (st' := [.inl v1, .inl (v2 + (((((y0 - v2) + v4) - 1) / v4) * v4))]) rfl ?_
  refine z_cle hk (z_row hX8_stepBelow_0 56 rfl) (tgt := 98) rfl ?_ ?_
  · refine z_run hk hX8_stepBelow_1 7 2 (pc' := 101) (lv' := [some (.inr (.inl v0)), some (.inl v1), some (.inl (v2 + (((((y0 - v2) + v4) - 1) / v4) * v4))), none, some (.inl v4), some (.inl y0), some (.inl (v2 + (((((y0 - v2) + v4) - 1) / v4) * v4)))]) (st' := []) rfl ?_
    refine z_goto hk (z_row hX8_stepBelow_1 9 rfl) (tgt := 15) rfl ?_
    refine z_mask [true, true, true, false, false, false, false] rfl ?_
    exact hr15 v0 v1 (v2 + (((((y0 - v2) + v4) - 1) / v4) * v4))
  · refine z_run hk hX8_stepBelow_0 57 3 (pc' := 89) (lv' := [some (.inr (.inl v0)), some (.inl v1), some (.inl v2), none, some (.inl v4), some (.inl y0), some (.inl (v2 + (((((y0 - v2) + v4) - 1) / v4) * v4)))]) (st' := [.inl v2, .inl v1, .inl v2]) rfl ?_
    refine z_run hk hX8_stepBelow_1 0 2 (pc' := 92) (lv' := [some (.inr (.inl v0)), some (.inl v1), some (.inl v2), none, some (.inl v4), some (.inl y0), some (.inl (v2 + (((((y0 - v2) + v4) - 1) / v4) * v4)))]) (st' := [.inl v4, .inl (v1 - v2), .inl v2]) rfl ?_
    refine z_idiv hk (z_row hX8_stepBelow_1 2 rfl) ?_
    refine z_run hk hX8_stepBelow_1 3 3 (pc' := 97) (lv' := [some (.inr (.inl v0)), some (.inl v1), some (.inl v2), none, some (.inl v4), some (.inl y0), some (.inl (v2 + (((((y0 - v2) + v4) - 1) / v4) * v4)))]) (st' := [.inl (v2 + (((v1 - v2) / v4) * v4))]) rfl ?_
    exact z_iret hk he (z_row hX8_stepBelow_1 6 rfl) rfl
theorem gsX8_stepBelow_15 (F : zFx E) (n : Nat) (σ : zW) (hk : zk E K "LotSalesModel" cX8_stepBelow 7 1) (he : zend E K (some .int) "stepBelow") : ∀ (k : Nat) (v0 : Nat) (v1 : Int32) (v2 : Int32), zG E K (zfR σ) (sX8_stepBelow_15 n σ k v0 v1 v2) σ 15 [some (.inr (.inl v0)), some (.inl v1), some (.inl v2), none, none, none, none] [] := by
  intro k
  induction k with
  | zero =>
    intro v0 v1 v2
    intro hX
    exact z_none hX
  | succ k ih =>
    intro v0 v1 v2
    rw [sX8_stepBelow_15]
    refine z_run hk hX8_stepBelow_0 10 2 (pc' := 17) (lv' := [some (.inr (.inl v0)), some (.inl v1), some (.inl v2), none, none, none, none]) (st' := [.inl v2, .inr (.inl v0)]) rfl ?_
    refine kX8_rowOf F hk (z_row hX8_stepBelow_0 12 rfl) wd_1246 (by decide) (Nat.le_of_ble_eq_true rfl) (fun x1 => ?_)
    refine z_run hk hX8_stepBelow_0 13 2 (pc' := 22) (lv' := [some (.inr (.inl v0)), some (.inl v1), some (.inl v2), some (.inl x1), none, none, none]) (st' := [.inr (.inl v0)]) rfl ?_
    refine z_gR hk 1 (z_row hX8_stepBelow_0 15 rfl) (ci := 8) rfl rfl wd_1123 (fun x2 => ?_)
    refine z_run hk hX8_stepBelow_0 16 3 (pc' := 29) (lv' := [some (.inr (.inl v0)), some (.inl v1), some (.inl v2), some (.inl x1), none, none, none]) (st' := [.inl (7 + x1), .inr (.inl x2)]) rfl ?_
    refine z_aI hk (z_row hX8_stepBelow_0 19 rfl) (fun x3 => ?_)
    refine z_run hk hX8_stepBelow_0 20 5 (pc' := 36) (lv' := [some (.inr (.inl v0)), some (.inl v1), some (.inl v2), some (.inl x1), some (.inl x3), none, none]) (st' := [.inr (.inl v0), .inl (x1 + 1)]) rfl ?_
    refine z_gR hk 1 (z_row hX8_stepBelow_0 25 rfl) (ci := 8) rfl rfl wd_1123 (fun x4 => ?_)
    refine z_run hk hX8_stepBelow_0 26 1 (pc' := 40) (lv' := [some (.inr (.inl v0)), some (.inl v1), some (.inl v2), some (.inl x1), some (.inl x3), none, none]) (st' := [.inl 0, .inr (.inl x4), .inl (x1 + 1)]) rfl ?_
    refine z_aI hk (z_row hX8_stepBelow_0 27 rfl) (fun x5 => ?_)
    refine z_cge hk (z_row hX8_stepBelow_0 28 rfl) (tgt := 57) rfl ?_ ?_
    · refine z_ldc hk (z_row hX8_stepBelow_0 38 rfl) wd_1250 ?_
      refine z_mask [true, true, true, false, true, false, false] rfl ?_
      exact gsX8_stepBelow_59 F n σ hk he (sX8_stepBelow_15 n σ k) ih v0 v1 v2 x3 300000
    · refine z_run hk hX8_stepBelow_0 29 1 (pc' := 45) (lv' := [some (.inr (.inl v0)), some (.inl v1), some (.inl v2), some (.inl x1), some (.inl x3), none, none]) (st' := [.inr (.inl v0)]) rfl ?_
      refine z_gR hk 1 (z_row hX8_stepBelow_0 30 rfl) (ci := 8) rfl rfl wd_1123 (fun x6 => ?_)
      refine z_run hk hX8_stepBelow_0 31 5 (pc' := 53) (lv' := [some (.inr (.inl v0)), some (.inl v1), some (.inl v2), some (.inl x1), some (.inl x3), none, none]) (st' := [.inl ((1 + x1) + 1), .inr (.inl x6)]) rfl ?_
      refine z_aI hk (z_row hX8_stepBelow_0 36 rfl) (fun x7 => ?_)
      refine z_goto hk (z_row hX8_stepBelow_0 37 rfl) (tgt := 59) rfl ?_
      refine z_mask [true, true, true, false, true, false, false] rfl ?_
      exact gsX8_stepBelow_59 F n σ hk he (sX8_stepBelow_15 n σ k) ih v0 v1 v2 x3 x7
theorem mX8_stepBelow (F : zFx E) (n : Nat) (a0 : Nat) (a1 : Int32) (σ : zW) (o : Int32) (hf : fX8_stepBelow n a0 a1 σ = some o) : zM E qX8_stepBelow cX8_stepBelow 7 (some .int) 1 [.inr (.inl a0), .inl a1] σ (some (.int o)) σ := by
  refine zM_of (fin := (zfR σ)) F (by decide +kernel) rfl (Nat.le_of_ble_eq_true rfl) (lv0 := [some (.inr (.inl a0)), some (.inl a1), none, none, none, none, none]) rfl hf rfl (fun K hk he => ?_)
  have hk : zk E K "LotSalesModel" cX8_stepBelow 7 1 := hk
  unfold fX8_stepBelow
  refine z_run hk hX8_stepBelow_0 0 1 (pc' := 1) (lv' := [some (.inr (.inl a0)), some (.inl a1), none, none, none, none, none]) (st' := [.inr (.inl a0)]) rfl ?_
  refine z_gR hk 1 (z_row hX8_stepBelow_0 1 rfl) (ci := 8) rfl rfl wd_1123 (fun x8 => ?_)
  refine z_run hk hX8_stepBelow_0 2 1 (pc' := 6) (lv' := [some (.inr (.inl a0)), some (.inl a1), none, none, none, none, none]) (st' := [.inl 7, .inr (.inl x8)]) rfl ?_
  refine z_aI hk (z_row hX8_stepBelow_0 3 rfl) (fun x9 => ?_)
  refine z_run hk hX8_stepBelow_0 4 3 (pc' := 10) (lv' := [some (.inr (.inl a0)), some (.inl a1), some (.inl x9), none, none, none, none]) (st' := [.inl x9, .inl a1]) rfl ?_
  refine z_cge hk (z_row hX8_stepBelow_0 7 rfl) (tgt := 15) rfl ?_ ?_
  · exact gsX8_stepBelow_15 F n σ hk he n a0 a1 x9
  · refine z_run hk hX8_stepBelow_0 8 1 (pc' := 14) (lv' := [some (.inr (.inl a0)), some (.inl a1), some (.inl x9), none, none, none, none]) (st' := [.inl 0]) rfl ?_
    exact z_iret hk he (z_row hX8_stepBelow_0 9 rfl) rfl
theorem kX8_stepBelow {n : Nat} {own : String} {cc : ByteArray} {nL h index : Nat} {α : Type} {fin : α → zO} {σ : zW} {pc : Nat} {lv : zLV} {st : List zV} {a0 : Nat} {a1 : Int32} {c : Int32 → Option α} (F : zFx E) (hk : zk E K own cc nL h) (hd : decode cc pc = .ok (.invokevirtual index, 3)) (hl : Cond.methodLink own index qX8_stepBelow ∈ lw_tbl) (hh : 1 + 1 ≤ h) (hs : zcat st ≤ 8) (k : ∀ v, zG E K fin (c v) σ (pc + 3) lv (.inl v :: st)) : zG E K fin (zck σ 9 a0 (zb (fX8_stepBelow n a0 a1 σ) c)) σ pc lv (.inl a1 :: .inr (.inl a0) :: st) :=
  z_vR (n := 1) (y := qX8_stepBelow) (As := [.inl a1]) hk hd hl wd_1244 ws_24 wd_10 wd_1245 ⟨by decide, by decide, by decide +kernel⟩ ⟨hh, by decide⟩ (ci := 8) rfl rfl rfl (fun o ho => mX8_stepBelow F n a0 a1 σ o ho) hs k
abbrev qX8_stepAbove : MethodName := { cls := "LotSalesModel", name := "stepAbove", desc := "(I)I" }
def sX8_stepAbove_35 (n : Nat) (σ : zW) (y0 : Int32) : Option (Int32) := some y0
def fX8_stepAbove (n : Nat) (a0 : Nat) (a1 : Int32) (σ : zW) : Option (Int32) := zck σ 9 a0 (zb (fX8_stepBelow n a0 a1 σ) fun x1 => if x1 = 0 then zgR σ 9 a0 1 fun x5 => zaI σ x5 7 fun x6 => sX8_stepAbove_35 n σ x6 else zgR σ 9 a0 1 fun x2 => zck σ 9 a0 (zb (fX8_rowOf n a0 x1 σ) fun x3 => zaI σ x2 (7 + x3) fun x4 => sX8_stepAbove_35 n σ (x1 + x4)))
theorem gsX8_stepAbove_35 (F : zFx E) (n : Nat) (σ : zW) (hk : zk E K "LotSalesModel" cX8_stepAbove 3 2) (he : zend E K (some .int) "stepAbove") (y0 : Int32) : zG E K (zfR σ) (sX8_stepAbove_35 n σ y0) σ 35 [none, none, none] [.inl y0] := by
  unfold sX8_stepAbove_35
  exact z_iret hk he (z_row hX8_stepAbove_0 21 rfl) rfl
theorem mX8_stepAbove (F : zFx E) (n : Nat) (a0 : Nat) (a1 : Int32) (σ : zW) (o : Int32) (hf : fX8_stepAbove n a0 a1 σ = some o) : zM E qX8_stepAbove cX8_stepAbove 3 (some .int) 2 [.inr (.inl a0), .inl a1] σ (some (.int o)) σ := by
  refine zM_of (fin := (zfR σ)) F (by decide +kernel) rfl (Nat.le_of_ble_eq_true rfl) (lv0 := [some (.inr (.inl a0)), some (.inl a1), none]) rfl hf rfl (fun K hk he => ?_)
  have hk : zk E K "LotSalesModel" cX8_stepAbove 3 2 := hk
  unfold fX8_stepAbove
  refine z_run hk hX8_stepAbove_0 0 2 (pc' := 2) (lv' := [some (.inr (.inl a0)), some (.inl a1), none]) (st' := [.inl a1, .inr (.inl a0)]) rfl ?_
  refine kX8_stepBelow F hk (z_row hX8_stepAbove_0 2 rfl) wd_1242 (by decide) (Nat.le_of_ble_eq_true rfl) (fun x1 => ?_)
  refine z_run hk hX8_stepAbove_0 3 2 (pc' := 7) (lv' := [some (.inr (.inl a0)), some (.inl a1), some (.inl x1)]) (st' := [.inl x1]) rfl ?_
  refine z_ne hk (z_row hX8_stepAbove_0 5 rfl) (tgt := 20) rfl ?_ ?_
  · refine z_run hk hX8_stepAbove_0 11 2 (pc' := 22) (lv' := [some (.inr (.inl a0)), some (.inl a1), some (.inl x1)]) (st' := [.inr (.inl a0), .inl x1]) rfl ?_
    refine z_gR hk 1 (z_row hX8_stepAbove_0 13 rfl) (ci := 8) rfl rfl wd_1123 (fun x2 => ?_)
    refine z_run hk hX8_stepAbove_0 14 3 (pc' := 29) (lv' := [some (.inr (.inl a0)), some (.inl a1), some (.inl x1)]) (st' := [.inl x1, .inr (.inl a0), .inl 7, .inr (.inl x2), .inl x1]) rfl ?_
    refine kX8_rowOf F hk (z_row hX8_stepAbove_0 17 rfl) wd_1246 (by decide) (Nat.le_of_ble_eq_true rfl) (fun x3 => ?_)
    refine z_run hk hX8_stepAbove_0 18 1 (pc' := 33) (lv' := [some (.inr (.inl a0)), some (.inl a1), some (.inl x1)]) (st' := [.inl (7 + x3), .inr (.inl x2), .inl x1]) rfl ?_
    refine z_aI hk (z_row hX8_stepAbove_0 19 rfl) (fun x4 => ?_)
    refine z_run hk hX8_stepAbove_0 20 1 (pc' := 35) (lv' := [some (.inr (.inl a0)), some (.inl a1), some (.inl x1)]) (st' := [.inl (x1 + x4)]) rfl ?_
    refine z_mask [false, false, false] rfl ?_
    exact gsX8_stepAbove_35 F n σ hk he (x1 + x4)
  · refine z_run hk hX8_stepAbove_0 6 1 (pc' := 11) (lv' := [some (.inr (.inl a0)), some (.inl a1), some (.inl x1)]) (st' := [.inr (.inl a0)]) rfl ?_
    refine z_gR hk 1 (z_row hX8_stepAbove_0 7 rfl) (ci := 8) rfl rfl wd_1123 (fun x5 => ?_)
    refine z_run hk hX8_stepAbove_0 8 1 (pc' := 16) (lv' := [some (.inr (.inl a0)), some (.inl a1), some (.inl x1)]) (st' := [.inl 7, .inr (.inl x5)]) rfl ?_
    refine z_aI hk (z_row hX8_stepAbove_0 9 rfl) (fun x6 => ?_)
    refine z_goto hk (z_row hX8_stepAbove_0 10 rfl) (tgt := 35) rfl ?_
    refine z_mask [false, false, false] rfl ?_
    exact gsX8_stepAbove_35 F n σ hk he x6
theorem kX8_stepAbove {n : Nat} {own : String} {cc : ByteArray} {nL h index : Nat} {α : Type} {fin : α → zO} {σ : zW} {pc : Nat} {lv : zLV} {st : List zV} {a0 : Nat} {a1 : Int32} {c : Int32 → Option α} (F : zFx E) (hk : zk E K own cc nL h) (hd : decode cc pc = .ok (.invokevirtual index, 3)) (hl : Cond.methodLink own index qX8_stepAbove ∈ lw_tbl) (hh : 2 + 1 ≤ h) (hs : zcat st ≤ 8) (k : ∀ v, zG E K fin (c v) σ (pc + 3) lv (.inl v :: st)) : zG E K fin (zck σ 9 a0 (zb (fX8_stepAbove n a0 a1 σ) c)) σ pc lv (.inl a1 :: .inr (.inl a0) :: st) :=
  z_vR (n := 1) (y := qX8_stepAbove) (As := [.inl a1]) hk hd hl wd_1257 ws_26 wd_10 wd_1258 ⟨by decide, by decide, by decide +kernel⟩ ⟨hh, by decide⟩ (ci := 8) rfl rfl rfl (fun o ho => mX8_stepAbove F n a0 a1 σ o ho) hs k
abbrev qX8_isStep : MethodName := { cls := "LotSalesModel", name := "isStep", desc := "(I)Z" }
def sX8_isStep_18 (n : Nat) (σ : zW) (y0 : Int32) : Option (Int32) := if y0 = 0 ∨ y0 = 1 then some y0 else none
def sX8_isStep_17 (n : Nat) (σ : zW) : Option (Int32) := sX8_isStep_18 n σ 0
def fX8_isStep (n : Nat) (a0 : Nat) (a1 : Int32) (σ : zW) : Option (Int32) := if 0 < a1 then zck σ 9 a0 (zb (fX8_stepBelow n a0 a1 σ) fun x1 => if x1 = a1 then sX8_isStep_18 n σ 1 else sX8_isStep_17 n σ) else sX8_isStep_17 n σ
theorem gsX8_isStep_18 (F : zFx E) (n : Nat) (σ : zW) (hk : zk E K "LotSalesModel" cX8_isStep 2 2) (he : zend E K (some .boolean) "isStep") (y0 : Int32) : zG E K (zfR σ) (sX8_isStep_18 n σ y0) σ 18 [none, none] [.inl y0] := by
  unfold sX8_isStep_18
  exact z_zret (fin := (zfR σ)) (o := y0) hk he (z_row hX8_isStep_0 10 rfl) rfl
theorem gsX8_isStep_17 (F : zFx E) (n : Nat) (σ : zW) (hk : zk E K "LotSalesModel" cX8_isStep 2 2) (he : zend E K (some .boolean) "isStep") : zG E K (zfR σ) (sX8_isStep_17 n σ) σ 17 [none, none] [] := by
  unfold sX8_isStep_17
  refine z_run hk hX8_isStep_0 9 1 (pc' := 18) (lv' := [none, none]) (st' := [.inl 0]) rfl ?_
  exact gsX8_isStep_18 F n σ hk he 0
theorem mX8_isStep (F : zFx E) (n : Nat) (a0 : Nat) (a1 : Int32) (σ : zW) (o : Int32) (hf : fX8_isStep n a0 a1 σ = some o) : zM E qX8_isStep cX8_isStep 2 (some .boolean) 2 [.inr (.inl a0), .inl a1] σ (some (.int o)) σ := by
  refine zM_of (fin := (zfR σ)) F (by decide +kernel) rfl (Nat.le_of_ble_eq_true rfl) (lv0 := [some (.inr (.inl a0)), some (.inl a1)]) rfl hf rfl (fun K hk he => ?_)
  have hk : zk E K "LotSalesModel" cX8_isStep 2 2 := hk
  unfold fX8_isStep
  refine z_run hk hX8_isStep_0 0 1 (pc' := 1) (lv' := [some (.inr (.inl a0)), some (.inl a1)]) (st' := [.inl a1]) rfl ?_
  refine z_le hk (z_row hX8_isStep_0 1 rfl) (tgt := 17) rfl ?_ ?_
  · refine z_mask [false, false] rfl ?_
    exact gsX8_isStep_17 F n σ hk he
  · refine z_run hk hX8_isStep_0 2 2 (pc' := 6) (lv' := [some (.inr (.inl a0)), some (.inl a1)]) (st' := [.inl a1, .inr (.inl a0)]) rfl ?_
    refine kX8_stepBelow F hk (z_row hX8_isStep_0 4 rfl) wd_1242 (by decide) (Nat.le_of_ble_eq_true rfl) (fun x1 => ?_)
    refine z_run hk hX8_isStep_0 5 1 (pc' := 10) (lv' := [some (.inr (.inl a0)), some (.inl a1)]) (st' := [.inl a1, .inl x1]) rfl ?_
    refine z_cne hk (z_row hX8_isStep_0 6 rfl) (tgt := 17) rfl ?_ ?_
    · refine z_mask [false, false] rfl ?_
      exact gsX8_isStep_17 F n σ hk he
    · refine z_run hk hX8_isStep_0 7 1 (pc' := 14) (lv' := [some (.inr (.inl a0)), some (.inl a1)]) (st' := [.inl 1]) rfl ?_
      refine z_goto hk (z_row hX8_isStep_0 8 rfl) (tgt := 18) rfl ?_
      refine z_mask [false, false] rfl ?_
      exact gsX8_isStep_18 F n σ hk he 1
theorem kX8_isStep {n : Nat} {own : String} {cc : ByteArray} {nL h index : Nat} {α : Type} {fin : α → zO} {σ : zW} {pc : Nat} {lv : zLV} {st : List zV} {a0 : Nat} {a1 : Int32} {c : Int32 → Option α} (F : zFx E) (hk : zk E K own cc nL h) (hd : decode cc pc = .ok (.invokevirtual index, 3)) (hl : Cond.methodLink own index qX8_isStep ∈ lw_tbl) (hh : 2 + 1 ≤ h) (hs : zcat st ≤ 8) (k : ∀ v, zG E K fin (c v) σ (pc + 3) lv (.inl v :: st)) : zG E K fin (zck σ 9 a0 (zb (fX8_isStep n a0 a1 σ) c)) σ pc lv (.inl a1 :: .inr (.inl a0) :: st) :=
  z_vR (n := 1) (y := qX8_isStep) (As := [.inl a1]) hk hd hl wd_1351 ws_41 wd_10 wd_1352 ⟨by decide, by decide, by decide +kernel⟩ ⟨hh, by decide⟩ (ci := 8) rfl rfl rfl (fun o ho => mX8_isStep F n a0 a1 σ o ho) hs k
abbrev qX8_hasOpenLot : MethodName := { cls := "LotSalesModel", name := "hasOpenLot", desc := "()Z" }
def sX8_hasOpenLot_34 (n : Nat) (σ : zW) (r4 : Nat → Int32 → Int32 → Option (Int32)) (v0 : Nat) (v2 : Int32) (y0 : Int32) : Option (Int32) := r4 v0 y0 (v2 + 1)
def sX8_hasOpenLot_29 (n : Nat) (σ : zW) (r4 : Nat → Int32 → Int32 → Option (Int32)) (v0 : Nat) (v2 : Int32) : Option (Int32) := sX8_hasOpenLot_34 n σ r4 v0 v2 1
def sX8_hasOpenLot_4 (n : Nat) (σ : zW) : Nat → Nat → Int32 → Int32 → Option (Int32)
  | 0, _, _, _ => none
  | k + 1, v0, v1, v2 => zgR σ 9 v0 1 fun x1 => zaI σ x1 23 fun x2 => if v2 < x2 then if v1 = 0 then zck σ 9 v0 (zb (fX8_at n v0 v2 3 σ) fun x3 => if x3 = 1 then sX8_hasOpenLot_29 n σ (sX8_hasOpenLot_4 n σ k) v0 v2 else sX8_hasOpenLot_34 n σ (sX8_hasOpenLot_4 n σ k) v0 v2 0) else sX8_hasOpenLot_29 n σ (sX8_hasOpenLot_4 n σ k) v0 v2 else if v1 = 0 ∨ v1 = 1 then some v1 else none
def fX8_hasOpenLot (n : Nat) (a0 : Nat) (σ : zW) : Option (Int32) := sX8_hasOpenLot_4 n σ n a0 0 0
theorem gsX8_hasOpenLot_34 (F : zFx E) (n : Nat) (σ : zW) (hk : zk E K "LotSalesModel" cX8_hasOpenLot 3 1) (he : zend E K (some .boolean) "hasOpenLot") (r4 : Nat → Int32 → Int32 → Option (Int32)) (hr4 : ∀ (v0 : Nat) (v1 : Int32) (v2 : Int32), zG E K (zfR σ) (r4 v0 v1 v2) σ 4 [some (.inr (.inl v0)), some (.inl v1), some (.inl v2)] []) (v0 : Nat) (v2 : Int32) (y0 : Int32) : zG E K (zfR σ) (sX8_hasOpenLot_34 n σ r4 v0 v2 y0) σ 34 [some (.inr (.inl v0)), none, some (.inl v2)] [.inl y0] := by
  unfold sX8_hasOpenLot_34
  refine z_run hk hX8_hasOpenLot_0 21 2 (pc' := 38) (lv' := [some (.inr (.inl v0)), some (.inl y0), some (.inl (v2 + 1))]) (st' := []) rfl ?_
  refine z_goto hk (z_row hX8_hasOpenLot_0 23 rfl) (tgt := 4) rfl ?_
  exact hr4 v0 y0 (v2 + 1)
theorem gsX8_hasOpenLot_29 (F : zFx E) (n : Nat) (σ : zW) (hk : zk E K "LotSalesModel" cX8_hasOpenLot 3 1) (he : zend E K (some .boolean) "hasOpenLot") (r4 : Nat → Int32 → Int32 → Option (Int32)) (hr4 : ∀ (v0 : Nat) (v1 : Int32) (v2 : Int32), zG E K (zfR σ) (r4 v0 v1 v2) σ 4 [some (.inr (.inl v0)), some (.inl v1), some (.inl v2)] []) (v0 : Nat) (v2 : Int32) : zG E K (zfR σ) (sX8_hasOpenLot_29 n σ r4 v0 v2) σ 29 [some (.inr (.inl v0)), none, some (.inl v2)] [] := by
  unfold sX8_hasOpenLot_29
  refine z_run hk hX8_hasOpenLot_0 18 1 (pc' := 30) (lv' := [some (.inr (.inl v0)), none, some (.inl v2)]) (st' := [.inl 1]) rfl ?_
  refine z_goto hk (z_row hX8_hasOpenLot_0 19 rfl) (tgt := 34) rfl ?_
  exact gsX8_hasOpenLot_34 F n σ hk he r4 hr4 v0 v2 1
theorem gsX8_hasOpenLot_4 (F : zFx E) (n : Nat) (σ : zW) (hk : zk E K "LotSalesModel" cX8_hasOpenLot 3 1) (he : zend E K (some .boolean) "hasOpenLot") : ∀ (k : Nat) (v0 : Nat) (v1 : Int32) (v2 : Int32), zG E K (zfR σ) (sX8_hasOpenLot_4 n σ k v0 v1 v2) σ 4 [some (.inr (.inl v0)), some (.inl v1), some (.inl v2)] [] := by
  intro k
  induction k with
  | zero =>
    intro v0 v1 v2
    intro hX
    exact z_none hX
  | succ k ih =>
    intro v0 v1 v2
    rw [sX8_hasOpenLot_4]
    refine z_run hk hX8_hasOpenLot_0 4 2 (pc' := 6) (lv' := [some (.inr (.inl v0)), some (.inl v1), some (.inl v2)]) (st' := [.inr (.inl v0), .inl v2]) rfl ?_
    refine z_gR hk 1 (z_row hX8_hasOpenLot_0 6 rfl) (ci := 8) rfl rfl wd_1123 (fun x1 => ?_)
    refine z_run hk hX8_hasOpenLot_0 7 1 (pc' := 11) (lv' := [some (.inr (.inl v0)), some (.inl v1), some (.inl v2)]) (st' := [.inl 23, .inr (.inl x1), .inl v2]) rfl ?_
    refine z_aI hk (z_row hX8_hasOpenLot_0 8 rfl) (fun x2 => ?_)
    refine z_cge hk (z_row hX8_hasOpenLot_0 9 rfl) (tgt := 41) rfl ?_ ?_
    · refine z_run hk hX8_hasOpenLot_0 24 1 (pc' := 42) (lv' := [some (.inr (.inl v0)), some (.inl v1), some (.inl v2)]) (st' := [.inl v1]) rfl ?_
      exact z_zret (fin := (zfR σ)) (o := v1) hk he (z_row hX8_hasOpenLot_0 25 rfl) rfl
    · refine z_run hk hX8_hasOpenLot_0 10 1 (pc' := 16) (lv' := [some (.inr (.inl v0)), some (.inl v1), some (.inl v2)]) (st' := [.inl v1]) rfl ?_
      refine z_ne hk (z_row hX8_hasOpenLot_0 11 rfl) (tgt := 29) rfl ?_ ?_
      · refine z_mask [true, false, true] rfl ?_
        exact gsX8_hasOpenLot_29 F n σ hk he (sX8_hasOpenLot_4 n σ k) ih v0 v2
      · refine z_run hk hX8_hasOpenLot_0 12 3 (pc' := 22) (lv' := [some (.inr (.inl v0)), some (.inl v1), some (.inl v2)]) (st' := [.inl 3, .inl v2, .inr (.inl v0)]) rfl ?_
        refine kX8_at F hk (z_row hX8_hasOpenLot_0 15 rfl) wd_1213 (by decide) (Nat.le_of_ble_eq_true rfl) (fun x3 => ?_)
        refine z_run hk hX8_hasOpenLot_0 16 1 (pc' := 26) (lv' := [some (.inr (.inl v0)), some (.inl v1), some (.inl v2)]) (st' := [.inl 1, .inl x3]) rfl ?_
        refine z_cne hk (z_row hX8_hasOpenLot_0 17 rfl) (tgt := 33) rfl ?_ ?_
        · refine z_run hk hX8_hasOpenLot_0 20 1 (pc' := 34) (lv' := [some (.inr (.inl v0)), some (.inl v1), some (.inl v2)]) (st' := [.inl 0]) rfl ?_
          refine z_mask [true, false, true] rfl ?_
          exact gsX8_hasOpenLot_34 F n σ hk he (sX8_hasOpenLot_4 n σ k) ih v0 v2 0
        · refine z_mask [true, false, true] rfl ?_
          exact gsX8_hasOpenLot_29 F n σ hk he (sX8_hasOpenLot_4 n σ k) ih v0 v2
theorem mX8_hasOpenLot (F : zFx E) (n : Nat) (a0 : Nat) (σ : zW) (o : Int32) (hf : fX8_hasOpenLot n a0 σ = some o) : zM E qX8_hasOpenLot cX8_hasOpenLot 3 (some .boolean) 1 [.inr (.inl a0)] σ (some (.int o)) σ := by
  refine zM_of (fin := (zfR σ)) F (by decide +kernel) rfl (Nat.le_of_ble_eq_true rfl) (lv0 := [some (.inr (.inl a0)), none, none]) rfl hf rfl (fun K hk he => ?_)
  have hk : zk E K "LotSalesModel" cX8_hasOpenLot 3 1 := hk
  unfold fX8_hasOpenLot
  refine z_run hk hX8_hasOpenLot_0 0 4 (pc' := 4) (lv' := [some (.inr (.inl a0)), some (.inl 0), some (.inl 0)]) (st' := []) rfl ?_
  exact gsX8_hasOpenLot_4 F n σ hk he n a0 0 0
theorem kX8_hasOpenLot {n : Nat} {own : String} {cc : ByteArray} {nL h index : Nat} {α : Type} {fin : α → zO} {σ : zW} {pc : Nat} {lv : zLV} {st : List zV} {a0 : Nat} {c : Int32 → Option α} (F : zFx E) (hk : zk E K own cc nL h) (hd : decode cc pc = .ok (.invokevirtual index, 3)) (hl : Cond.methodLink own index qX8_hasOpenLot ∈ lw_tbl) (hh : 1 + 1 ≤ h) (hs : zcat st ≤ 8) (k : ∀ v, zG E K fin (c v) σ (pc + 3) lv (.inl v :: st)) : zG E K fin (zck σ 9 a0 (zb (fX8_hasOpenLot n a0 σ) c)) σ pc lv (.inr (.inl a0) :: st) :=
  z_vR (n := 0) (y := qX8_hasOpenLot) (As := []) hk hd hl wd_1231 ws_23 wd_10 wd_1232 ⟨by decide, by decide, by decide +kernel⟩ ⟨hh, by decide⟩ (ci := 8) rfl rfl rfl (fun o ho => mX8_hasOpenLot F n a0 σ o ho) hs k
abbrev qX8_setRows : MethodName := { cls := "LotSalesModel", name := "setRows", desc := "(III)I" }
def sX8_setRows_24 (n : Nat) (v0 : Nat) (σ : zW) : Option (Int32 × zW) := zck σ 9 v0 (zb2 (fX8_fail n v0 1 σ) fun x1 σ2 => some (x1, σ2))
def sX8_setRows_93 (n : Nat) (v0 : Nat) (σ : zW) : Option (Int32 × zW) := zck σ 9 v0 (zb2 (fX8_fail n v0 2 σ) fun x3 σ4 => some (x3, σ4))
def sX8_setRows_65 (n : Nat) (v0 : Nat) (v1 : Int32) (v2 : Int32) (v3 : Int32) (y0 : Int32) (σ : zW) : Option (Int32 × zW) := zb (fX8_isIn n v2 0 90000 σ) fun x5 => if x5 = 0 then sX8_setRows_93 n v0 σ else zb (fX8_isIn n v3 1 5000 σ) fun x6 => if x6 = 0 then sX8_setRows_93 n v0 σ else if y0 = 0 then sX8_setRows_93 n v0 σ else zck σ 9 v0 (zb (fX8_hasOpenLot n v0 σ) fun x7 => if x7 = 0 then zck σ 9 v0 (zb (fX8_keep n v0 σ) fun σ8 => zgR σ8 9 v0 1 fun x9 => zsI σ8 x9 0 (v1 + 1) fun σ10 => zgR σ10 9 v0 1 fun x11 => zsI σ10 x11 (1 + v1) v2 fun σ12 => zgR σ12 9 v0 1 fun x13 => zsI σ12 x13 (7 + v1) v3 fun σ14 => some ((v1 + 1), σ14)) else zck σ 9 v0 (zb2 (fX8_fail n v0 3 σ) fun x15 σ16 => some (x15, σ16)))
def fX8_setRows (n : Nat) (a0 : Nat) (a1 : Int32) (a2 : Int32) (a3 : Int32) (σ : zW) : Option (Int32 × zW) := zpI σ 9 a0 0 0 fun σ17 => zb (fX8_isIn n a1 0 5 σ17) fun x18 => if x18 = 0 then sX8_setRows_24 n a0 σ17 else zgR σ17 9 a0 1 fun x19 => zaI σ17 x19 0 fun x20 => if x20 < a1 then sX8_setRows_24 n a0 σ17 else if a1 = 0 then if a2 = 0 then sX8_setRows_65 n a0 a1 a2 a3 1 σ17 else sX8_setRows_65 n a0 a1 a2 a3 0 σ17 else zgR σ17 9 a0 1 fun x21 => zaI σ17 x21 ((1 + a1) - 1) fun x22 => if x22 < a2 then sX8_setRows_65 n a0 a1 a2 a3 1 σ17 else sX8_setRows_65 n a0 a1 a2 a3 0 σ17
theorem gsX8_setRows_24 (F : zFx E) (n : Nat) (hk : zk E K "LotSalesModel" cX8_setRows 5 2) (he : zend E K (some .int) "setRows") (v0 : Nat) (σ : zW) : zG E K zfW (sX8_setRows_24 n v0 σ) σ 24 [some (.inr (.inl v0)), none, none, none, none] [] := by
  unfold sX8_setRows_24
  refine z_run hk hX8_setRows_0 14 2 (pc' := 26) (lv' := [some (.inr (.inl v0)), none, none, none, none]) (st' := [.inl 1, .inr (.inl v0)]) rfl ?_
  refine kX8_fail F hk (z_row hX8_setRows_0 16 rfl) wd_1221 (by decide) (Nat.le_of_ble_eq_true rfl) (fun x1 σ2 => ?_)
  exact z_iret hk he (z_row hX8_setRows_0 17 rfl) rfl
theorem gsX8_setRows_93 (F : zFx E) (n : Nat) (hk : zk E K "LotSalesModel" cX8_setRows 5 2) (he : zend E K (some .int) "setRows") (v0 : Nat) (σ : zW) : zG E K zfW (sX8_setRows_93 n v0 σ) σ 93 [some (.inr (.inl v0)), none, none, none, none] [] := by
  unfold sX8_setRows_93
  refine z_run hk hX8_setRows_0 52 2 (pc' := 95) (lv' := [some (.inr (.inl v0)), none, none, none, none]) (st' := [.inl 2, .inr (.inl v0)]) rfl ?_
  refine kX8_fail F hk (z_row hX8_setRows_0 54 rfl) wd_1221 (by decide) (Nat.le_of_ble_eq_true rfl) (fun x3 σ4 => ?_)
  exact z_iret hk he (z_row hX8_setRows_0 55 rfl) rfl
theorem gsX8_setRows_65 (F : zFx E) (n : Nat) (hk : zk E K "LotSalesModel" cX8_setRows 5 2) (he : zend E K (some .int) "setRows") (v0 : Nat) (v1 : Int32) (v2 : Int32) (v3 : Int32) (y0 : Int32) (σ : zW) : zG E K zfW (sX8_setRows_65 n v0 v1 v2 v3 y0 σ) σ 65 [some (.inr (.inl v0)), some (.inl v1), some (.inl v2), some (.inl v3), none] [.inl y0] := by
  unfold sX8_setRows_65
  refine z_run hk hX8_setRows_0 39 3 (pc' := 69) (lv' := [some (.inr (.inl v0)), some (.inl v1), some (.inl v2), some (.inl v3), some (.inl y0)]) (st' := [.inl 0, .inl v2]) rfl ?_
  refine z_ldc hk (z_row hX8_setRows_0 42 rfl) wd_1184 ?_
  refine kX8_isIn F hk (z_row hX8_setRows_0 43 rfl) wd_1181 (by decide) (Nat.le_of_ble_eq_true rfl) (fun x5 => ?_)
  refine z_eq hk (z_row hX8_setRows_0 44 rfl) (tgt := 93) rfl ?_ ?_
  · refine z_mask [true, false, false, false, false] rfl ?_
    exact gsX8_setRows_93 F n hk he v0 σ
  · refine z_run hk hX8_setRows_0 45 3 (pc' := 82) (lv' := [some (.inr (.inl v0)), some (.inl v1), some (.inl v2), some (.inl v3), some (.inl y0)]) (st' := [.inl 5000, .inl 1, .inl v3]) rfl ?_
    refine kX8_isIn F hk (z_row hX8_setRows_0 48 rfl) wd_1181 (by decide) (Nat.le_of_ble_eq_true rfl) (fun x6 => ?_)
    refine z_eq hk (z_row hX8_setRows_0 49 rfl) (tgt := 93) rfl ?_ ?_
    · refine z_mask [true, false, false, false, false] rfl ?_
      exact gsX8_setRows_93 F n hk he v0 σ
    · refine z_run hk hX8_setRows_0 50 1 (pc' := 90) (lv' := [some (.inr (.inl v0)), some (.inl v1), some (.inl v2), some (.inl v3), some (.inl y0)]) (st' := [.inl y0]) rfl ?_
      refine z_ne hk (z_row hX8_setRows_0 51 rfl) (tgt := 99) rfl ?_ ?_
      · refine z_run hk hX8_setRows_0 56 1 (pc' := 100) (lv' := [some (.inr (.inl v0)), some (.inl v1), some (.inl v2), some (.inl v3), some (.inl y0)]) (st' := [.inr (.inl v0)]) rfl ?_
        refine kX8_hasOpenLot F hk (z_row hX8_setRows_0 57 rfl) wd_1229 (by decide) (Nat.le_of_ble_eq_true rfl) (fun x7 => ?_)
        refine z_eq hk (z_row hX8_setRows_0 58 rfl) (tgt := 112) rfl ?_ ?_
        · refine z_run hk hX8_setRows_1 3 1 (pc' := 113) (lv' := [some (.inr (.inl v0)), some (.inl v1), some (.inl v2), some (.inl v3), some (.inl y0)]) (st' := [.inr (.inl v0)]) rfl ?_
          refine kX8_keep F hk (z_row hX8_setRows_1 4 rfl) wd_1185 (by decide) (Nat.le_of_ble_eq_true rfl) (fun σ8 => ?_)
          refine z_run hk hX8_setRows_1 5 1 (pc' := 117) (lv' := [some (.inr (.inl v0)), some (.inl v1), some (.inl v2), some (.inl v3), some (.inl y0)]) (st' := [.inr (.inl v0)]) rfl ?_
          refine z_gR hk 1 (z_row hX8_setRows_1 6 rfl) (ci := 8) rfl rfl wd_1123 (fun x9 => ?_)
          refine z_run hk hX8_setRows_1 7 4 (pc' := 124) (lv' := [some (.inr (.inl v0)), some (.inl v1), some (.inl v2), some (.inl v3), some (.inl y0)]) (st' := [.inl (v1 + 1), .inl 0, .inr (.inl x9)]) rfl ?_
          refine z_sI hk (z_row hX8_setRows_1 11 rfl) (fun σ10 => ?_)
          refine z_run hk hX8_setRows_1 12 1 (pc' := 126) (lv' := [some (.inr (.inl v0)), some (.inl v1), some (.inl v2), some (.inl v3), some (.inl y0)]) (st' := [.inr (.inl v0)]) rfl ?_
          refine z_gR hk 1 (z_row hX8_setRows_1 13 rfl) (ci := 8) rfl rfl wd_1123 (fun x11 => ?_)
          refine z_run hk hX8_setRows_1 14 4 (pc' := 133) (lv' := [some (.inr (.inl v0)), some (.inl v1), some (.inl v2), some (.inl v3), some (.inl y0)]) (st' := [.inl v2, .inl (1 + v1), .inr (.inl x11)]) rfl ?_
          refine z_sI hk (z_row hX8_setRows_1 18 rfl) (fun σ12 => ?_)
          refine z_run hk hX8_setRows_1 19 1 (pc' := 135) (lv' := [some (.inr (.inl v0)), some (.inl v1), some (.inl v2), some (.inl v3), some (.inl y0)]) (st' := [.inr (.inl v0)]) rfl ?_
          refine z_gR hk 1 (z_row hX8_setRows_1 20 rfl) (ci := 8) rfl rfl wd_1123 (fun x13 => ?_)
          refine z_run hk hX8_setRows_1 21 4 (pc' := 143) (lv' := [some (.inr (.inl v0)), some (.inl v1), some (.inl v2), some (.inl v3), some (.inl y0)]) (st' := [.inl v3, .inl (7 + v1), .inr (.inl x13)]) rfl ?_
          refine z_sI hk (z_row hX8_setRows_1 25 rfl) (fun σ14 => ?_)
          refine z_run hk hX8_setRows_1 26 3 (pc' := 147) (lv' := [some (.inr (.inl v0)), some (.inl v1), some (.inl v2), some (.inl v3), some (.inl y0)]) (st' := [.inl (v1 + 1)]) rfl ?_
          exact z_iret hk he (z_row hX8_setRows_1 29 rfl) rfl
        · refine z_run hk hX8_setRows_0 59 1 (pc' := 107) (lv' := [some (.inr (.inl v0)), some (.inl v1), some (.inl v2), some (.inl v3), some (.inl y0)]) (st' := [.inr (.inl v0)]) rfl ?_
          refine z_run hk hX8_setRows_1 0 1 (pc' := 108) (lv' := [some (.inr (.inl v0)), some (.inl v1), some (.inl v2), some (.inl v3), some (.inl y0)]) (st' := [.inl 3, .inr (.inl v0)]) rfl ?_
          refine kX8_fail F hk (z_row hX8_setRows_1 1 rfl) wd_1221 (by decide) (Nat.le_of_ble_eq_true rfl) (fun x15 σ16 => ?_)
          exact z_iret hk he (z_row hX8_setRows_1 2 rfl) rfl
      · refine z_mask [true, false, false, false, false] rfl ?_
        exact gsX8_setRows_93 F n hk he v0 σ
theorem mX8_setRows (F : zFx E) (n : Nat) (a0 : Nat) (a1 : Int32) (a2 : Int32) (a3 : Int32) (σ : zW) (o : Int32 × zW) (hf : fX8_setRows n a0 a1 a2 a3 σ = some o) : zM E qX8_setRows cX8_setRows 5 (some .int) 2 [.inr (.inl a0), .inl a1, .inl a2, .inl a3] σ (some (.int o.1)) o.2 := by
  refine zM_of (fin := zfW) F (by decide +kernel) rfl (Nat.le_of_ble_eq_true rfl) (lv0 := [some (.inr (.inl a0)), some (.inl a1), some (.inl a2), some (.inl a3), none]) rfl hf rfl (fun K hk he => ?_)
  have hk : zk E K "LotSalesModel" cX8_setRows 5 2 := hk
  unfold fX8_setRows
  refine z_run hk hX8_setRows_0 0 2 (pc' := 2) (lv' := [some (.inr (.inl a0)), some (.inl a1), some (.inl a2), some (.inl a3), none]) (st' := [.inl 0, .inr (.inl a0)]) rfl ?_
  refine z_pI hk 0 (z_row hX8_setRows_0 2 rfl) (ci := 8) rfl rfl wd_1122 rfl rfl rfl (fun σ17 => ?_)
  refine z_run hk hX8_setRows_0 3 3 (pc' := 8) (lv' := [some (.inr (.inl a0)), some (.inl a1), some (.inl a2), some (.inl a3), none]) (st' := [.inl 5, .inl 0, .inl a1]) rfl ?_
  refine kX8_isIn F hk (z_row hX8_setRows_0 6 rfl) wd_1181 (by decide) (Nat.le_of_ble_eq_true rfl) (fun x18 => ?_)
  refine z_eq hk (z_row hX8_setRows_0 7 rfl) (tgt := 24) rfl ?_ ?_
  · refine z_mask [true, false, false, false, false] rfl ?_
    exact gsX8_setRows_24 F n hk he a0 σ17
  · refine z_run hk hX8_setRows_0 8 2 (pc' := 16) (lv' := [some (.inr (.inl a0)), some (.inl a1), some (.inl a2), some (.inl a3), none]) (st' := [.inr (.inl a0), .inl a1]) rfl ?_
    refine z_gR hk 1 (z_row hX8_setRows_0 10 rfl) (ci := 8) rfl rfl wd_1123 (fun x19 => ?_)
    refine z_run hk hX8_setRows_0 11 1 (pc' := 20) (lv' := [some (.inr (.inl a0)), some (.inl a1), some (.inl a2), some (.inl a3), none]) (st' := [.inl 0, .inr (.inl x19), .inl a1]) rfl ?_
    refine z_aI hk (z_row hX8_setRows_0 12 rfl) (fun x20 => ?_)
    refine z_cle hk (z_row hX8_setRows_0 13 rfl) (tgt := 30) rfl ?_ ?_
    · refine z_run hk hX8_setRows_0 18 1 (pc' := 31) (lv' := [some (.inr (.inl a0)), some (.inl a1), some (.inl a2), some (.inl a3), none]) (st' := [.inl a1]) rfl ?_
      refine z_ne hk (z_row hX8_setRows_0 19 rfl) (tgt := 46) rfl ?_ ?_
      · refine z_run hk hX8_setRows_0 26 2 (pc' := 48) (lv' := [some (.inr (.inl a0)), some (.inl a1), some (.inl a2), some (.inl a3), none]) (st' := [.inr (.inl a0), .inl a2]) rfl ?_
        refine z_gR hk 1 (z_row hX8_setRows_0 28 rfl) (ci := 8) rfl rfl wd_1123 (fun x21 => ?_)
        refine z_run hk hX8_setRows_0 29 5 (pc' := 56) (lv' := [some (.inr (.inl a0)), some (.inl a1), some (.inl a2), some (.inl a3), none]) (st' := [.inl ((1 + a1) - 1), .inr (.inl x21), .inl a2]) rfl ?_
        refine z_aI hk (z_row hX8_setRows_0 34 rfl) (fun x22 => ?_)
        refine z_cle hk (z_row hX8_setRows_0 35 rfl) (tgt := 64) rfl ?_ ?_
        · refine z_run hk hX8_setRows_0 38 1 (pc' := 65) (lv' := [some (.inr (.inl a0)), some (.inl a1), some (.inl a2), some (.inl a3), none]) (st' := [.inl 0]) rfl ?_
          exact gsX8_setRows_65 F n hk he a0 a1 a2 a3 0 σ17
        · refine z_run hk hX8_setRows_0 36 1 (pc' := 61) (lv' := [some (.inr (.inl a0)), some (.inl a1), some (.inl a2), some (.inl a3), none]) (st' := [.inl 1]) rfl ?_
          refine z_goto hk (z_row hX8_setRows_0 37 rfl) (tgt := 65) rfl ?_
          exact gsX8_setRows_65 F n hk he a0 a1 a2 a3 1 σ17
      · refine z_run hk hX8_setRows_0 20 1 (pc' := 35) (lv' := [some (.inr (.inl a0)), some (.inl a1), some (.inl a2), some (.inl a3), none]) (st' := [.inl a2]) rfl ?_
        refine z_ne hk (z_row hX8_setRows_0 21 rfl) (tgt := 42) rfl ?_ ?_
        · refine z_run hk hX8_setRows_0 24 1 (pc' := 43) (lv' := [some (.inr (.inl a0)), some (.inl a1), some (.inl a2), some (.inl a3), none]) (st' := [.inl 0]) rfl ?_
          refine z_goto hk (z_row hX8_setRows_0 25 rfl) (tgt := 65) rfl ?_
          exact gsX8_setRows_65 F n hk he a0 a1 a2 a3 0 σ17
        · refine z_run hk hX8_setRows_0 22 1 (pc' := 39) (lv' := [some (.inr (.inl a0)), some (.inl a1), some (.inl a2), some (.inl a3), none]) (st' := [.inl 1]) rfl ?_
          refine z_goto hk (z_row hX8_setRows_0 23 rfl) (tgt := 65) rfl ?_
          exact gsX8_setRows_65 F n hk he a0 a1 a2 a3 1 σ17
    · refine z_mask [true, false, false, false, false] rfl ?_
      exact gsX8_setRows_24 F n hk he a0 σ17
theorem kX8_setRows {n : Nat} {own : String} {cc : ByteArray} {nL h index : Nat} {α : Type} {fin : α → zO} {σ : zW} {pc : Nat} {lv : zLV} {st : List zV} {a0 : Nat} {a1 : Int32} {a2 : Int32} {a3 : Int32} {c : Int32 → zW → Option α} (F : zFx E) (hk : zk E K own cc nL h) (hd : decode cc pc = .ok (.invokevirtual index, 3)) (hl : Cond.methodLink own index qX8_setRows ∈ lw_tbl) (hh : 2 + 1 ≤ h) (hs : zcat st ≤ 8) (k : ∀ v s, zG E K fin (c v s) s (pc + 3) lv (.inl v :: st)) : zG E K fin (zck σ 9 a0 (zb2 (fX8_setRows n a0 a1 a2 a3 σ) c)) σ pc lv (.inl a3 :: .inl a2 :: .inl a1 :: .inr (.inl a0) :: st) :=
  z_vW (n := 3) (y := qX8_setRows) (As := [.inl a1, .inl a2, .inl a3]) hk hd hl wd_1226 wd_1227 wd_10 wd_1228 ⟨by decide, by decide, by decide +kernel⟩ ⟨hh, by decide⟩ (ci := 8) rfl rfl rfl (fun o ho => mX8_setRows F n a0 a1 a2 a3 σ o ho) hs k
end
