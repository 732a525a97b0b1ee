/-! WHAT A SALE'S LAYOUT AND CONTENTS GIVE, ROW BY ROW -/
section
variable {σ : zW} {s i k : Nat} {a : Nat → Int32}
theorem Sh.kS (h : Sh σ s) : zK σ s = 4 := h.1.1
theorem Sh.r0 (h : Sh σ s) : zR σ s 0 = s + 1 := h.1.2.1
theorem Sh.r1 (h : Sh σ s) : zR σ s 1 = s + 4 := h.1.2.2.1
theorem Sh.r2 (h : Sh σ s) : zR σ s 2 = s + 5 := h.1.2.2.2.1
theorem Sh.r3 (h : Sh σ s) : zR σ s 3 = s + 6 := h.1.2.2.2.2.1
theorem Sh.r4 (h : Sh σ s) : zR σ s 4 = s + 7 := h.1.2.2.2.2.2
theorem Sh.kT (h : Sh σ s) : zK σ (s + 1) = 6 := h.2.1.1
theorem Sh.rT0 (h : Sh σ s) : zR σ (s + 1) 0 = s + 2 := h.2.1.2.1
theorem Sh.rT1 (h : Sh σ s) : zR σ (s + 1) 1 = s + 3 := h.2.1.2.2.1
theorem Sh.kB (h : Sh σ s) : zK σ (s + 2) = 20 := h.2.1.2.2.2.1
theorem Sh.lB (h : Sh σ s) : zL σ (s + 2) = 6 := h.2.1.2.2.2.2.1
theorem Sh.kC (h : Sh σ s) : zK σ (s + 3) = 20 := h.2.1.2.2.2.2.2.1
theorem Sh.lC (h : Sh σ s) : zL σ (s + 3) = 6 := h.2.1.2.2.2.2.2.2
theorem Sh.kR (h : Sh σ s) : zK σ (s + 4) = 20 := h.2.2.1.1
theorem Sh.lR (h : Sh σ s) : zL σ (s + 4) = 10 := h.2.2.1.2.1
theorem Sh.kF (h : Sh σ s) : zK σ (s + 5) = 20 := h.2.2.1.2.2.1
theorem Sh.lF (h : Sh σ s) : zL σ (s + 5) = 6 := h.2.2.1.2.2.2.1
theorem Sh.kO (h : Sh σ s) : zK σ (s + 6) = 25 := h.2.2.1.2.2.2.2.1
theorem Sh.lO (h : Sh σ s) : zL σ (s + 6) = 20 := h.2.2.1.2.2.2.2.2
theorem Sh.kG (h : Sh σ s) : zK σ (s + 7) = 2 := h.2.2.2.1.1
theorem Sh.rG0 (h : Sh σ s) : zR σ (s + 7) 0 = s + 8 := (h.2.2.2.1.2 0 (by decide)).1
theorem Sh.kG0 (h : Sh σ s) : zK σ (s + 8) = 20 := (h.2.2.2.1.2 0 (by decide)).2.1
theorem Sh.lG0 (h : Sh σ s) : zL σ (s + 8) = 250 := (h.2.2.2.1.2 0 (by decide)).2.2
theorem Sh.rG1 (h : Sh σ s) : zR σ (s + 7) 1 = s + 9 := (h.2.2.2.1.2 1 (by decide)).1
theorem Sh.kG1 (h : Sh σ s) : zK σ (s + 9) = 20 := (h.2.2.2.1.2 1 (by decide)).2.1
theorem Sh.lG1 (h : Sh σ s) : zL σ (s + 9) = 250 := (h.2.2.2.1.2 1 (by decide)).2.2
theorem Sh.rG2 (h : Sh σ s) : zR σ (s + 7) 2 = s + 10 := (h.2.2.2.1.2 2 (by decide)).1
theorem Sh.kG2 (h : Sh σ s) : zK σ (s + 10) = 20 := (h.2.2.2.1.2 2 (by decide)).2.1
theorem Sh.lG2 (h : Sh σ s) : zL σ (s + 10) = 250 := (h.2.2.2.1.2 2 (by decide)).2.2
theorem Sh.rG3 (h : Sh σ s) : zR σ (s + 7) 3 = s + 11 := (h.2.2.2.1.2 3 (by decide)).1
theorem Sh.kG3 (h : Sh σ s) : zK σ (s + 11) = 20 := (h.2.2.2.1.2 3 (by decide)).2.1
theorem Sh.lG3 (h : Sh σ s) : zL σ (s + 11) = 250 := (h.2.2.2.1.2 3 (by decide)).2.2
theorem Sh.rL (h : Sh σ s) (hi : i < 20) : zR σ (s + 6) i = lo s i := (h.2.2.2.2 i hi).1
theorem Sh.kL (h : Sh σ s) (hi : i < 20) : zK σ (lo s i) = 3 := (h.2.2.2.2 i hi).2.1
theorem Sh.rL0 (h : Sh σ s) (hi : i < 20) : zR σ (lo s i) 0 = lo s i + 1 := ((h.2.2.2.2 i hi).2.2 0 (by decide)).1
theorem Sh.kL0 (h : Sh σ s) (hi : i < 20) : zK σ (lo s i + 1) = 20 := ((h.2.2.2.2 i hi).2.2 0 (by decide)).2.1
theorem Sh.lL0 (h : Sh σ s) (hi : i < 20) : zL σ (lo s i + 1) = 10 := ((h.2.2.2.2 i hi).2.2 0 (by decide)).2.2
theorem Sh.rL1 (h : Sh σ s) (hi : i < 20) : zR σ (lo s i) 1 = lo s i + 2 := ((h.2.2.2.2 i hi).2.2 1 (by decide)).1
theorem Sh.kL1 (h : Sh σ s) (hi : i < 20) : zK σ (lo s i + 2) = 20 := ((h.2.2.2.2 i hi).2.2 1 (by decide)).2.1
theorem Sh.lL1 (h : Sh σ s) (hi : i < 20) : zL σ (lo s i + 2) = 10 := ((h.2.2.2.2 i hi).2.2 1 (by decide)).2.2
theorem Sh.rL2 (h : Sh σ s) (hi : i < 20) : zR σ (lo s i) 2 = lo s i + 3 := ((h.2.2.2.2 i hi).2.2 2 (by decide)).1
theorem Sh.kL2 (h : Sh σ s) (hi : i < 20) : zK σ (lo s i + 3) = 20 := ((h.2.2.2.2 i hi).2.2 2 (by decide)).2.1
theorem Sh.lL2 (h : Sh σ s) (hi : i < 20) : zL σ (lo s i + 3) = 10 := ((h.2.2.2.2 i hi).2.2 2 (by decide)).2.2
theorem Sh.rL3 (h : Sh σ s) (hi : i < 20) : zR σ (lo s i) 3 = lo s i + 4 := ((h.2.2.2.2 i hi).2.2 3 (by decide)).1
theorem Sh.kL3 (h : Sh σ s) (hi : i < 20) : zK σ (lo s i + 4) = 20 := ((h.2.2.2.2 i hi).2.2 3 (by decide)).2.1
theorem Sh.lL3 (h : Sh σ s) (hi : i < 20) : zL σ (lo s i + 4) = 10 := ((h.2.2.2.2 i hi).2.2 3 (by decide)).2.2
theorem slo_rows : slo (0) = (1, 2) := rfl
theorem Rep.rows (h : Rep σ s a) : zI σ (s + 1) 2 = a (0) := by
  rw [← h.2 (0) ⟨by omega, fun _ _ => by omega, fun _ _ => by omega, fun _ => by omega⟩]
  unfold sl
  rw [slo_rows]
  try rfl
theorem slst_rows {v : Int32} {j : Nat} (hj : j < 1992) : sl (stI σ (s + 1) 2 v) s j = up (sl σ s) (0) v j := by
  have e := sl_st (σ := σ) (s := s) (v := v) (j0 := 0) (j := j) (by omega) hj
  rw [slo_rows] at e
  exact e
theorem slo_bnd (hk : k < 6) : slo (1 + k) = (2, k) := by
  unfold slo
  repeat (first | rw [if_neg (by omega)] | rw [if_pos (by omega)])
  exact Prod.ext (by show _ = _; omega) (by show _ = _; omega)
theorem Rep.bnd (h : Rep σ s a) (hk : k < 6) : zI σ (s + 2) k = a (1 + k) := by
  rw [← h.2 (1 + k) ⟨by omega, fun _ _ => by omega, fun _ _ => by omega, fun _ => by omega⟩]
  unfold sl
  rw [slo_bnd hk]
  try rfl
theorem slst_bnd (hk : k < 6) {v : Int32} {j : Nat} (hj : j < 1992) : sl (stI σ (s + 2) k v) s j = up (sl σ s) (1 + k) v j := by
  have e := sl_st (σ := σ) (s := s) (v := v) (j0 := 1 + k) (j := j) (by omega) hj
  rw [slo_bnd hk] at e
  exact e
theorem slo_inc (hk : k < 6) : slo (7 + k) = (3, k) := by
  unfold slo
  repeat (first | rw [if_neg (by omega)] | rw [if_pos (by omega)])
  exact Prod.ext (by show _ = _; omega) (by show _ = _; omega)
theorem Rep.inc (h : Rep σ s a) (hk : k < 6) : zI σ (s + 3) k = a (7 + k) := by
  rw [← h.2 (7 + k) ⟨by omega, fun _ _ => by omega, fun _ _ => by omega, fun _ => by omega⟩]
  unfold sl
  rw [slo_inc hk]
  try rfl
theorem slst_inc (hk : k < 6) {v : Int32} {j : Nat} (hj : j < 1992) : sl (stI σ (s + 3) k v) s j = up (sl σ s) (7 + k) v j := by
  have e := sl_st (σ := σ) (s := s) (v := v) (j0 := 7 + k) (j := j) (by omega) hj
  rw [slo_inc hk] at e
  exact e
theorem slo_crd (hk : k < 10) : slo (13 + k) = (4, k) := by
  unfold slo
  repeat (first | rw [if_neg (by omega)] | rw [if_pos (by omega)])
  exact Prod.ext (by show _ = _; omega) (by show _ = _; omega)
theorem Rep.crd (h : Rep σ s a) (hk : k < 10) : zI σ (s + 4) k = a (13 + k) := by
  rw [← h.2 (13 + k) ⟨by omega, fun _ _ => by omega, fun _ _ => by omega, fun _ => by omega⟩]
  unfold sl
  rw [slo_crd hk]
  try rfl
theorem slst_crd (hk : k < 10) {v : Int32} {j : Nat} (hj : j < 1992) : sl (stI σ (s + 4) k v) s j = up (sl σ s) (13 + k) v j := by
  have e := sl_st (σ := σ) (s := s) (v := v) (j0 := 13 + k) (j := j) (by omega) hj
  rw [slo_crd hk] at e
  exact e
theorem slo_fee (hk : k < 6) : slo (985 + k) = (5, k) := by
  unfold slo
  repeat (first | rw [if_neg (by omega)] | rw [if_pos (by omega)])
  exact Prod.ext (by show _ = _; omega) (by show _ = _; omega)
theorem Rep.fee (h : Rep σ s a) (hk : k < 6) : zI σ (s + 5) k = a (985 + k) := by
  rw [← h.2 (985 + k) ⟨by omega, fun _ _ => by omega, fun _ _ => by omega, fun _ => by omega⟩]
  unfold sl
  rw [slo_fee hk]
  try rfl
theorem slst_fee (hk : k < 6) {v : Int32} {j : Nat} (hj : j < 1992) : sl (stI σ (s + 5) k v) s j = up (sl σ s) (985 + k) v j := by
  have e := sl_st (σ := σ) (s := s) (v := v) (j0 := 985 + k) (j := j) (by omega) hj
  rw [slo_fee hk] at e
  exact e
theorem slo_cnt : slo (23) = (0, 5) := rfl
theorem Rep.cnt (h : Rep σ s a) : zI σ s 5 = a (23) := by
  rw [← h.2 (23) ⟨by omega, fun _ _ => by omega, fun _ _ => by omega, fun _ => by omega⟩]
  unfold sl
  rw [slo_cnt]
  try rfl
theorem slst_cnt {v : Int32} {j : Nat} (hj : j < 1992) : sl (stI σ (s) 5 v) s j = up (sl σ s) (23) v j := by
  have e := sl_st (σ := σ) (s := s) (v := v) (j0 := 23) (j := j) (by omega) hj
  rw [slo_cnt] at e
  exact e
theorem slo_num : slo (984) = (0, 6) := rfl
theorem Rep.num (h : Rep σ s a) : zI σ s 6 = a (984) := by
  rw [← h.2 (984) ⟨by omega, fun _ _ => by omega, fun _ _ => by omega, fun _ => by omega⟩]
  unfold sl
  rw [slo_num]
  try rfl
theorem slst_num {v : Int32} {j : Nat} (hj : j < 1992) : sl (stI σ (s) 6 v) s j = up (sl σ s) (984) v j := by
  have e := sl_st (σ := σ) (s := s) (v := v) (j0 := 984) (j := j) (by omega) hj
  rw [slo_num] at e
  exact e
theorem slo_kept : slo (991) = (7, 4) := rfl
theorem Rep.kept (h : Rep σ s a) : zI σ (s + 7) 4 = a (991) := by
  rw [← h.2 (991) ⟨by omega, fun _ _ => by omega, fun _ _ => by omega, fun _ => by omega⟩]
  unfold sl
  rw [slo_kept]
  try rfl
theorem slst_kept {v : Int32} {j : Nat} (hj : j < 1992) : sl (stI σ (s + 7) 4 v) s j = up (sl σ s) (991) v j := by
  have e := sl_st (σ := σ) (s := s) (v := v) (j0 := 991) (j := j) (by omega) hj
  rw [slo_kept] at e
  exact e
theorem slo_ev0 (hk : k < 250) : slo (992 + 4 * k + 0) = (8, k) := by
  unfold slo
  repeat (first | rw [if_neg (by omega)] | rw [if_pos (by omega)])
  exact Prod.ext (by show 8 + (992 + 4 * k + 0 - 992) % 4 = _; omega) (by show (992 + 4 * k + 0 - 992) / 4 = _; omega)
theorem Rep.ev0 (h : Rep σ s a) (hk : k < 250) (hv : k < (a 991).toNatClampNeg) : zI σ (s + 8) k = a (992 + 4 * k + 0) := by
  rw [← h.2 (992 + 4 * k + 0) ⟨by omega, fun _ _ => by omega, fun _ _ => by omega, fun _ => by omega⟩]
  unfold sl
  rw [slo_ev0 hk]
  try rfl
theorem slst_ev0 (hk : k < 250) {v : Int32} {j : Nat} (hj : j < 1992) : sl (stI σ (s + 8) k v) s j = up (sl σ s) (992 + 4 * k + 0) v j := by
  have e := sl_st (σ := σ) (s := s) (v := v) (j0 := 992 + 4 * k + 0) (j := j) (by omega) hj
  rw [slo_ev0 hk] at e
  exact e
theorem slo_ev1 (hk : k < 250) : slo (992 + 4 * k + 1) = (9, k) := by
  unfold slo
  repeat (first | rw [if_neg (by omega)] | rw [if_pos (by omega)])
  exact Prod.ext (by show 8 + (992 + 4 * k + 1 - 992) % 4 = _; omega) (by show (992 + 4 * k + 1 - 992) / 4 = _; omega)
theorem Rep.ev1 (h : Rep σ s a) (hk : k < 250) (hv : k < (a 991).toNatClampNeg) : zI σ (s + 9) k = a (992 + 4 * k + 1) := by
  rw [← h.2 (992 + 4 * k + 1) ⟨by omega, fun _ _ => by omega, fun _ _ => by omega, fun _ => by omega⟩]
  unfold sl
  rw [slo_ev1 hk]
  try rfl
theorem slst_ev1 (hk : k < 250) {v : Int32} {j : Nat} (hj : j < 1992) : sl (stI σ (s + 9) k v) s j = up (sl σ s) (992 + 4 * k + 1) v j := by
  have e := sl_st (σ := σ) (s := s) (v := v) (j0 := 992 + 4 * k + 1) (j := j) (by omega) hj
  rw [slo_ev1 hk] at e
  exact e
theorem slo_ev2 (hk : k < 250) : slo (992 + 4 * k + 2) = (10, k) := by
  unfold slo
  repeat (first | rw [if_neg (by omega)] | rw [if_pos (by omega)])
  exact Prod.ext (by show 8 + (992 + 4 * k + 2 - 992) % 4 = _; omega) (by show (992 + 4 * k + 2 - 992) / 4 = _; omega)
theorem Rep.ev2 (h : Rep σ s a) (hk : k < 250) (hv : k < (a 991).toNatClampNeg) : zI σ (s + 10) k = a (992 + 4 * k + 2) := by
  rw [← h.2 (992 + 4 * k + 2) ⟨by omega, fun _ _ => by omega, fun _ _ => by omega, fun _ => by omega⟩]
  unfold sl
  rw [slo_ev2 hk]
  try rfl
theorem slst_ev2 (hk : k < 250) {v : Int32} {j : Nat} (hj : j < 1992) : sl (stI σ (s + 10) k v) s j = up (sl σ s) (992 + 4 * k + 2) v j := by
  have e := sl_st (σ := σ) (s := s) (v := v) (j0 := 992 + 4 * k + 2) (j := j) (by omega) hj
  rw [slo_ev2 hk] at e
  exact e
theorem slo_ev3 (hk : k < 250) : slo (992 + 4 * k + 3) = (11, k) := by
  unfold slo
  repeat (first | rw [if_neg (by omega)] | rw [if_pos (by omega)])
  exact Prod.ext (by show 8 + (992 + 4 * k + 3 - 992) % 4 = _; omega) (by show (992 + 4 * k + 3 - 992) / 4 = _; omega)
theorem Rep.ev3 (h : Rep σ s a) (hk : k < 250) (hv : k < (a 991).toNatClampNeg) : zI σ (s + 11) k = a (992 + 4 * k + 3) := by
  rw [← h.2 (992 + 4 * k + 3) ⟨by omega, fun _ _ => by omega, fun _ _ => by omega, fun _ => by omega⟩]
  unfold sl
  rw [slo_ev3 hk]
  try rfl
theorem slst_ev3 (hk : k < 250) {v : Int32} {j : Nat} (hj : j < 1992) : sl (stI σ (s + 11) k v) s j = up (sl σ s) (992 + 4 * k + 3) v j := by
  have e := sl_st (σ := σ) (s := s) (v := v) (j0 := 992 + 4 * k + 3) (j := j) (by omega) hj
  rw [slo_ev3 hk] at e
  exact e
theorem slo_l0 (hi : i < 20) : slo (24 + 8 * i + 0) = (12 + 5 * i, 5) := by
  unfold slo
  repeat (first | rw [if_neg (by omega)] | rw [if_pos (by omega)])
  have e : (24 + 8 * i + 0 - 24) % 8 = 0 := by omega
  rw [e]
  exact Prod.ext (by show 12 + 5 * ((24 + 8 * i + 0 - 24) / 8) = _; omega) rfl
theorem Rep.l0 (h : Rep σ s a) (hi : i < 20) (hv : i < (a 23).toNatClampNeg) : zI σ (lo s i) 5 = a (24 + 8 * i + 0) := by
  rw [← h.2 (24 + 8 * i + 0) ⟨by omega, fun _ _ => by omega, fun _ _ => by omega, fun _ => by omega⟩]
  unfold sl
  rw [slo_l0 hi]
  try rfl
theorem slst_l0 (hi : i < 20) {v : Int32} {j : Nat} (hj : j < 1992) : sl (stI σ (lo s i) 5 v) s j = up (sl σ s) (24 + 8 * i + 0) v j := by
  have e := sl_st (σ := σ) (s := s) (v := v) (j0 := 24 + 8 * i + 0) (j := j) (by omega) hj
  rw [slo_l0 hi] at e
  exact e
theorem slo_l1 (hi : i < 20) : slo (24 + 8 * i + 1) = (12 + 5 * i, 6) := by
  unfold slo
  repeat (first | rw [if_neg (by omega)] | rw [if_pos (by omega)])
  have e : (24 + 8 * i + 1 - 24) % 8 = 1 := by omega
  rw [e]
  exact Prod.ext (by show 12 + 5 * ((24 + 8 * i + 1 - 24) / 8) = _; omega) rfl
theorem Rep.l1 (h : Rep σ s a) (hi : i < 20) (hv : i < (a 23).toNatClampNeg) : zI σ (lo s i) 6 = a (24 + 8 * i + 1) := by
  rw [← h.2 (24 + 8 * i + 1) ⟨by omega, fun _ _ => by omega, fun _ _ => by omega, fun _ => by omega⟩]
  unfold sl
  rw [slo_l1 hi]
  try rfl
theorem slst_l1 (hi : i < 20) {v : Int32} {j : Nat} (hj : j < 1992) : sl (stI σ (lo s i) 6 v) s j = up (sl σ s) (24 + 8 * i + 1) v j := by
  have e := sl_st (σ := σ) (s := s) (v := v) (j0 := 24 + 8 * i + 1) (j := j) (by omega) hj
  rw [slo_l1 hi] at e
  exact e
theorem slo_l2 (hi : i < 20) : slo (24 + 8 * i + 2) = (12 + 5 * i, 7) := by
  unfold slo
  repeat (first | rw [if_neg (by omega)] | rw [if_pos (by omega)])
  have e : (24 + 8 * i + 2 - 24) % 8 = 2 := by omega
  rw [e]
  exact Prod.ext (by show 12 + 5 * ((24 + 8 * i + 2 - 24) / 8) = _; omega) rfl
theorem Rep.l2 (h : Rep σ s a) (hi : i < 20) (hv : i < (a 23).toNatClampNeg) : zI σ (lo s i) 7 = a (24 + 8 * i + 2) := by
  rw [← h.2 (24 + 8 * i + 2) ⟨by omega, fun _ _ => by omega, fun _ _ => by omega, fun _ => by omega⟩]
  unfold sl
  rw [slo_l2 hi]
  try rfl
theorem slst_l2 (hi : i < 20) {v : Int32} {j : Nat} (hj : j < 1992) : sl (stI σ (lo s i) 7 v) s j = up (sl σ s) (24 + 8 * i + 2) v j := by
  have e := sl_st (σ := σ) (s := s) (v := v) (j0 := 24 + 8 * i + 2) (j := j) (by omega) hj
  rw [slo_l2 hi] at e
  exact e
theorem slo_l3 (hi : i < 20) : slo (24 + 8 * i + 3) = (12 + 5 * i, 4) := by
  unfold slo
  repeat (first | rw [if_neg (by omega)] | rw [if_pos (by omega)])
  have e : (24 + 8 * i + 3 - 24) % 8 = 3 := by omega
  rw [e]
  exact Prod.ext (by show 12 + 5 * ((24 + 8 * i + 3 - 24) / 8) = _; omega) rfl
theorem Rep.l3 (h : Rep σ s a) (hi : i < 20) (hv : i < (a 23).toNatClampNeg) : zI σ (lo s i) 4 = a (24 + 8 * i + 3) := by
  rw [← h.2 (24 + 8 * i + 3) ⟨by omega, fun _ _ => by omega, fun _ _ => by omega, fun _ => by omega⟩]
  unfold sl
  rw [slo_l3 hi]
  try rfl
theorem slst_l3 (hi : i < 20) {v : Int32} {j : Nat} (hj : j < 1992) : sl (stI σ (lo s i) 4 v) s j = up (sl σ s) (24 + 8 * i + 3) v j := by
  have e := sl_st (σ := σ) (s := s) (v := v) (j0 := 24 + 8 * i + 3) (j := j) (by omega) hj
  rw [slo_l3 hi] at e
  exact e
theorem slo_l4 (hi : i < 20) : slo (24 + 8 * i + 4) = (12 + 5 * i, 8) := by
  unfold slo
  repeat (first | rw [if_neg (by omega)] | rw [if_pos (by omega)])
  have e : (24 + 8 * i + 4 - 24) % 8 = 4 := by omega
  rw [e]
  exact Prod.ext (by show 12 + 5 * ((24 + 8 * i + 4 - 24) / 8) = _; omega) rfl
theorem Rep.l4 (h : Rep σ s a) (hi : i < 20) (hv : i < (a 23).toNatClampNeg) : zI σ (lo s i) 8 = a (24 + 8 * i + 4) := by
  rw [← h.2 (24 + 8 * i + 4) ⟨by omega, fun _ _ => by omega, fun _ _ => by omega, fun _ => by omega⟩]
  unfold sl
  rw [slo_l4 hi]
  try rfl
theorem slst_l4 (hi : i < 20) {v : Int32} {j : Nat} (hj : j < 1992) : sl (stI σ (lo s i) 8 v) s j = up (sl σ s) (24 + 8 * i + 4) v j := by
  have e := sl_st (σ := σ) (s := s) (v := v) (j0 := 24 + 8 * i + 4) (j := j) (by omega) hj
  rw [slo_l4 hi] at e
  exact e
theorem slo_l5 (hi : i < 20) : slo (24 + 8 * i + 5) = (12 + 5 * i, 9) := by
  unfold slo
  repeat (first | rw [if_neg (by omega)] | rw [if_pos (by omega)])
  have e : (24 + 8 * i + 5 - 24) % 8 = 5 := by omega
  rw [e]
  exact Prod.ext (by show 12 + 5 * ((24 + 8 * i + 5 - 24) / 8) = _; omega) rfl
theorem Rep.l5 (h : Rep σ s a) (hi : i < 20) (hv : i < (a 23).toNatClampNeg) : zI σ (lo s i) 9 = a (24 + 8 * i + 5) := by
  rw [← h.2 (24 + 8 * i + 5) ⟨by omega, fun _ _ => by omega, fun _ _ => by omega, fun _ => by omega⟩]
  unfold sl
  rw [slo_l5 hi]
  try rfl
theorem slst_l5 (hi : i < 20) {v : Int32} {j : Nat} (hj : j < 1992) : sl (stI σ (lo s i) 9 v) s j = up (sl σ s) (24 + 8 * i + 5) v j := by
  have e := sl_st (σ := σ) (s := s) (v := v) (j0 := 24 + 8 * i + 5) (j := j) (by omega) hj
  rw [slo_l5 hi] at e
  exact e
theorem slo_l6 (hi : i < 20) : slo (24 + 8 * i + 6) = (12 + 5 * i, 10) := by
  unfold slo
  repeat (first | rw [if_neg (by omega)] | rw [if_pos (by omega)])
  have e : (24 + 8 * i + 6 - 24) % 8 = 6 := by omega
  rw [e]
  exact Prod.ext (by show 12 + 5 * ((24 + 8 * i + 6 - 24) / 8) = _; omega) rfl
theorem Rep.l6 (h : Rep σ s a) (hi : i < 20) (hv : i < (a 23).toNatClampNeg) : zI σ (lo s i) 10 = a (24 + 8 * i + 6) := by
  rw [← h.2 (24 + 8 * i + 6) ⟨by omega, fun _ _ => by omega, fun _ _ => by omega, fun _ => by omega⟩]
  unfold sl
  rw [slo_l6 hi]
  try rfl
theorem slst_l6 (hi : i < 20) {v : Int32} {j : Nat} (hj : j < 1992) : sl (stI σ (lo s i) 10 v) s j = up (sl σ s) (24 + 8 * i + 6) v j := by
  have e := sl_st (σ := σ) (s := s) (v := v) (j0 := 24 + 8 * i + 6) (j := j) (by omega) hj
  rw [slo_l6 hi] at e
  exact e
theorem slo_l7 (hi : i < 20) : slo (24 + 8 * i + 7) = (12 + 5 * i, 11) := by
  unfold slo
  repeat (first | rw [if_neg (by omega)] | rw [if_pos (by omega)])
  have e : (24 + 8 * i + 7 - 24) % 8 = 7 := by omega
  rw [e]
  exact Prod.ext (by show 12 + 5 * ((24 + 8 * i + 7 - 24) / 8) = _; omega) rfl
theorem Rep.l7 (h : Rep σ s a) (hi : i < 20) (hv : i < (a 23).toNatClampNeg) : zI σ (lo s i) 11 = a (24 + 8 * i + 7) := by
  rw [← h.2 (24 + 8 * i + 7) ⟨by omega, fun _ _ => by omega, fun _ _ => by omega, fun _ => by omega⟩]
  unfold sl
  rw [slo_l7 hi]
  try rfl
theorem slst_l7 (hi : i < 20) {v : Int32} {j : Nat} (hj : j < 1992) : sl (stI σ (lo s i) 11 v) s j = up (sl σ s) (24 + 8 * i + 7) v j := by
  have e := sl_st (σ := σ) (s := s) (v := v) (j0 := 24 + 8 * i + 7) (j := j) (by omega) hj
  rw [slo_l7 hi] at e
  exact e
theorem slo_p0 (hi : i < 20) (hk : k < 10) : slo (184 + 10 * i + k) = (12 + 5 * i + 1, k) := by
  unfold slo
  repeat (first | rw [if_neg (by omega)] | rw [if_pos (by omega)])
  exact Prod.ext (by show 13 + 5 * ((184 + 10 * i + k - 184) % 200 / 10) + (184 + 10 * i + k - 184) / 200 = _; omega) (by show (184 + 10 * i + k - 184) % 10 = _; omega)
theorem Rep.p0 (h : Rep σ s a) (hi : i < 20) (hk : k < 10) (hv : i < (a 23).toNatClampNeg) : zI σ (lo s i + 1) k = a (184 + 10 * i + k) := by
  rw [← h.2 (184 + 10 * i + k) ⟨by omega, fun _ _ => by omega, fun _ _ => by omega, fun _ => by omega⟩]
  unfold sl
  rw [slo_p0 hi hk]
  try rfl
theorem slst_p0 (hi : i < 20) (hk : k < 10) {v : Int32} {j : Nat} (hj : j < 1992) : sl (stI σ (lo s i + 1) k v) s j = up (sl σ s) (184 + 10 * i + k) v j := by
  have e := sl_st (σ := σ) (s := s) (v := v) (j0 := 184 + 10 * i + k) (j := j) (by omega) hj
  rw [slo_p0 hi hk] at e
  exact e
theorem slo_p1 (hi : i < 20) (hk : k < 10) : slo (384 + 10 * i + k) = (12 + 5 * i + 2, k) := by
  unfold slo
  repeat (first | rw [if_neg (by omega)] | rw [if_pos (by omega)])
  exact Prod.ext (by show 13 + 5 * ((384 + 10 * i + k - 184) % 200 / 10) + (384 + 10 * i + k - 184) / 200 = _; omega) (by show (384 + 10 * i + k - 184) % 10 = _; omega)
theorem Rep.p1 (h : Rep σ s a) (hi : i < 20) (hk : k < 10) (hv : i < (a 23).toNatClampNeg) : zI σ (lo s i + 2) k = a (384 + 10 * i + k) := by
  rw [← h.2 (384 + 10 * i + k) ⟨by omega, fun _ _ => by omega, fun _ _ => by omega, fun _ => by omega⟩]
  unfold sl
  rw [slo_p1 hi hk]
  try rfl
theorem slst_p1 (hi : i < 20) (hk : k < 10) {v : Int32} {j : Nat} (hj : j < 1992) : sl (stI σ (lo s i + 2) k v) s j = up (sl σ s) (384 + 10 * i + k) v j := by
  have e := sl_st (σ := σ) (s := s) (v := v) (j0 := 384 + 10 * i + k) (j := j) (by omega) hj
  rw [slo_p1 hi hk] at e
  exact e
theorem slo_p2 (hi : i < 20) (hk : k < 10) : slo (584 + 10 * i + k) = (12 + 5 * i + 3, k) := by
  unfold slo
  repeat (first | rw [if_neg (by omega)] | rw [if_pos (by omega)])
  exact Prod.ext (by show 13 + 5 * ((584 + 10 * i + k - 184) % 200 / 10) + (584 + 10 * i + k - 184) / 200 = _; omega) (by show (584 + 10 * i + k - 184) % 10 = _; omega)
theorem Rep.p2 (h : Rep σ s a) (hi : i < 20) (hk : k < 10) (hv : i < (a 23).toNatClampNeg) : zI σ (lo s i + 3) k = a (584 + 10 * i + k) := by
  rw [← h.2 (584 + 10 * i + k) ⟨by omega, fun _ _ => by omega, fun _ _ => by omega, fun _ => by omega⟩]
  unfold sl
  rw [slo_p2 hi hk]
  try rfl
theorem slst_p2 (hi : i < 20) (hk : k < 10) {v : Int32} {j : Nat} (hj : j < 1992) : sl (stI σ (lo s i + 3) k v) s j = up (sl σ s) (584 + 10 * i + k) v j := by
  have e := sl_st (σ := σ) (s := s) (v := v) (j0 := 584 + 10 * i + k) (j := j) (by omega) hj
  rw [slo_p2 hi hk] at e
  exact e
theorem slo_p3 (hi : i < 20) (hk : k < 10) : slo (784 + 10 * i + k) = (12 + 5 * i + 4, k) := by
  unfold slo
  repeat (first | rw [if_neg (by omega)] | rw [if_pos (by omega)])
  exact Prod.ext (by show 13 + 5 * ((784 + 10 * i + k - 184) % 200 / 10) + (784 + 10 * i + k - 184) / 200 = _; omega) (by show (784 + 10 * i + k - 184) % 10 = _; omega)
theorem Rep.p3 (h : Rep σ s a) (hi : i < 20) (hk : k < 10) (hv : i < (a 23).toNatClampNeg) : zI σ (lo s i + 4) k = a (784 + 10 * i + k) := by
  rw [← h.2 (784 + 10 * i + k) ⟨by omega, fun _ _ => by omega, fun _ _ => by omega, fun _ => by omega⟩]
  unfold sl
  rw [slo_p3 hi hk]
  try rfl
theorem slst_p3 (hi : i < 20) (hk : k < 10) {v : Int32} {j : Nat} (hj : j < 1992) : sl (stI σ (lo s i + 4) k v) s j = up (sl σ s) (784 + 10 * i + k) v j := by
  have e := sl_st (σ := σ) (s := s) (v := v) (j0 := 784 + 10 * i + k) (j := j) (by omega) hj
  rw [slo_p3 hi hk] at e
  exact e
end
