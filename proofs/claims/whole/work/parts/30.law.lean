section
variable {E : zE} {K : zC}

def sL_law_2620 (n : Nat) (r28 : Nat → Nat → Nat → Nat → Nat → Int32 → zW → Option (Int32 × zW)) (v0 : Nat) (v1 : Nat) (v2 : Nat) (v3 : Nat) (v4 : Nat) (v5 : Int32) (σ : zW) : Option (Int32 × zW) := r28 v0 v1 v2 v3 v4 (v5 + 5) σ
def sL_law_297 (n : Nat) (r28 : Nat → Nat → Nat → Nat → Nat → Int32 → zW → Option (Int32 × zW)) (v0 : Nat) (v1 : Nat) (v2 : Nat) (v3 : Nat) (v4 : Nat) (v5 : Int32) (σ : zW) : Option (Int32 × zW) := sL_law_2620 n r28 v0 v1 v2 v3 v4 v5 σ
def sL_law_220 (n : Nat) (r28 : Nat → Nat → Nat → Nat → Nat → Int32 → zW → Option (Int32 × zW)) (v0 : Nat) (v1 : Nat) (v2 : Nat) (v3 : Nat) (v4 : Nat) (v5 : Int32) (σ : zW) : Option (Int32 × zW) := zaI σ v0 (v5 + 1) fun x1 => zaI σ v0 (v5 + 2) fun x2 => zaI σ v0 (v5 + 3) fun x3 => zb2 (fL_addLot n v1 x1 x2 x3 v3 σ) fun x4 σ5 => zaI σ5 v0 (v5 + 1) fun x6 => zaI σ5 v0 (v5 + 2) fun x7 => zaI σ5 v0 (v5 + 3) fun x8 => zck σ5 9 v2 (zb2 (fX8_addLot n v2 x6 x7 x8 σ5) fun x9 σ10 => zck σ10 9 v2 (zb (fX8_thrown n v2 σ10) fun x11 => if x11 = x4 then if x4 = 0 then zaL σ10 v3 0 fun x12 => if (lg_cmp (x12.toInt64) (x9.toInt64)) = 0 then sL_law_297 n r28 v0 v1 v2 v3 v4 v5 σ10 else if 0 = 0 ∨ 0 = 1 then some (0, σ10) else none else sL_law_297 n r28 v0 v1 v2 v3 v4 v5 σ10 else if 0 = 0 ∨ 0 = 1 then some (0, σ10) else none))
def sL_law_365 (n : Nat) (r28 : Nat → Nat → Nat → Nat → Nat → Int32 → zW → Option (Int32 × zW)) (v0 : Nat) (v1 : Nat) (v2 : Nat) (v3 : Nat) (v4 : Nat) (v5 : Int32) (σ : zW) : Option (Int32 × zW) := sL_law_2620 n r28 v0 v1 v2 v3 v4 v5 σ
def sL_law_300 (n : Nat) (r28 : Nat → Nat → Nat → Nat → Nat → Int32 → zW → Option (Int32 × zW)) (v0 : Nat) (v1 : Nat) (v2 : Nat) (v3 : Nat) (v4 : Nat) (v5 : Int32) (σ : zW) : Option (Int32 × zW) := zaI σ v0 (v5 + 1) fun x13 => zaI σ v0 (v5 + 2) fun x14 => zb2 (fL_lot n v1 x13 x14 v3 σ) fun x15 σ16 => zaI σ16 v0 (v5 + 1) fun x17 => zaI σ16 v0 (v5 + 2) fun x18 => zck σ16 9 v2 (zb2 (fX8_lot n v2 x17 x18 σ16) fun x19 σ20 => zck σ20 9 v2 (zb (fX8_thrown n v2 σ20) fun x21 => if x21 = x15 then if x15 = 0 then zaL σ20 v3 0 fun x22 => if (lg_cmp (x22.toInt64) (x19.toInt64)) = 0 then sL_law_365 n r28 v0 v1 v2 v3 v4 v5 σ20 else if 0 = 0 ∨ 0 = 1 then some (0, σ20) else none else sL_law_365 n r28 v0 v1 v2 v3 v4 v5 σ20 else if 0 = 0 ∨ 0 = 1 then some (0, σ20) else none))
def sL_law_421 (n : Nat) (r28 : Nat → Nat → Nat → Nat → Nat → Int32 → zW → Option (Int32 × zW)) (v0 : Nat) (v1 : Nat) (v2 : Nat) (v3 : Nat) (v4 : Nat) (v5 : Int32) (σ : zW) : Option (Int32 × zW) := sL_law_2620 n r28 v0 v1 v2 v3 v4 v5 σ
def sL_law_368 (n : Nat) (r28 : Nat → Nat → Nat → Nat → Nat → Int32 → zW → Option (Int32 × zW)) (v0 : Nat) (v1 : Nat) (v2 : Nat) (v3 : Nat) (v4 : Nat) (v5 : Int32) (σ : zW) : Option (Int32 × zW) := zaI σ v0 (v5 + 1) fun x23 => zb2 (fL_lots n v1 x23 v3 σ) fun x24 σ25 => zaI σ25 v0 (v5 + 1) fun x26 => zck σ25 9 v2 (zb2 (fX8_lots n v2 x26 σ25) fun x27 σ28 => zck σ28 9 v2 (zb (fX8_thrown n v2 σ28) fun x29 => if x29 = x24 then if x24 = 0 then zaL σ28 v3 0 fun x30 => if (lg_cmp (x30.toInt64) (x27.toInt64)) = 0 then sL_law_421 n r28 v0 v1 v2 v3 v4 v5 σ28 else if 0 = 0 ∨ 0 = 1 then some (0, σ28) else none else sL_law_421 n r28 v0 v1 v2 v3 v4 v5 σ28 else if 0 = 0 ∨ 0 = 1 then some (0, σ28) else none))
def sL_law_501 (n : Nat) (r28 : Nat → Nat → Nat → Nat → Nat → Int32 → zW → Option (Int32 × zW)) (v0 : Nat) (v1 : Nat) (v2 : Nat) (v3 : Nat) (v4 : Nat) (v5 : Int32) (σ : zW) : Option (Int32 × zW) := sL_law_2620 n r28 v0 v1 v2 v3 v4 v5 σ
def sL_law_424 (n : Nat) (r28 : Nat → Nat → Nat → Nat → Nat → Int32 → zW → Option (Int32 × zW)) (v0 : Nat) (v1 : Nat) (v2 : Nat) (v3 : Nat) (v4 : Nat) (v5 : Int32) (σ : zW) : Option (Int32 × zW) := zaI σ v0 (v5 + 1) fun x31 => zaI σ v0 (v5 + 2) fun x32 => zaI σ v0 (v5 + 3) fun x33 => zb2 (fL_setRows n v1 x31 x32 x33 v3 σ) fun x34 σ35 => zaI σ35 v0 (v5 + 1) fun x36 => zaI σ35 v0 (v5 + 2) fun x37 => zaI σ35 v0 (v5 + 3) fun x38 => zck σ35 9 v2 (zb2 (fX8_setRows n v2 x36 x37 x38 σ35) fun x39 σ40 => zck σ40 9 v2 (zb (fX8_thrown n v2 σ40) fun x41 => if x41 = x34 then if x34 = 0 then zaL σ40 v3 0 fun x42 => if (lg_cmp (x42.toInt64) (x39.toInt64)) = 0 then sL_law_501 n r28 v0 v1 v2 v3 v4 v5 σ40 else if 0 = 0 ∨ 0 = 1 then some (0, σ40) else none else sL_law_501 n r28 v0 v1 v2 v3 v4 v5 σ40 else if 0 = 0 ∨ 0 = 1 then some (0, σ40) else none))
def sL_law_569 (n : Nat) (r28 : Nat → Nat → Nat → Nat → Nat → Int32 → zW → Option (Int32 × zW)) (v0 : Nat) (v1 : Nat) (v2 : Nat) (v3 : Nat) (v4 : Nat) (v5 : Int32) (σ : zW) : Option (Int32 × zW) := sL_law_2620 n r28 v0 v1 v2 v3 v4 v5 σ
def sL_law_504 (n : Nat) (r28 : Nat → Nat → Nat → Nat → Nat → Int32 → zW → Option (Int32 × zW)) (v0 : Nat) (v1 : Nat) (v2 : Nat) (v3 : Nat) (v4 : Nat) (v5 : Int32) (σ : zW) : Option (Int32 × zW) := zaI σ v0 (v5 + 1) fun x43 => zaI σ v0 (v5 + 2) fun x44 => zb2 (fL_row n v1 x43 x44 v3 σ) fun x45 σ46 => zaI σ46 v0 (v5 + 1) fun x47 => zaI σ46 v0 (v5 + 2) fun x48 => zck σ46 9 v2 (zb2 (fX8_row n v2 x47 x48 σ46) fun x49 σ50 => zck σ50 9 v2 (zb (fX8_thrown n v2 σ50) fun x51 => if x51 = x45 then if x45 = 0 then zaL σ50 v3 0 fun x52 => if (lg_cmp (x52.toInt64) (x49.toInt64)) = 0 then sL_law_569 n r28 v0 v1 v2 v3 v4 v5 σ50 else if 0 = 0 ∨ 0 = 1 then some (0, σ50) else none else sL_law_569 n r28 v0 v1 v2 v3 v4 v5 σ50 else if 0 = 0 ∨ 0 = 1 then some (0, σ50) else none))
def sL_law_625 (n : Nat) (r28 : Nat → Nat → Nat → Nat → Nat → Int32 → zW → Option (Int32 × zW)) (v0 : Nat) (v1 : Nat) (v2 : Nat) (v3 : Nat) (v4 : Nat) (v5 : Int32) (σ : zW) : Option (Int32 × zW) := sL_law_2620 n r28 v0 v1 v2 v3 v4 v5 σ
def sL_law_572 (n : Nat) (r28 : Nat → Nat → Nat → Nat → Nat → Int32 → zW → Option (Int32 × zW)) (v0 : Nat) (v1 : Nat) (v2 : Nat) (v3 : Nat) (v4 : Nat) (v5 : Int32) (σ : zW) : Option (Int32 × zW) := zaI σ v0 (v5 + 1) fun x53 => zb2 (fL_step n v1 x53 v3 σ) fun x54 σ55 => zaI σ55 v0 (v5 + 1) fun x56 => zck σ55 9 v2 (zb2 (fX8_step n v2 x56 σ55) fun x57 σ58 => zck σ58 9 v2 (zb (fX8_thrown n v2 σ58) fun x59 => if x59 = x54 then if x54 = 0 then zaL σ58 v3 0 fun x60 => if (lg_cmp (x60.toInt64) (x57.toInt64)) = 0 then sL_law_625 n r28 v0 v1 v2 v3 v4 v5 σ58 else if 0 = 0 ∨ 0 = 1 then some (0, σ58) else none else sL_law_625 n r28 v0 v1 v2 v3 v4 v5 σ58 else if 0 = 0 ∨ 0 = 1 then some (0, σ58) else none))
def sL_law_681 (n : Nat) (r28 : Nat → Nat → Nat → Nat → Nat → Int32 → zW → Option (Int32 × zW)) (v0 : Nat) (v1 : Nat) (v2 : Nat) (v3 : Nat) (v4 : Nat) (v5 : Int32) (σ : zW) : Option (Int32 × zW) := sL_law_2620 n r28 v0 v1 v2 v3 v4 v5 σ
def sL_law_628 (n : Nat) (r28 : Nat → Nat → Nat → Nat → Nat → Int32 → zW → Option (Int32 × zW)) (v0 : Nat) (v1 : Nat) (v2 : Nat) (v3 : Nat) (v4 : Nat) (v5 : Int32) (σ : zW) : Option (Int32 × zW) := zaI σ v0 (v5 + 1) fun x61 => zb2 (fL_nextStep n v1 x61 v3 σ) fun x62 σ63 => zaI σ63 v0 (v5 + 1) fun x64 => zck σ63 9 v2 (zb2 (fX8_nextStep n v2 x64 σ63) fun x65 σ66 => zck σ66 9 v2 (zb (fX8_thrown n v2 σ66) fun x67 => if x67 = x62 then if x62 = 0 then zaL σ66 v3 0 fun x68 => if (lg_cmp (x68.toInt64) (x65.toInt64)) = 0 then sL_law_681 n r28 v0 v1 v2 v3 v4 v5 σ66 else if 0 = 0 ∨ 0 = 1 then some (0, σ66) else none else sL_law_681 n r28 v0 v1 v2 v3 v4 v5 σ66 else if 0 = 0 ∨ 0 = 1 then some (0, σ66) else none))
def sL_law_749 (n : Nat) (r28 : Nat → Nat → Nat → Nat → Nat → Int32 → zW → Option (Int32 × zW)) (v0 : Nat) (v1 : Nat) (v2 : Nat) (v3 : Nat) (v4 : Nat) (v5 : Int32) (σ : zW) : Option (Int32 × zW) := sL_law_2620 n r28 v0 v1 v2 v3 v4 v5 σ
def sL_law_684 (n : Nat) (r28 : Nat → Nat → Nat → Nat → Nat → Int32 → zW → Option (Int32 × zW)) (v0 : Nat) (v1 : Nat) (v2 : Nat) (v3 : Nat) (v4 : Nat) (v5 : Int32) (σ : zW) : Option (Int32 × zW) := zaI σ v0 (v5 + 1) fun x69 => zaI σ v0 (v5 + 2) fun x70 => zb2 (fL_setCredit n v1 x69 x70 v3 σ) fun x71 σ72 => zaI σ72 v0 (v5 + 1) fun x73 => zaI σ72 v0 (v5 + 2) fun x74 => zck σ72 9 v2 (zb2 (fX8_setCredit n v2 x73 x74 σ72) fun x75 σ76 => zck σ76 9 v2 (zb (fX8_thrown n v2 σ76) fun x77 => if x77 = x71 then if x71 = 0 then zaL σ76 v3 0 fun x78 => if (lg_cmp (x78.toInt64) (x75.toInt64)) = 0 then sL_law_749 n r28 v0 v1 v2 v3 v4 v5 σ76 else if 0 = 0 ∨ 0 = 1 then some (0, σ76) else none else sL_law_749 n r28 v0 v1 v2 v3 v4 v5 σ76 else if 0 = 0 ∨ 0 = 1 then some (0, σ76) else none))
def sL_law_829 (n : Nat) (r28 : Nat → Nat → Nat → Nat → Nat → Int32 → zW → Option (Int32 × zW)) (v0 : Nat) (v1 : Nat) (v2 : Nat) (v3 : Nat) (v4 : Nat) (v5 : Int32) (σ : zW) : Option (Int32 × zW) := sL_law_2620 n r28 v0 v1 v2 v3 v4 v5 σ
def sL_law_752 (n : Nat) (r28 : Nat → Nat → Nat → Nat → Nat → Int32 → zW → Option (Int32 × zW)) (v0 : Nat) (v1 : Nat) (v2 : Nat) (v3 : Nat) (v4 : Nat) (v5 : Int32) (σ : zW) : Option (Int32 × zW) := zaI σ v0 (v5 + 1) fun x79 => zaI σ v0 (v5 + 2) fun x80 => zaI σ v0 (v5 + 3) fun x81 => zb2 (fL_order n v1 x79 x80 x81 v3 σ) fun x82 σ83 => zaI σ83 v0 (v5 + 1) fun x84 => zaI σ83 v0 (v5 + 2) fun x85 => zaI σ83 v0 (v5 + 3) fun x86 => zck σ83 9 v2 (zb2 (fX8_order n v2 x84 x85 x86 σ83) fun x87 σ88 => zck σ88 9 v2 (zb (fX8_thrown n v2 σ88) fun x89 => if x89 = x82 then if x82 = 0 then zaL σ88 v3 0 fun x90 => if (lg_cmp (x90.toInt64) (x87.toInt64)) = 0 then sL_law_829 n r28 v0 v1 v2 v3 v4 v5 σ88 else if 0 = 0 ∨ 0 = 1 then some (0, σ88) else none else sL_law_829 n r28 v0 v1 v2 v3 v4 v5 σ88 else if 0 = 0 ∨ 0 = 1 then some (0, σ88) else none))
def sL_law_897 (n : Nat) (r28 : Nat → Nat → Nat → Nat → Nat → Int32 → zW → Option (Int32 × zW)) (v0 : Nat) (v1 : Nat) (v2 : Nat) (v3 : Nat) (v4 : Nat) (v5 : Int32) (σ : zW) : Option (Int32 × zW) := sL_law_2620 n r28 v0 v1 v2 v3 v4 v5 σ
def sL_law_832 (n : Nat) (r28 : Nat → Nat → Nat → Nat → Nat → Int32 → zW → Option (Int32 × zW)) (v0 : Nat) (v1 : Nat) (v2 : Nat) (v3 : Nat) (v4 : Nat) (v5 : Int32) (σ : zW) : Option (Int32 × zW) := zaI σ v0 (v5 + 1) fun x91 => zaI σ v0 (v5 + 2) fun x92 => zb2 (fL_cancel n v1 x91 x92 v3 σ) fun x93 σ94 => zaI σ94 v0 (v5 + 1) fun x95 => zaI σ94 v0 (v5 + 2) fun x96 => zck σ94 9 v2 (zb2 (fX8_cancel n v2 x95 x96 σ94) fun x97 σ98 => zck σ98 9 v2 (zb (fX8_thrown n v2 σ98) fun x99 => if x99 = x93 then if x93 = 0 then zaL σ98 v3 0 fun x100 => if (lg_cmp (x100.toInt64) (x97.toInt64)) = 0 then sL_law_897 n r28 v0 v1 v2 v3 v4 v5 σ98 else if 0 = 0 ∨ 0 = 1 then some (0, σ98) else none else sL_law_897 n r28 v0 v1 v2 v3 v4 v5 σ98 else if 0 = 0 ∨ 0 = 1 then some (0, σ98) else none))
def sL_law_965 (n : Nat) (r28 : Nat → Nat → Nat → Nat → Nat → Int32 → zW → Option (Int32 × zW)) (v0 : Nat) (v1 : Nat) (v2 : Nat) (v3 : Nat) (v4 : Nat) (v5 : Int32) (σ : zW) : Option (Int32 × zW) := sL_law_2620 n r28 v0 v1 v2 v3 v4 v5 σ
def sL_law_900 (n : Nat) (r28 : Nat → Nat → Nat → Nat → Nat → Int32 → zW → Option (Int32 × zW)) (v0 : Nat) (v1 : Nat) (v2 : Nat) (v3 : Nat) (v4 : Nat) (v5 : Int32) (σ : zW) : Option (Int32 × zW) := zaI σ v0 (v5 + 1) fun x101 => zaI σ v0 (v5 + 2) fun x102 => zb2 (fL_maximum n v1 x101 x102 v3 σ) fun x103 σ104 => zaI σ104 v0 (v5 + 1) fun x105 => zaI σ104 v0 (v5 + 2) fun x106 => zck σ104 9 v2 (zb2 (fX8_maximum n v2 x105 x106 σ104) fun x107 σ108 => zck σ108 9 v2 (zb (fX8_thrown n v2 σ108) fun x109 => if x109 = x103 then if x103 = 0 then zaL σ108 v3 0 fun x110 => if (lg_cmp (x110.toInt64) (x107.toInt64)) = 0 then sL_law_965 n r28 v0 v1 v2 v3 v4 v5 σ108 else if 0 = 0 ∨ 0 = 1 then some (0, σ108) else none else sL_law_965 n r28 v0 v1 v2 v3 v4 v5 σ108 else if 0 = 0 ∨ 0 = 1 then some (0, σ108) else none))
def sL_law_1021 (n : Nat) (r28 : Nat → Nat → Nat → Nat → Nat → Int32 → zW → Option (Int32 × zW)) (v0 : Nat) (v1 : Nat) (v2 : Nat) (v3 : Nat) (v4 : Nat) (v5 : Int32) (σ : zW) : Option (Int32 × zW) := sL_law_2620 n r28 v0 v1 v2 v3 v4 v5 σ
def sL_law_968 (n : Nat) (r28 : Nat → Nat → Nat → Nat → Nat → Int32 → zW → Option (Int32 × zW)) (v0 : Nat) (v1 : Nat) (v2 : Nat) (v3 : Nat) (v4 : Nat) (v5 : Int32) (σ : zW) : Option (Int32 × zW) := zaI σ v0 (v5 + 1) fun x111 => zb2 (fL_orders n v1 x111 v3 σ) fun x112 σ113 => zaI σ113 v0 (v5 + 1) fun x114 => zck σ113 9 v2 (zb2 (fX8_orders n v2 x114 σ113) fun x115 σ116 => zck σ116 9 v2 (zb (fX8_thrown n v2 σ116) fun x117 => if x117 = x112 then if x112 = 0 then zaL σ116 v3 0 fun x118 => if (lg_cmp (x118.toInt64) (x115.toInt64)) = 0 then sL_law_1021 n r28 v0 v1 v2 v3 v4 v5 σ116 else if 0 = 0 ∨ 0 = 1 then some (0, σ116) else none else sL_law_1021 n r28 v0 v1 v2 v3 v4 v5 σ116 else if 0 = 0 ∨ 0 = 1 then some (0, σ116) else none))
def sL_law_1077 (n : Nat) (r28 : Nat → Nat → Nat → Nat → Nat → Int32 → zW → Option (Int32 × zW)) (v0 : Nat) (v1 : Nat) (v2 : Nat) (v3 : Nat) (v4 : Nat) (v5 : Int32) (σ : zW) : Option (Int32 × zW) := sL_law_2620 n r28 v0 v1 v2 v3 v4 v5 σ
def sL_law_1024 (n : Nat) (r28 : Nat → Nat → Nat → Nat → Nat → Int32 → zW → Option (Int32 × zW)) (v0 : Nat) (v1 : Nat) (v2 : Nat) (v3 : Nat) (v4 : Nat) (v5 : Int32) (σ : zW) : Option (Int32 × zW) := zaI σ v0 (v5 + 1) fun x119 => zb2 (fL_open n v1 x119 v3 σ) fun x120 σ121 => zaI σ121 v0 (v5 + 1) fun x122 => zck σ121 9 v2 (zb2 (fX8_open n v2 x122 σ121) fun x123 σ124 => zck σ124 9 v2 (zb (fX8_thrown n v2 σ124) fun x125 => if x125 = x120 then if x120 = 0 then zaL σ124 v3 0 fun x126 => if (lg_cmp (x126.toInt64) (x123.toInt64)) = 0 then sL_law_1077 n r28 v0 v1 v2 v3 v4 v5 σ124 else if 0 = 0 ∨ 0 = 1 then some (0, σ124) else none else sL_law_1077 n r28 v0 v1 v2 v3 v4 v5 σ124 else if 0 = 0 ∨ 0 = 1 then some (0, σ124) else none))
def sL_law_1157 (n : Nat) (r28 : Nat → Nat → Nat → Nat → Nat → Int32 → zW → Option (Int32 × zW)) (v0 : Nat) (v1 : Nat) (v2 : Nat) (v3 : Nat) (v4 : Nat) (v5 : Int32) (σ : zW) : Option (Int32 × zW) := sL_law_2620 n r28 v0 v1 v2 v3 v4 v5 σ
def sL_law_1080 (n : Nat) (r28 : Nat → Nat → Nat → Nat → Nat → Int32 → zW → Option (Int32 × zW)) (v0 : Nat) (v1 : Nat) (v2 : Nat) (v3 : Nat) (v4 : Nat) (v5 : Int32) (σ : zW) : Option (Int32 × zW) := zaI σ v0 (v5 + 1) fun x127 => zaI σ v0 (v5 + 2) fun x128 => zaI σ v0 (v5 + 3) fun x129 => zb2 (fL_bid n v1 x127 x128 x129 v3 σ) fun x130 σ131 => zaI σ131 v0 (v5 + 1) fun x132 => zaI σ131 v0 (v5 + 2) fun x133 => zaI σ131 v0 (v5 + 3) fun x134 => zck σ131 9 v2 (zb2 (fX8_bid n v2 x132 x133 x134 σ131) fun x135 σ136 => zck σ136 9 v2 (zb (fX8_thrown n v2 σ136) fun x137 => if x137 = x130 then if x130 = 0 then zaL σ136 v3 0 fun x138 => if (lg_cmp (x138.toInt64) (x135.toInt64)) = 0 then sL_law_1157 n r28 v0 v1 v2 v3 v4 v5 σ136 else if 0 = 0 ∨ 0 = 1 then some (0, σ136) else none else sL_law_1157 n r28 v0 v1 v2 v3 v4 v5 σ136 else if 0 = 0 ∨ 0 = 1 then some (0, σ136) else none))
def sL_law_1201 (n : Nat) (r28 : Nat → Nat → Nat → Nat → Nat → Int32 → zW → Option (Int32 × zW)) (v0 : Nat) (v1 : Nat) (v2 : Nat) (v3 : Nat) (v4 : Nat) (v5 : Int32) (σ : zW) : Option (Int32 × zW) := sL_law_2620 n r28 v0 v1 v2 v3 v4 v5 σ
def sL_law_1160 (n : Nat) (r28 : Nat → Nat → Nat → Nat → Nat → Int32 → zW → Option (Int32 × zW)) (v0 : Nat) (v1 : Nat) (v2 : Nat) (v3 : Nat) (v4 : Nat) (v5 : Int32) (σ : zW) : Option (Int32 × zW) := zb2 (fL_refusal n v1 v3 σ) fun x139 σ140 => zck σ140 9 v2 (zb2 (fX8_refusal n v2 σ140) fun x141 σ142 => zck σ142 9 v2 (zb (fX8_thrown n v2 σ142) fun x143 => if x143 = x139 then if x139 = 0 then zaL σ142 v3 0 fun x144 => if (lg_cmp (x144.toInt64) (x141.toInt64)) = 0 then sL_law_1201 n r28 v0 v1 v2 v3 v4 v5 σ142 else if 0 = 0 ∨ 0 = 1 then some (0, σ142) else none else sL_law_1201 n r28 v0 v1 v2 v3 v4 v5 σ142 else if 0 = 0 ∨ 0 = 1 then some (0, σ142) else none))
def sL_law_1309 (n : Nat) (r28 : Nat → Nat → Nat → Nat → Nat → Int32 → zW → Option (Int32 × zW)) (v0 : Nat) (v1 : Nat) (v2 : Nat) (v3 : Nat) (v4 : Nat) (v5 : Int32) (σ : zW) : Option (Int32 × zW) := sL_law_2620 n r28 v0 v1 v2 v3 v4 v5 σ
def sL_law_1258 (n : Nat) (r28 : Nat → Nat → Nat → Nat → Nat → Int32 → zW → Option (Int32 × zW)) (v0 : Nat) (v1 : Nat) (v2 : Nat) (v3 : Nat) (v4 : Nat) (v5 : Int32) (v6 : Int32) (y0 : Nat) (y1 : Int32) (σ : zW) : Option (Int32 × zW) := zaI σ v0 (v5 + 2) fun x145 => zaI σ v0 (v5 + 3) fun x146 => zaI σ v0 (v5 + 4) fun x147 => zck σ 9 y0 (zb2 (fX8_wouldRefuse n y0 y1 x145 x146 x147 σ) fun x148 σ149 => zck σ149 9 v2 (zb (fX8_thrown n v2 σ149) fun x150 => if x150 = v6 then if v6 = 0 then zaL σ149 v3 0 fun x151 => if (lg_cmp (x151.toInt64) (x148.toInt64)) = 0 then sL_law_1309 n r28 v0 v1 v2 v3 v4 v5 σ149 else if 0 = 0 ∨ 0 = 1 then some (0, σ149) else none else sL_law_1309 n r28 v0 v1 v2 v3 v4 v5 σ149 else if 0 = 0 ∨ 0 = 1 then some (0, σ149) else none))
def sL_law_1219 (n : Nat) (r28 : Nat → Nat → Nat → Nat → Nat → Int32 → zW → Option (Int32 × zW)) (v0 : Nat) (v1 : Nat) (v2 : Nat) (v3 : Nat) (v4 : Nat) (v5 : Int32) (y0 : Nat) (y1 : Int32) (σ : zW) : Option (Int32 × zW) := zaI σ v0 (v5 + 2) fun x152 => zaI σ v0 (v5 + 3) fun x153 => zaI σ v0 (v5 + 4) fun x154 => zb2 (fL_wouldRefuse n y0 y1 x152 x153 x154 v3 σ) fun x155 σ156 => zaI σ156 v0 (v5 + 1) fun x157 => if x157 = 0 then sL_law_1258 n r28 v0 v1 v2 v3 v4 v5 x155 v2 0 σ156 else sL_law_1258 n r28 v0 v1 v2 v3 v4 v5 x155 v2 1 σ156
def sL_law_1204 (n : Nat) (r28 : Nat → Nat → Nat → Nat → Nat → Int32 → zW → Option (Int32 × zW)) (v0 : Nat) (v1 : Nat) (v2 : Nat) (v3 : Nat) (v4 : Nat) (v5 : Int32) (σ : zW) : Option (Int32 × zW) := zaI σ v0 (v5 + 1) fun x158 => if x158 = 0 then sL_law_1219 n r28 v0 v1 v2 v3 v4 v5 v1 0 σ else sL_law_1219 n r28 v0 v1 v2 v3 v4 v5 v1 1 σ
def sL_law_1377 (n : Nat) (r28 : Nat → Nat → Nat → Nat → Nat → Int32 → zW → Option (Int32 × zW)) (v0 : Nat) (v1 : Nat) (v2 : Nat) (v3 : Nat) (v4 : Nat) (v5 : Int32) (σ : zW) : Option (Int32 × zW) := sL_law_2620 n r28 v0 v1 v2 v3 v4 v5 σ
def sL_law_1312 (n : Nat) (r28 : Nat → Nat → Nat → Nat → Nat → Int32 → zW → Option (Int32 × zW)) (v0 : Nat) (v1 : Nat) (v2 : Nat) (v3 : Nat) (v4 : Nat) (v5 : Int32) (σ : zW) : Option (Int32 × zW) := zaI σ v0 (v5 + 1) fun x159 => zaI σ v0 (v5 + 2) fun x160 => zb2 (fL_standing n v1 x159 x160 v3 σ) fun x161 σ162 => zaI σ162 v0 (v5 + 1) fun x163 => zaI σ162 v0 (v5 + 2) fun x164 => zck σ162 9 v2 (zb2 (fX8_standing n v2 x163 x164 σ162) fun x165 σ166 => zck σ166 9 v2 (zb (fX8_thrown n v2 σ166) fun x167 => if x167 = x161 then if x161 = 0 then zaL σ166 v3 0 fun x168 => if (lg_cmp (x168.toInt64) (x165.toInt64)) = 0 then sL_law_1377 n r28 v0 v1 v2 v3 v4 v5 σ166 else if 0 = 0 ∨ 0 = 1 then some (0, σ166) else none else sL_law_1377 n r28 v0 v1 v2 v3 v4 v5 σ166 else if 0 = 0 ∨ 0 = 1 then some (0, σ166) else none))
def sL_law_1457 (n : Nat) (r28 : Nat → Nat → Nat → Nat → Nat → Int32 → zW → Option (Int32 × zW)) (v0 : Nat) (v1 : Nat) (v2 : Nat) (v3 : Nat) (v4 : Nat) (v5 : Int32) (σ : zW) : Option (Int32 × zW) := sL_law_2620 n r28 v0 v1 v2 v3 v4 v5 σ
def sL_law_1380 (n : Nat) (r28 : Nat → Nat → Nat → Nat → Nat → Int32 → zW → Option (Int32 × zW)) (v0 : Nat) (v1 : Nat) (v2 : Nat) (v3 : Nat) (v4 : Nat) (v5 : Int32) (σ : zW) : Option (Int32 × zW) := zaI σ v0 (v5 + 1) fun x169 => zaI σ v0 (v5 + 2) fun x170 => zaI σ v0 (v5 + 3) fun x171 => zb2 (fL_limit n v1 x169 x170 x171 v3 σ) fun x172 σ173 => zaI σ173 v0 (v5 + 1) fun x174 => zaI σ173 v0 (v5 + 2) fun x175 => zaI σ173 v0 (v5 + 3) fun x176 => zck σ173 9 v2 (zb2 (fX8_limit n v2 x174 x175 x176 σ173) fun x177 σ178 => zck σ178 9 v2 (zb (fX8_thrown n v2 σ178) fun x179 => if x179 = x172 then if x172 = 0 then zaL σ178 v3 0 fun x180 => if (lg_cmp (x180.toInt64) (x177.toInt64)) = 0 then sL_law_1457 n r28 v0 v1 v2 v3 v4 v5 σ178 else if 0 = 0 ∨ 0 = 1 then some (0, σ178) else none else sL_law_1457 n r28 v0 v1 v2 v3 v4 v5 σ178 else if 0 = 0 ∨ 0 = 1 then some (0, σ178) else none))
def sL_law_1537 (n : Nat) (r28 : Nat → Nat → Nat → Nat → Nat → Int32 → zW → Option (Int32 × zW)) (v0 : Nat) (v1 : Nat) (v2 : Nat) (v3 : Nat) (v4 : Nat) (v5 : Int32) (σ : zW) : Option (Int32 × zW) := sL_law_2620 n r28 v0 v1 v2 v3 v4 v5 σ
def sL_law_1460 (n : Nat) (r28 : Nat → Nat → Nat → Nat → Nat → Int32 → zW → Option (Int32 × zW)) (v0 : Nat) (v1 : Nat) (v2 : Nat) (v3 : Nat) (v4 : Nat) (v5 : Int32) (σ : zW) : Option (Int32 × zW) := zaI σ v0 (v5 + 1) fun x181 => zaI σ v0 (v5 + 2) fun x182 => zaI σ v0 (v5 + 3) fun x183 => zb2 (fL_priceIf n v1 x181 x182 x183 v3 σ) fun x184 σ185 => zaI σ185 v0 (v5 + 1) fun x186 => zaI σ185 v0 (v5 + 2) fun x187 => zaI σ185 v0 (v5 + 3) fun x188 => zck σ185 9 v2 (zb2 (fX8_priceIf n v2 x186 x187 x188 σ185) fun x189 σ190 => zck σ190 9 v2 (zb (fX8_thrown n v2 σ190) fun x191 => if x191 = x184 then if x184 = 0 then zaL σ190 v3 0 fun x192 => if (lg_cmp (x192.toInt64) (x189.toInt64)) = 0 then sL_law_1537 n r28 v0 v1 v2 v3 v4 v5 σ190 else if 0 = 0 ∨ 0 = 1 then some (0, σ190) else none else sL_law_1537 n r28 v0 v1 v2 v3 v4 v5 σ190 else if 0 = 0 ∨ 0 = 1 then some (0, σ190) else none))
def sL_law_1593 (n : Nat) (r28 : Nat → Nat → Nat → Nat → Nat → Int32 → zW → Option (Int32 × zW)) (v0 : Nat) (v1 : Nat) (v2 : Nat) (v3 : Nat) (v4 : Nat) (v5 : Int32) (σ : zW) : Option (Int32 × zW) := sL_law_2620 n r28 v0 v1 v2 v3 v4 v5 σ
def sL_law_1540 (n : Nat) (r28 : Nat → Nat → Nat → Nat → Nat → Int32 → zW → Option (Int32 × zW)) (v0 : Nat) (v1 : Nat) (v2 : Nat) (v3 : Nat) (v4 : Nat) (v5 : Int32) (σ : zW) : Option (Int32 × zW) := zaI σ v0 (v5 + 1) fun x193 => zb2 (fL_close n v1 x193 v3 σ) fun x194 σ195 => zaI σ195 v0 (v5 + 1) fun x196 => zck σ195 9 v2 (zb2 (fX8_close n v2 x196 σ195) fun x197 σ198 => zck σ198 9 v2 (zb (fX8_thrown n v2 σ198) fun x199 => if x199 = x194 then if x194 = 0 then zaL σ198 v3 0 fun x200 => if (lg_cmp (x200.toInt64) (x197.toInt64)) = 0 then sL_law_1593 n r28 v0 v1 v2 v3 v4 v5 σ198 else if 0 = 0 ∨ 0 = 1 then some (0, σ198) else none else sL_law_1593 n r28 v0 v1 v2 v3 v4 v5 σ198 else if 0 = 0 ∨ 0 = 1 then some (0, σ198) else none))
def sL_law_1649 (n : Nat) (r28 : Nat → Nat → Nat → Nat → Nat → Int32 → zW → Option (Int32 × zW)) (v0 : Nat) (v1 : Nat) (v2 : Nat) (v3 : Nat) (v4 : Nat) (v5 : Int32) (σ : zW) : Option (Int32 × zW) := sL_law_2620 n r28 v0 v1 v2 v3 v4 v5 σ
def sL_law_1596 (n : Nat) (r28 : Nat → Nat → Nat → Nat → Nat → Int32 → zW → Option (Int32 × zW)) (v0 : Nat) (v1 : Nat) (v2 : Nat) (v3 : Nat) (v4 : Nat) (v5 : Int32) (σ : zW) : Option (Int32 × zW) := zaI σ v0 (v5 + 1) fun x201 => zb2 (fL_withdraw n v1 x201 v3 σ) fun x202 σ203 => zaI σ203 v0 (v5 + 1) fun x204 => zck σ203 9 v2 (zb2 (fX8_withdraw n v2 x204 σ203) fun x205 σ206 => zck σ206 9 v2 (zb (fX8_thrown n v2 σ206) fun x207 => if x207 = x202 then if x202 = 0 then zaL σ206 v3 0 fun x208 => if (lg_cmp (x208.toInt64) (x205.toInt64)) = 0 then sL_law_1649 n r28 v0 v1 v2 v3 v4 v5 σ206 else if 0 = 0 ∨ 0 = 1 then some (0, σ206) else none else sL_law_1649 n r28 v0 v1 v2 v3 v4 v5 σ206 else if 0 = 0 ∨ 0 = 1 then some (0, σ206) else none))
def sL_law_1717 (n : Nat) (r28 : Nat → Nat → Nat → Nat → Nat → Int32 → zW → Option (Int32 × zW)) (v0 : Nat) (v1 : Nat) (v2 : Nat) (v3 : Nat) (v4 : Nat) (v5 : Int32) (σ : zW) : Option (Int32 × zW) := sL_law_2620 n r28 v0 v1 v2 v3 v4 v5 σ
def sL_law_1652 (n : Nat) (r28 : Nat → Nat → Nat → Nat → Nat → Int32 → zW → Option (Int32 × zW)) (v0 : Nat) (v1 : Nat) (v2 : Nat) (v3 : Nat) (v4 : Nat) (v5 : Int32) (σ : zW) : Option (Int32 × zW) := zaI σ v0 (v5 + 1) fun x209 => zaI σ v0 (v5 + 2) fun x210 => zb2 (fL_offer n v1 x209 x210 v3 σ) fun x211 σ212 => zaI σ212 v0 (v5 + 1) fun x213 => zaI σ212 v0 (v5 + 2) fun x214 => zck σ212 9 v2 (zb2 (fX8_offer n v2 x213 x214 σ212) fun x215 σ216 => zck σ216 9 v2 (zb (fX8_thrown n v2 σ216) fun x217 => if x217 = x211 then if x211 = 0 then zaL σ216 v3 0 fun x218 => if (lg_cmp (x218.toInt64) (x215.toInt64)) = 0 then sL_law_1717 n r28 v0 v1 v2 v3 v4 v5 σ216 else if 0 = 0 ∨ 0 = 1 then some (0, σ216) else none else sL_law_1717 n r28 v0 v1 v2 v3 v4 v5 σ216 else if 0 = 0 ∨ 0 = 1 then some (0, σ216) else none))
def sL_law_1785 (n : Nat) (r28 : Nat → Nat → Nat → Nat → Nat → Int32 → zW → Option (Int32 × zW)) (v0 : Nat) (v1 : Nat) (v2 : Nat) (v3 : Nat) (v4 : Nat) (v5 : Int32) (σ : zW) : Option (Int32 × zW) := sL_law_2620 n r28 v0 v1 v2 v3 v4 v5 σ
def sL_law_1720 (n : Nat) (r28 : Nat → Nat → Nat → Nat → Nat → Int32 → zW → Option (Int32 × zW)) (v0 : Nat) (v1 : Nat) (v2 : Nat) (v3 : Nat) (v4 : Nat) (v5 : Int32) (σ : zW) : Option (Int32 × zW) := zaI σ v0 (v5 + 1) fun x219 => zaI σ v0 (v5 + 2) fun x220 => zb2 (fL_split n v1 x219 x220 v3 σ) fun x221 σ222 => zaI σ222 v0 (v5 + 1) fun x223 => zaI σ222 v0 (v5 + 2) fun x224 => zck σ222 9 v2 (zb2 (fX8_split n v2 x223 x224 σ222) fun x225 σ226 => zck σ226 9 v2 (zb (fX8_thrown n v2 σ226) fun x227 => if x227 = x221 then if x221 = 0 then zaL σ226 v3 0 fun x228 => if (lg_cmp (x228.toInt64) (x225.toInt64)) = 0 then sL_law_1785 n r28 v0 v1 v2 v3 v4 v5 σ226 else if 0 = 0 ∨ 0 = 1 then some (0, σ226) else none else sL_law_1785 n r28 v0 v1 v2 v3 v4 v5 σ226 else if 0 = 0 ∨ 0 = 1 then some (0, σ226) else none))
def sL_law_1853 (n : Nat) (r28 : Nat → Nat → Nat → Nat → Nat → Int32 → zW → Option (Int32 × zW)) (v0 : Nat) (v1 : Nat) (v2 : Nat) (v3 : Nat) (v4 : Nat) (v5 : Int32) (σ : zW) : Option (Int32 × zW) := sL_law_2620 n r28 v0 v1 v2 v3 v4 v5 σ
def sL_law_1788 (n : Nat) (r28 : Nat → Nat → Nat → Nat → Nat → Int32 → zW → Option (Int32 × zW)) (v0 : Nat) (v1 : Nat) (v2 : Nat) (v3 : Nat) (v4 : Nat) (v5 : Int32) (σ : zW) : Option (Int32 × zW) := zaI σ v0 (v5 + 1) fun x229 => zaI σ v0 (v5 + 2) fun x230 => zb2 (fL_group n v1 x229 x230 v3 σ) fun x231 σ232 => zaI σ232 v0 (v5 + 1) fun x233 => zaI σ232 v0 (v5 + 2) fun x234 => zck σ232 9 v2 (zb2 (fX8_group n v2 x233 x234 σ232) fun x235 σ236 => zck σ236 9 v2 (zb (fX8_thrown n v2 σ236) fun x237 => if x237 = x231 then if x231 = 0 then zaL σ236 v3 0 fun x238 => if (lg_cmp (x238.toInt64) (x235.toInt64)) = 0 then sL_law_1853 n r28 v0 v1 v2 v3 v4 v5 σ236 else if 0 = 0 ∨ 0 = 1 then some (0, σ236) else none else sL_law_1853 n r28 v0 v1 v2 v3 v4 v5 σ236 else if 0 = 0 ∨ 0 = 1 then some (0, σ236) else none))
def sL_law_1909 (n : Nat) (r28 : Nat → Nat → Nat → Nat → Nat → Int32 → zW → Option (Int32 × zW)) (v0 : Nat) (v1 : Nat) (v2 : Nat) (v3 : Nat) (v4 : Nat) (v5 : Int32) (σ : zW) : Option (Int32 × zW) := sL_law_2620 n r28 v0 v1 v2 v3 v4 v5 σ
def sL_law_1856 (n : Nat) (r28 : Nat → Nat → Nat → Nat → Nat → Int32 → zW → Option (Int32 × zW)) (v0 : Nat) (v1 : Nat) (v2 : Nat) (v3 : Nat) (v4 : Nat) (v5 : Int32) (σ : zW) : Option (Int32 × zW) := zaI σ v0 (v5 + 1) fun x239 => zb2 (fL_why n v1 x239 v3 σ) fun x240 σ241 => zaI σ241 v0 (v5 + 1) fun x242 => zck σ241 9 v2 (zb2 (fX8_why n v2 x242 σ241) fun x243 σ244 => zck σ244 9 v2 (zb (fX8_thrown n v2 σ244) fun x245 => if x245 = x240 then if x240 = 0 then zaL σ244 v3 0 fun x246 => if (lg_cmp (x246.toInt64) (x243.toInt64)) = 0 then sL_law_1909 n r28 v0 v1 v2 v3 v4 v5 σ244 else if 0 = 0 ∨ 0 = 1 then some (0, σ244) else none else sL_law_1909 n r28 v0 v1 v2 v3 v4 v5 σ244 else if 0 = 0 ∨ 0 = 1 then some (0, σ244) else none))
def sL_law_1993 (n : Nat) (r28 : Nat → Nat → Nat → Nat → Nat → Int32 → zW → Option (Int32 × zW)) (v0 : Nat) (v1 : Nat) (v2 : Nat) (v3 : Nat) (v4 : Nat) (v5 : Int32) (σ : zW) : Option (Int32 × zW) := sL_law_2620 n r28 v0 v1 v2 v3 v4 v5 σ
def sL_law_1960 (n : Nat) (r28 : Nat → Nat → Nat → Nat → Nat → Int32 → zW → Option (Int32 × zW)) (v0 : Nat) (v1 : Nat) (v2 : Nat) (v3 : Nat) (v4 : Nat) (v5 : Int32) (v6 : Int32) (y0 : Nat) (y1 : Int32) (y2 : Int32) (σ : zW) : Option (Int32 × zW) := zck σ 9 y0 (zb2 (fX8_sold n y0 y1 y2 σ) fun x247 σ248 => zck σ248 9 v2 (zb (fX8_thrown n v2 σ248) fun x249 => if x249 = v6 then if v6 = 0 then zaL σ248 v3 0 fun x250 => if (lg_cmp (x250.toInt64) (x247.toInt64)) = 0 then sL_law_1993 n r28 v0 v1 v2 v3 v4 v5 σ248 else if 0 = 0 ∨ 0 = 1 then some (0, σ248) else none else sL_law_1993 n r28 v0 v1 v2 v3 v4 v5 σ248 else if 0 = 0 ∨ 0 = 1 then some (0, σ248) else none))
def sL_law_1933 (n : Nat) (r28 : Nat → Nat → Nat → Nat → Nat → Int32 → zW → Option (Int32 × zW)) (v0 : Nat) (v1 : Nat) (v2 : Nat) (v3 : Nat) (v4 : Nat) (v5 : Int32) (y0 : Nat) (y1 : Int32) (y2 : Int32) (σ : zW) : Option (Int32 × zW) := zb2 (fL_sold n y0 y1 y2 v3 σ) fun x251 σ252 => zaI σ252 v0 (v5 + 1) fun x253 => zaI σ252 v0 (v5 + 2) fun x254 => if x254 = 0 then sL_law_1960 n r28 v0 v1 v2 v3 v4 v5 x251 v2 x253 0 σ252 else sL_law_1960 n r28 v0 v1 v2 v3 v4 v5 x251 v2 x253 1 σ252
def sL_law_1912 (n : Nat) (r28 : Nat → Nat → Nat → Nat → Nat → Int32 → zW → Option (Int32 × zW)) (v0 : Nat) (v1 : Nat) (v2 : Nat) (v3 : Nat) (v4 : Nat) (v5 : Int32) (σ : zW) : Option (Int32 × zW) := zaI σ v0 (v5 + 1) fun x255 => zaI σ v0 (v5 + 2) fun x256 => if x256 = 0 then sL_law_1933 n r28 v0 v1 v2 v3 v4 v5 v1 x255 0 σ else sL_law_1933 n r28 v0 v1 v2 v3 v4 v5 v1 x255 1 σ
def sL_law_2049 (n : Nat) (r28 : Nat → Nat → Nat → Nat → Nat → Int32 → zW → Option (Int32 × zW)) (v0 : Nat) (v1 : Nat) (v2 : Nat) (v3 : Nat) (v4 : Nat) (v5 : Int32) (σ : zW) : Option (Int32 × zW) := sL_law_2620 n r28 v0 v1 v2 v3 v4 v5 σ
def sL_law_1996 (n : Nat) (r28 : Nat → Nat → Nat → Nat → Nat → Int32 → zW → Option (Int32 × zW)) (v0 : Nat) (v1 : Nat) (v2 : Nat) (v3 : Nat) (v4 : Nat) (v5 : Int32) (σ : zW) : Option (Int32 × zW) := zaI σ v0 (v5 + 1) fun x257 => zb2 (fL_premium n v1 x257 v3 σ) fun x258 σ259 => zaI σ259 v0 (v5 + 1) fun x260 => zck σ259 9 v2 (zb2 (fX8_premium n v2 x260 σ259) fun x261 σ262 => zck σ262 9 v2 (zb (fX8_thrown n v2 σ262) fun x263 => if x263 = x258 then if x258 = 0 then zaL σ262 v3 0 fun x264 => if (lg_cmp (x264.toInt64) (x261.toInt64)) = 0 then sL_law_2049 n r28 v0 v1 v2 v3 v4 v5 σ262 else if 0 = 0 ∨ 0 = 1 then some (0, σ262) else none else sL_law_2049 n r28 v0 v1 v2 v3 v4 v5 σ262 else if 0 = 0 ∨ 0 = 1 then some (0, σ262) else none))
def sL_law_2117 (n : Nat) (r28 : Nat → Nat → Nat → Nat → Nat → Int32 → zW → Option (Int32 × zW)) (v0 : Nat) (v1 : Nat) (v2 : Nat) (v3 : Nat) (v4 : Nat) (v5 : Int32) (σ : zW) : Option (Int32 × zW) := sL_law_2620 n r28 v0 v1 v2 v3 v4 v5 σ
def sL_law_2052 (n : Nat) (r28 : Nat → Nat → Nat → Nat → Nat → Int32 → zW → Option (Int32 × zW)) (v0 : Nat) (v1 : Nat) (v2 : Nat) (v3 : Nat) (v4 : Nat) (v5 : Int32) (σ : zW) : Option (Int32 × zW) := zaI σ v0 (v5 + 1) fun x265 => zaI σ v0 (v5 + 2) fun x266 => zb2 (fL_bidder n v1 x265 x266 v3 σ) fun x267 σ268 => zaI σ268 v0 (v5 + 1) fun x269 => zaI σ268 v0 (v5 + 2) fun x270 => zck σ268 9 v2 (zb2 (fX8_bidder n v2 x269 x270 σ268) fun x271 σ272 => zck σ272 9 v2 (zb (fX8_thrown n v2 σ272) fun x273 => if x273 = x267 then if x267 = 0 then zaL σ272 v3 0 fun x274 => if (lg_cmp (x274.toInt64) (x271.toInt64)) = 0 then sL_law_2117 n r28 v0 v1 v2 v3 v4 v5 σ272 else if 0 = 0 ∨ 0 = 1 then some (0, σ272) else none else sL_law_2117 n r28 v0 v1 v2 v3 v4 v5 σ272 else if 0 = 0 ∨ 0 = 1 then some (0, σ272) else none))
def sL_law_2185 (n : Nat) (r28 : Nat → Nat → Nat → Nat → Nat → Int32 → zW → Option (Int32 × zW)) (v0 : Nat) (v1 : Nat) (v2 : Nat) (v3 : Nat) (v4 : Nat) (v5 : Int32) (σ : zW) : Option (Int32 × zW) := sL_law_2620 n r28 v0 v1 v2 v3 v4 v5 σ
def sL_law_2120 (n : Nat) (r28 : Nat → Nat → Nat → Nat → Nat → Int32 → zW → Option (Int32 × zW)) (v0 : Nat) (v1 : Nat) (v2 : Nat) (v3 : Nat) (v4 : Nat) (v5 : Int32) (σ : zW) : Option (Int32 × zW) := zaI σ v0 (v5 + 1) fun x275 => zaI σ v0 (v5 + 2) fun x276 => zb2 (fL_seller n v1 x275 x276 v3 σ) fun x277 σ278 => zaI σ278 v0 (v5 + 1) fun x279 => zaI σ278 v0 (v5 + 2) fun x280 => zck σ278 9 v2 (zb2 (fX8_seller n v2 x279 x280 σ278) fun x281 σ282 => zck σ282 9 v2 (zb (fX8_thrown n v2 σ282) fun x283 => if x283 = x277 then if x277 = 0 then zaL σ282 v3 0 fun x284 => if (lg_cmp (x284.toInt64) (x281.toInt64)) = 0 then sL_law_2185 n r28 v0 v1 v2 v3 v4 v5 σ282 else if 0 = 0 ∨ 0 = 1 then some (0, σ282) else none else sL_law_2185 n r28 v0 v1 v2 v3 v4 v5 σ282 else if 0 = 0 ∨ 0 = 1 then some (0, σ282) else none))
def sL_law_2241 (n : Nat) (r28 : Nat → Nat → Nat → Nat → Nat → Int32 → zW → Option (Int32 × zW)) (v0 : Nat) (v1 : Nat) (v2 : Nat) (v3 : Nat) (v4 : Nat) (v5 : Int32) (σ : zW) : Option (Int32 × zW) := sL_law_2620 n r28 v0 v1 v2 v3 v4 v5 σ
def sL_law_2188 (n : Nat) (r28 : Nat → Nat → Nat → Nat → Nat → Int32 → zW → Option (Int32 × zW)) (v0 : Nat) (v1 : Nat) (v2 : Nat) (v3 : Nat) (v4 : Nat) (v5 : Int32) (σ : zW) : Option (Int32 × zW) := zaI σ v0 (v5 + 1) fun x285 => zb2 (fL_house n v1 x285 v3 σ) fun x286 σ287 => zaI σ287 v0 (v5 + 1) fun x288 => zck σ287 9 v2 (zb2 (fX8_house n v2 x288 σ287) fun x289 σ290 => zck σ290 9 v2 (zb (fX8_thrown n v2 σ290) fun x291 => if x291 = x286 then if x286 = 0 then zaL σ290 v3 0 fun x292 => if (lg_cmp (x292.toInt64) (x289.toInt64)) = 0 then sL_law_2241 n r28 v0 v1 v2 v3 v4 v5 σ290 else if 0 = 0 ∨ 0 = 1 then some (0, σ290) else none else sL_law_2241 n r28 v0 v1 v2 v3 v4 v5 σ290 else if 0 = 0 ∨ 0 = 1 then some (0, σ290) else none))
def sL_law_2304 (n : Nat) (σ : zW) : Option (Int32 × zW) := if 0 = 0 ∨ 0 = 1 then some (0, σ) else none
def sL_law_2306 (n : Nat) (r28 : Nat → Nat → Nat → Nat → Nat → Int32 → zW → Option (Int32 × zW)) (v0 : Nat) (v1 : Nat) (v2 : Nat) (v3 : Nat) (v4 : Nat) (v5 : Int32) (σ : zW) : Option (Int32 × zW) := sL_law_2620 n r28 v0 v1 v2 v3 v4 v5 σ
def sL_law_2244 (n : Nat) (r28 : Nat → Nat → Nat → Nat → Nat → Int32 → zW → Option (Int32 × zW)) (v0 : Nat) (v1 : Nat) (v2 : Nat) (v3 : Nat) (v4 : Nat) (v5 : Int32) (σ : zW) : Option (Int32 × zW) := zb2 (fL_soldShare n v1 v4 σ) fun x293 σ294 => zck σ294 9 v2 (zb2 (fX8_soldShare n v2 σ294) fun x295 σ296 => zck σ296 9 v2 (zb (fX8_thrown n v2 σ296) fun x297 => if x297 = x293 then if x293 = 0 then zaD σ296 v4 0 fun x298 => if (Op.cmpValue (FP.dcmp x298 x295) .l) = 0 then sL_law_2306 n r28 v0 v1 v2 v3 v4 v5 σ296 else zaD σ296 v4 0 fun x299 => zaD σ296 v4 0 fun x300 => if (Op.cmpValue (FP.dcmp x299 x300) .l) = 0 then sL_law_2304 n σ296 else if (Op.cmpValue (FP.dcmp x295 x295) .l) = 0 then sL_law_2304 n σ296 else sL_law_2306 n r28 v0 v1 v2 v3 v4 v5 σ296 else sL_law_2306 n r28 v0 v1 v2 v3 v4 v5 σ296 else if 0 = 0 ∨ 0 = 1 then some (0, σ296) else none))
def sL_law_2362 (n : Nat) (r28 : Nat → Nat → Nat → Nat → Nat → Int32 → zW → Option (Int32 × zW)) (v0 : Nat) (v1 : Nat) (v2 : Nat) (v3 : Nat) (v4 : Nat) (v5 : Int32) (σ : zW) : Option (Int32 × zW) := sL_law_2620 n r28 v0 v1 v2 v3 v4 v5 σ
def sL_law_2309 (n : Nat) (r28 : Nat → Nat → Nat → Nat → Nat → Int32 → zW → Option (Int32 × zW)) (v0 : Nat) (v1 : Nat) (v2 : Nat) (v3 : Nat) (v4 : Nat) (v5 : Int32) (σ : zW) : Option (Int32 × zW) := zaI σ v0 (v5 + 1) fun x301 => zb2 (fL_events n v1 x301 v3 σ) fun x302 σ303 => zaI σ303 v0 (v5 + 1) fun x304 => zck σ303 9 v2 (zb2 (fX8_events n v2 x304 σ303) fun x305 σ306 => zck σ306 9 v2 (zb (fX8_thrown n v2 σ306) fun x307 => if x307 = x302 then if x302 = 0 then zaL σ306 v3 0 fun x308 => if (lg_cmp (x308.toInt64) (x305.toInt64)) = 0 then sL_law_2362 n r28 v0 v1 v2 v3 v4 v5 σ306 else if 0 = 0 ∨ 0 = 1 then some (0, σ306) else none else sL_law_2362 n r28 v0 v1 v2 v3 v4 v5 σ306 else if 0 = 0 ∨ 0 = 1 then some (0, σ306) else none))
def sL_law_2430 (n : Nat) (r28 : Nat → Nat → Nat → Nat → Nat → Int32 → zW → Option (Int32 × zW)) (v0 : Nat) (v1 : Nat) (v2 : Nat) (v3 : Nat) (v4 : Nat) (v5 : Int32) (σ : zW) : Option (Int32 × zW) := sL_law_2620 n r28 v0 v1 v2 v3 v4 v5 σ
def sL_law_2365 (n : Nat) (r28 : Nat → Nat → Nat → Nat → Nat → Int32 → zW → Option (Int32 × zW)) (v0 : Nat) (v1 : Nat) (v2 : Nat) (v3 : Nat) (v4 : Nat) (v5 : Int32) (σ : zW) : Option (Int32 × zW) := zaI σ v0 (v5 + 1) fun x309 => zaI σ v0 (v5 + 2) fun x310 => zb2 (fL_event n v1 x309 x310 v3 σ) fun x311 σ312 => zaI σ312 v0 (v5 + 1) fun x313 => zaI σ312 v0 (v5 + 2) fun x314 => zck σ312 9 v2 (zb2 (fX8_event n v2 x313 x314 σ312) fun x315 σ316 => zck σ316 9 v2 (zb (fX8_thrown n v2 σ316) fun x317 => if x317 = x311 then if x311 = 0 then zaL σ316 v3 0 fun x318 => if (lg_cmp (x318.toInt64) (x315.toInt64)) = 0 then sL_law_2430 n r28 v0 v1 v2 v3 v4 v5 σ316 else if 0 = 0 ∨ 0 = 1 then some (0, σ316) else none else sL_law_2430 n r28 v0 v1 v2 v3 v4 v5 σ316 else if 0 = 0 ∨ 0 = 1 then some (0, σ316) else none))
def sL_law_2433 (n : Nat) (r28 : Nat → Nat → Nat → Nat → Nat → Int32 → zW → Option (Int32 × zW)) (v0 : Nat) (v1 : Nat) (v2 : Nat) (v3 : Nat) (v4 : Nat) (v5 : Int32) (σ : zW) : Option (Int32 × zW) := zck σ 8 v1 (zb (fX7_audit n v1 σ) fun x319 => zck σ 9 v2 (zb2 (fX8_audit n v2 σ) fun x320 σ321 => if x319 = x320 then sL_law_2620 n r28 v0 v1 v2 v3 v4 v5 σ321 else if 0 = 0 ∨ 0 = 1 then some (0, σ321) else none))
def sL_law_2446 (n : Nat) (r28 : Nat → Nat → Nat → Nat → Nat → Int32 → zW → Option (Int32 × zW)) (v0 : Nat) (v1 : Nat) (v2 : Nat) (v3 : Nat) (v4 : Nat) (v5 : Int32) (σ : zW) : Option (Int32 × zW) := zaI σ v0 (v5 + 1) fun x322 => zb2 (fL_append n v1 ((x322.toUInt32 % 65536).toInt32) σ) fun x323 σ324 => zaI σ324 v0 (v5 + 1) fun x325 => zck σ324 9 v2 (zb (fX8_append n v2 ((x325.toUInt32 % 65536).toInt32) σ324) fun σ326 => zck σ326 9 v2 (zb (fX8_thrown n v2 σ326) fun x327 => if x327 = x323 then sL_law_2620 n r28 v0 v1 v2 v3 v4 v5 σ326 else if 0 = 0 ∨ 0 = 1 then some (0, σ326) else none))
def sL_law_2525 (n : Nat) (r28 : Nat → Nat → Nat → Nat → Nat → Int32 → zW → Option (Int32 × zW)) (v0 : Nat) (v1 : Nat) (v2 : Nat) (v3 : Nat) (v4 : Nat) (v5 : Int32) (σ : zW) : Option (Int32 × zW) := sL_law_2620 n r28 v0 v1 v2 v3 v4 v5 σ
def sL_law_2484 (n : Nat) (r28 : Nat → Nat → Nat → Nat → Nat → Int32 → zW → Option (Int32 × zW)) (v0 : Nat) (v1 : Nat) (v2 : Nat) (v3 : Nat) (v4 : Nat) (v5 : Int32) (σ : zW) : Option (Int32 × zW) := zb2 (fL_read n v1 v3 σ) fun x328 σ329 => zck σ329 9 v2 (zb2 (fX8_read n v2 σ329) fun x330 σ331 => zck σ331 9 v2 (zb (fX8_thrown n v2 σ331) fun x332 => if x332 = x328 then if x328 = 0 then zaL σ331 v3 0 fun x333 => if (lg_cmp (x333.toInt64) (x330.toInt64)) = 0 then sL_law_2525 n r28 v0 v1 v2 v3 v4 v5 σ331 else if 0 = 0 ∨ 0 = 1 then some (0, σ331) else none else sL_law_2525 n r28 v0 v1 v2 v3 v4 v5 σ331 else if 0 = 0 ∨ 0 = 1 then some (0, σ331) else none))
def sL_law_2528 (n : Nat) (r28 : Nat → Nat → Nat → Nat → Nat → Int32 → zW → Option (Int32 × zW)) (v0 : Nat) (v1 : Nat) (v2 : Nat) (v3 : Nat) (v4 : Nat) (v5 : Int32) (σ : zW) : Option (Int32 × zW) := zck σ 8 v1 (zb (fX7_faultPosition n v1 σ) fun x334 => zck σ 9 v2 (zb2 (fX8_faultPosition n v2 σ) fun x335 σ336 => if x334 = x335 then sL_law_2620 n r28 v0 v1 v2 v3 v4 v5 σ336 else if 0 = 0 ∨ 0 = 1 then some (0, σ336) else none))
def sL_law_2582 (n : Nat) (r28 : Nat → Nat → Nat → Nat → Nat → Int32 → zW → Option (Int32 × zW)) (v0 : Nat) (v1 : Nat) (v2 : Nat) (v3 : Nat) (v4 : Nat) (v5 : Int32) (σ : zW) : Option (Int32 × zW) := sL_law_2620 n r28 v0 v1 v2 v3 v4 v5 σ
def sL_law_2541 (n : Nat) (r28 : Nat → Nat → Nat → Nat → Nat → Int32 → zW → Option (Int32 × zW)) (v0 : Nat) (v1 : Nat) (v2 : Nat) (v3 : Nat) (v4 : Nat) (v5 : Int32) (σ : zW) : Option (Int32 × zW) := zb2 (fL_undo n v1 v3 σ) fun x337 σ338 => zck σ338 9 v2 (zb2 (fX8_undo n v2 σ338) fun x339 σ340 => zck σ340 9 v2 (zb (fX8_thrown n v2 σ340) fun x341 => if x341 = x337 then if x337 = 0 then zaL σ340 v3 0 fun x342 => if (lg_cmp (x342.toInt64) (x339.toInt64)) = 0 then sL_law_2582 n r28 v0 v1 v2 v3 v4 v5 σ340 else if 0 = 0 ∨ 0 = 1 then some (0, σ340) else none else sL_law_2582 n r28 v0 v1 v2 v3 v4 v5 σ340 else if 0 = 0 ∨ 0 = 1 then some (0, σ340) else none))
def sL_law_2585 (n : Nat) (r28 : Nat → Nat → Nat → Nat → Nat → Int32 → zW → Option (Int32 × zW)) (v0 : Nat) (v1 : Nat) (v2 : Nat) (v3 : Nat) (v4 : Nat) (v5 : Int32) (σ : zW) : Option (Int32 × zW) := zck σ 8 v1 (zb (fX7_save n v1 σ) fun σ343 => zck σ343 9 v2 (zb (fX8_save n v2 σ343) fun σ344 => sL_law_2620 n r28 v0 v1 v2 v3 v4 v5 σ344))
def sL_law_2596 (n : Nat) (r28 : Nat → Nat → Nat → Nat → Nat → Int32 → zW → Option (Int32 × zW)) (v0 : Nat) (v1 : Nat) (v2 : Nat) (v3 : Nat) (v4 : Nat) (v5 : Int32) (σ : zW) : Option (Int32 × zW) := zb2 (fL_restore n v1 σ) fun x345 σ346 => zck σ346 9 v2 (zb (fX8_restore n v2 σ346) fun σ347 => zck σ347 9 v2 (zb (fX8_thrown n v2 σ347) fun x348 => if x348 = x345 then sL_law_2620 n r28 v0 v1 v2 v3 v4 v5 σ347 else if 0 = 0 ∨ 0 = 1 then some (0, σ347) else none))
def sL_law_28 (n : Nat) : Nat → Nat → Nat → Nat → Nat → Nat → Int32 → zW → Option (Int32 × zW)
  | 0, _, _, _, _, _, _, _ => none
  | k + 1, v0, v1, v2, v3, v4, v5, σ => zlen σ v0 fun x349 => if (x349 - 5) < v5 then if 1 = 0 ∨ 1 = 1 then some (1, σ) else none else zaI σ v0 v5 fun x350 => if (x350 &&& 63) = 0 then sL_law_220 n (sL_law_28 n k) v0 v1 v2 v3 v4 v5 σ else if (x350 &&& 63) = 1 then sL_law_300 n (sL_law_28 n k) v0 v1 v2 v3 v4 v5 σ else if (x350 &&& 63) = 2 then sL_law_368 n (sL_law_28 n k) v0 v1 v2 v3 v4 v5 σ else if (x350 &&& 63) = 3 then sL_law_424 n (sL_law_28 n k) v0 v1 v2 v3 v4 v5 σ else if (x350 &&& 63) = 4 then sL_law_504 n (sL_law_28 n k) v0 v1 v2 v3 v4 v5 σ else if (x350 &&& 63) = 5 then sL_law_572 n (sL_law_28 n k) v0 v1 v2 v3 v4 v5 σ else if (x350 &&& 63) = 6 then sL_law_628 n (sL_law_28 n k) v0 v1 v2 v3 v4 v5 σ else if (x350 &&& 63) = 7 then sL_law_684 n (sL_law_28 n k) v0 v1 v2 v3 v4 v5 σ else if (x350 &&& 63) = 8 then sL_law_752 n (sL_law_28 n k) v0 v1 v2 v3 v4 v5 σ else if (x350 &&& 63) = 9 then sL_law_832 n (sL_law_28 n k) v0 v1 v2 v3 v4 v5 σ else if (x350 &&& 63) = 10 then sL_law_900 n (sL_law_28 n k) v0 v1 v2 v3 v4 v5 σ else if (x350 &&& 63) = 11 then sL_law_968 n (sL_law_28 n k) v0 v1 v2 v3 v4 v5 σ else if (x350 &&& 63) = 12 then sL_law_1024 n (sL_law_28 n k) v0 v1 v2 v3 v4 v5 σ else if (x350 &&& 63) = 13 then sL_law_1080 n (sL_law_28 n k) v0 v1 v2 v3 v4 v5 σ else if (x350 &&& 63) = 14 then sL_law_1160 n (sL_law_28 n k) v0 v1 v2 v3 v4 v5 σ else if (x350 &&& 63) = 15 then sL_law_1204 n (sL_law_28 n k) v0 v1 v2 v3 v4 v5 σ else if (x350 &&& 63) = 16 then sL_law_1312 n (sL_law_28 n k) v0 v1 v2 v3 v4 v5 σ else if (x350 &&& 63) = 17 then sL_law_1380 n (sL_law_28 n k) v0 v1 v2 v3 v4 v5 σ else if (x350 &&& 63) = 18 then sL_law_1460 n (sL_law_28 n k) v0 v1 v2 v3 v4 v5 σ else if (x350 &&& 63) = 19 then sL_law_1540 n (sL_law_28 n k) v0 v1 v2 v3 v4 v5 σ else if (x350 &&& 63) = 20 then sL_law_1596 n (sL_law_28 n k) v0 v1 v2 v3 v4 v5 σ else if (x350 &&& 63) = 21 then sL_law_1652 n (sL_law_28 n k) v0 v1 v2 v3 v4 v5 σ else if (x350 &&& 63) = 22 then sL_law_1720 n (sL_law_28 n k) v0 v1 v2 v3 v4 v5 σ else if (x350 &&& 63) = 23 then sL_law_1788 n (sL_law_28 n k) v0 v1 v2 v3 v4 v5 σ else if (x350 &&& 63) = 24 then sL_law_1856 n (sL_law_28 n k) v0 v1 v2 v3 v4 v5 σ else if (x350 &&& 63) = 25 then sL_law_1912 n (sL_law_28 n k) v0 v1 v2 v3 v4 v5 σ else if (x350 &&& 63) = 26 then sL_law_1996 n (sL_law_28 n k) v0 v1 v2 v3 v4 v5 σ else if (x350 &&& 63) = 27 then sL_law_2052 n (sL_law_28 n k) v0 v1 v2 v3 v4 v5 σ else if (x350 &&& 63) = 28 then sL_law_2120 n (sL_law_28 n k) v0 v1 v2 v3 v4 v5 σ else if (x350 &&& 63) = 29 then sL_law_2188 n (sL_law_28 n k) v0 v1 v2 v3 v4 v5 σ else if (x350 &&& 63) = 30 then sL_law_2244 n (sL_law_28 n k) v0 v1 v2 v3 v4 v5 σ else if (x350 &&& 63) = 31 then sL_law_2309 n (sL_law_28 n k) v0 v1 v2 v3 v4 v5 σ else if (x350 &&& 63) = 32 then sL_law_2365 n (sL_law_28 n k) v0 v1 v2 v3 v4 v5 σ else if (x350 &&& 63) = 33 then sL_law_2433 n (sL_law_28 n k) v0 v1 v2 v3 v4 v5 σ else if (x350 &&& 63) = 34 then sL_law_2446 n (sL_law_28 n k) v0 v1 v2 v3 v4 v5 σ else if (x350 &&& 63) = 35 then sL_law_2484 n (sL_law_28 n k) v0 v1 v2 v3 v4 v5 σ else if (x350 &&& 63) = 36 then sL_law_2528 n (sL_law_28 n k) v0 v1 v2 v3 v4 v5 σ else if (x350 &&& 63) = 37 then sL_law_2541 n (sL_law_28 n k) v0 v1 v2 v3 v4 v5 σ else if (x350 &&& 63) = 38 then sL_law_2585 n (sL_law_28 n k) v0 v1 v2 v3 v4 v5 σ else if (x350 &&& 63) = 39 then sL_law_2596 n (sL_law_28 n k) v0 v1 v2 v3 v4 v5 σ else sL_law_2620 n (sL_law_28 n k) v0 v1 v2 v3 v4 v5 σ
def fL_law (n : Nat) (a0 : Nat) (σ : zW) : Option (Int32 × zW) := znO σ 8 7 fun q351 σ352 => if q351 = 0 then none else (zb (fX7_init n q351 σ352) fun σ353 => znO σ353 9 18 fun q354 σ355 => if q354 = 0 then none else (zb (fX8_init n q354 σ355) fun σ356 => znA σ356 23 1 fun q357 σ358 => znA σ358 24 1 fun q359 σ360 => sL_law_28 n n a0 q351 q354 q357 q359 0 σ360))

theorem gsL_law_2620 (F : zFx E) (n : Nat) (hk : zk E K "LotSalesLaw" cL_law 9 13) (he : zend E K (some .boolean) (cMe K).name) (r28 : Nat → Nat → Nat → Nat → Nat → Int32 → zW → Option (Int32 × zW)) (hr28 : ∀ (v0 : Nat) (v1 : Nat) (v2 : Nat) (v3 : Nat) (v4 : Nat) (v5 : Int32) (σ : zW), zG E K zfW (r28 v0 v1 v2 v3 v4 v5 σ) σ 28 [some (.inr (.inl v0)), some (.inr (.inl v1)), some (.inr (.inl v2)), some (.inr (.inl v3)), some (.inr (.inl v4)), some (.inl v5), none, none, none] []) (v0 : Nat) (v1 : Nat) (v2 : Nat) (v3 : Nat) (v4 : Nat) (v5 : Int32) (σ : zW) : zG E K zfW (sL_law_2620 n r28 v0 v1 v2 v3 v4 v5 σ) σ 2620 [some (.inr (.inl v0)), some (.inr (.inl v1)), some (.inr (.inl v2)), some (.inr (.inl v3)), some (.inr (.inl v4)), some (.inl v5), none, none, none] [] := by
  unfold sL_law_2620
  refine z_run hk hL_law_26 15 1 (pc' := 2623) (lv' := [some (.inr (.inl v0)), some (.inr (.inl v1)), some (.inr (.inl v2)), some (.inr (.inl v3)), some (.inr (.inl v4)), some (.inl (v5 + 5)), none, none, none]) (st' := []) rfl ?_
  refine z_goto hk (z_row hL_law_26 16 rfl) (tgt := 28) rfl ?_
  exact hr28 v0 v1 v2 v3 v4 (v5 + 5) σ
theorem gsL_law_297 (F : zFx E) (n : Nat) (hk : zk E K "LotSalesLaw" cL_law 9 13) (he : zend E K (some .boolean) (cMe K).name) (r28 : Nat → Nat → Nat → Nat → Nat → Int32 → zW → Option (Int32 × zW)) (hr28 : ∀ (v0 : Nat) (v1 : Nat) (v2 : Nat) (v3 : Nat) (v4 : Nat) (v5 : Int32) (σ : zW), zG E K zfW (r28 v0 v1 v2 v3 v4 v5 σ) σ 28 [some (.inr (.inl v0)), some (.inr (.inl v1)), some (.inr (.inl v2)), some (.inr (.inl v3)), some (.inr (.inl v4)), some (.inl v5), none, none, none] []) (v0 : Nat) (v1 : Nat) (v2 : Nat) (v3 : Nat) (v4 : Nat) (v5 : Int32) (σ : zW) : zG E K zfW (sL_law_297 n r28 v0 v1 v2 v3 v4 v5 σ) σ 297 [some (.inr (.inl v0)), some (.inr (.inl v1)), some (.inr (.inl v2)), some (.inr (.inl v3)), some (.inr (.inl v4)), some (.inl v5), none, none, none] [] := by
  unfold sL_law_297
  refine z_goto hk (z_row hL_law_1 22 rfl) (tgt := 2620) rfl ?_
  exact gsL_law_2620 F n hk he r28 hr28 v0 v1 v2 v3 v4 v5 σ
theorem gsL_law_220 (F : zFx E) (n : Nat) (hk : zk E K "LotSalesLaw" cL_law 9 13) (he : zend E K (some .boolean) (cMe K).name) (r28 : Nat → Nat → Nat → Nat → Nat → Int32 → zW → Option (Int32 × zW)) (hr28 : ∀ (v0 : Nat) (v1 : Nat) (v2 : Nat) (v3 : Nat) (v4 : Nat) (v5 : Int32) (σ : zW), zG E K zfW (r28 v0 v1 v2 v3 v4 v5 σ) σ 28 [some (.inr (.inl v0)), some (.inr (.inl v1)), some (.inr (.inl v2)), some (.inr (.inl v3)), some (.inr (.inl v4)), some (.inl v5), none, none, none] []) (v0 : Nat) (v1 : Nat) (v2 : Nat) (v3 : Nat) (v4 : Nat) (v5 : Int32) (σ : zW) : zG E K zfW (sL_law_220 n r28 v0 v1 v2 v3 v4 v5 σ) σ 220 [some (.inr (.inl v0)), some (.inr (.inl v1)), some (.inr (.inl v2)), some (.inr (.inl v3)), some (.inr (.inl v4)), some (.inl v5), none, none, none] [] := by
  unfold sL_law_220
  refine z_run hk hL_law_0 28 5 (pc' := 226) (lv' := [some (.inr (.inl v0)), some (.inr (.inl v1)), some (.inr (.inl v2)), some (.inr (.inl v3)), some (.inr (.inl v4)), some (.inl v5), none, none, none]) (st' := [.inl (v5 + 1), .inr (.inl v0), .inr (.inl v1)]) rfl ?_
  refine z_aI hk (z_row hL_law_0 33 rfl) (fun x1 => ?_)
  refine z_run hk hL_law_0 34 4 (pc' := 232) (lv' := [some (.inr (.inl v0)), some (.inr (.inl v1)), some (.inr (.inl v2)), some (.inr (.inl v3)), some (.inr (.inl v4)), some (.inl v5), none, none, none]) (st' := [.inl (v5 + 2), .inr (.inl v0), .inl x1, .inr (.inl v1)]) rfl ?_
  refine z_aI hk (z_row hL_law_0 38 rfl) (fun x2 => ?_)
  refine z_run hk hL_law_0 39 4 (pc' := 238) (lv' := [some (.inr (.inl v0)), some (.inr (.inl v1)), some (.inr (.inl v2)), some (.inr (.inl v3)), some (.inr (.inl v4)), some (.inl v5), none, none, none]) (st' := [.inl (v5 + 3), .inr (.inl v0), .inl x2, .inl x1, .inr (.inl v1)]) rfl ?_
  refine z_aI hk (z_row hL_law_0 43 rfl) (fun x3 => ?_)
  refine z_run hk hL_law_0 44 1 (pc' := 240) (lv' := [some (.inr (.inl v0)), some (.inr (.inl v1)), some (.inr (.inl v2)), some (.inr (.inl v3)), some (.inr (.inl v4)), some (.inl v5), none, none, none]) (st' := [.inr (.inl v3), .inl x3, .inl x2, .inl x1, .inr (.inl v1)]) rfl ?_
  refine kL_addLot F hk (z_row hL_law_0 45 rfl) wd_341 (by decide) (Nat.le_of_ble_eq_true rfl) (fun x4 σ5 => ?_)
  refine z_run hk hL_law_0 46 6 (pc' := 251) (lv' := [some (.inr (.inl v0)), some (.inr (.inl v1)), some (.inr (.inl v2)), some (.inr (.inl v3)), some (.inr (.inl v4)), some (.inl v5), some (.inl x4), none, none]) (st' := [.inl (v5 + 1), .inr (.inl v0), .inr (.inl v2)]) rfl ?_
  refine z_aI hk (z_row hL_law_0 52 rfl) (fun x6 => ?_)
  refine z_run hk hL_law_0 53 4 (pc' := 257) (lv' := [some (.inr (.inl v0)), some (.inr (.inl v1)), some (.inr (.inl v2)), some (.inr (.inl v3)), some (.inr (.inl v4)), some (.inl v5), some (.inl x4), none, none]) (st' := [.inl (v5 + 2), .inr (.inl v0), .inl x6, .inr (.inl v2)]) rfl ?_
  refine z_aI hk (z_row hL_law_0 57 rfl) (fun x7 => ?_)
  refine z_run hk hL_law_0 58 2 (pc' := 261) (lv' := [some (.inr (.inl v0)), some (.inr (.inl v1)), some (.inr (.inl v2)), some (.inr (.inl v3)), some (.inr (.inl v4)), some (.inl v5), some (.inl x4), none, none]) (st' := [.inl v5, .inr (.inl v0), .inl x7, .inl x6, .inr (.inl v2)]) rfl ?_
  refine z_run hk hL_law_1 0 2 (pc' := 263) (lv' := [some (.inr (.inl v0)), some (.inr (.inl v1)), some (.inr (.inl v2)), some (.inr (.inl v3)), some (.inr (.inl v4)), some (.inl v5), some (.inl x4), none, none]) (st' := [.inl (v5 + 3), .inr (.inl v0), .inl x7, .inl x6, .inr (.inl v2)]) rfl ?_
  refine z_aI hk (z_row hL_law_1 2 rfl) (fun x8 => ?_)
  refine kX8_addLot F hk (z_row hL_law_1 3 rfl) wd_1177 (by decide) (Nat.le_of_ble_eq_true rfl) (fun x9 σ10 => ?_)
  refine z_run hk hL_law_1 4 2 (pc' := 270) (lv' := [some (.inr (.inl v0)), some (.inr (.inl v1)), some (.inr (.inl v2)), some (.inr (.inl v3)), some (.inr (.inl v4)), some (.inl v5), some (.inl x4), some (.inl x9), none]) (st' := [.inr (.inl v2)]) rfl ?_
  refine kX8_thrown F hk (z_row hL_law_1 6 rfl) wd_1112 (by decide) (Nat.le_of_ble_eq_true rfl) (fun x11 => ?_)
  refine z_run hk hL_law_1 7 1 (pc' := 275) (lv' := [some (.inr (.inl v0)), some (.inr (.inl v1)), some (.inr (.inl v2)), some (.inr (.inl v3)), some (.inr (.inl v4)), some (.inl v5), some (.inl x4), some (.inl x9), none]) (st' := [.inl x4, .inl x11]) rfl ?_
  refine z_ceq hk (z_row hL_law_1 8 rfl) (tgt := 280) rfl ?_ ?_
  · refine z_run hk hL_law_1 11 1 (pc' := 282) (lv' := [some (.inr (.inl v0)), some (.inr (.inl v1)), some (.inr (.inl v2)), some (.inr (.inl v3)), some (.inr (.inl v4)), some (.inl v5), some (.inl x4), some (.inl x9), none]) (st' := [.inl x4]) rfl ?_
    refine z_ne hk (z_row hL_law_1 12 rfl) (tgt := 297) rfl ?_ ?_
    · refine z_mask [true, true, true, true, true, true, false, false, false] rfl ?_
      exact gsL_law_297 F n hk he r28 hr28 v0 v1 v2 v3 v4 v5 σ10
    · refine z_run hk hL_law_1 13 2 (pc' := 287) (lv' := [some (.inr (.inl v0)), some (.inr (.inl v1)), some (.inr (.inl v2)), some (.inr (.inl v3)), some (.inr (.inl v4)), some (.inl v5), some (.inl x4), some (.inl x9), none]) (st' := [.inl 0, .inr (.inl v3)]) rfl ?_
      refine z_aL hk (z_row hL_law_1 15 rfl) (fun x12 => ?_)
      refine z_run hk hL_law_1 16 3 (pc' := 292) (lv' := [some (.inr (.inl v0)), some (.inr (.inl v1)), some (.inr (.inl v2)), some (.inr (.inl v3)), some (.inr (.inl v4)), some (.inl v5), some (.inl x4), some (.inl x9), none]) (st' := [.inl (lg_cmp (x12.toInt64) (x9.toInt64))]) rfl ?_
      refine z_eq hk (z_row hL_law_1 19 rfl) (tgt := 297) rfl ?_ ?_
      · refine z_mask [true, true, true, true, true, true, false, false, false] rfl ?_
        exact gsL_law_297 F n hk he r28 hr28 v0 v1 v2 v3 v4 v5 σ10
      · refine z_run hk hL_law_1 20 1 (pc' := 296) (lv' := [some (.inr (.inl v0)), some (.inr (.inl v1)), some (.inr (.inl v2)), some (.inr (.inl v3)), some (.inr (.inl v4)), some (.inl v5), some (.inl x4), some (.inl x9), none]) (st' := [.inl 0]) rfl ?_
        exact z_zret (fin := zfW) (o := (0, σ10)) hk he (z_row hL_law_1 21 rfl) rfl
  · refine z_run hk hL_law_1 9 1 (pc' := 279) (lv' := [some (.inr (.inl v0)), some (.inr (.inl v1)), some (.inr (.inl v2)), some (.inr (.inl v3)), some (.inr (.inl v4)), some (.inl v5), some (.inl x4), some (.inl x9), none]) (st' := [.inl 0]) rfl ?_
    exact z_zret (fin := zfW) (o := (0, σ10)) hk he (z_row hL_law_1 10 rfl) rfl
theorem gsL_law_365 (F : zFx E) (n : Nat) (hk : zk E K "LotSalesLaw" cL_law 9 13) (he : zend E K (some .boolean) (cMe K).name) (r28 : Nat → Nat → Nat → Nat → Nat → Int32 → zW → Option (Int32 × zW)) (hr28 : ∀ (v0 : Nat) (v1 : Nat) (v2 : Nat) (v3 : Nat) (v4 : Nat) (v5 : Int32) (σ : zW), zG E K zfW (r28 v0 v1 v2 v3 v4 v5 σ) σ 28 [some (.inr (.inl v0)), some (.inr (.inl v1)), some (.inr (.inl v2)), some (.inr (.inl v3)), some (.inr (.inl v4)), some (.inl v5), none, none, none] []) (v0 : Nat) (v1 : Nat) (v2 : Nat) (v3 : Nat) (v4 : Nat) (v5 : Int32) (σ : zW) : zG E K zfW (sL_law_365 n r28 v0 v1 v2 v3 v4 v5 σ) σ 365 [some (.inr (.inl v0)), some (.inr (.inl v1)), some (.inr (.inl v2)), some (.inr (.inl v3)), some (.inr (.inl v4)), some (.inl v5), none, none, none] [] := by
  unfold sL_law_365
  refine z_goto hk (z_row hL_law_2 7 rfl) (tgt := 2620) rfl ?_
  exact gsL_law_2620 F n hk he r28 hr28 v0 v1 v2 v3 v4 v5 σ
theorem gsL_law_300 (F : zFx E) (n : Nat) (hk : zk E K "LotSalesLaw" cL_law 9 13) (he : zend E K (some .boolean) (cMe K).name) (r28 : Nat → Nat → Nat → Nat → Nat → Int32 → zW → Option (Int32 × zW)) (hr28 : ∀ (v0 : Nat) (v1 : Nat) (v2 : Nat) (v3 : Nat) (v4 : Nat) (v5 : Int32) (σ : zW), zG E K zfW (r28 v0 v1 v2 v3 v4 v5 σ) σ 28 [some (.inr (.inl v0)), some (.inr (.inl v1)), some (.inr (.inl v2)), some (.inr (.inl v3)), some (.inr (.inl v4)), some (.inl v5), none, none, none] []) (v0 : Nat) (v1 : Nat) (v2 : Nat) (v3 : Nat) (v4 : Nat) (v5 : Int32) (σ : zW) : zG E K zfW (sL_law_300 n r28 v0 v1 v2 v3 v4 v5 σ) σ 300 [some (.inr (.inl v0)), some (.inr (.inl v1)), some (.inr (.inl v2)), some (.inr (.inl v3)), some (.inr (.inl v4)), some (.inl v5), none, none, none] [] := by
  unfold sL_law_300
  refine z_run hk hL_law_1 23 5 (pc' := 306) (lv' := [some (.inr (.inl v0)), some (.inr (.inl v1)), some (.inr (.inl v2)), some (.inr (.inl v3)), some (.inr (.inl v4)), some (.inl v5), none, none, none]) (st' := [.inl (v5 + 1), .inr (.inl v0), .inr (.inl v1)]) rfl ?_
  refine z_aI hk (z_row hL_law_1 28 rfl) (fun x13 => ?_)
  refine z_run hk hL_law_1 29 4 (pc' := 312) (lv' := [some (.inr (.inl v0)), some (.inr (.inl v1)), some (.inr (.inl v2)), some (.inr (.inl v3)), some (.inr (.inl v4)), some (.inl v5), none, none, none]) (st' := [.inl (v5 + 2), .inr (.inl v0), .inl x13, .inr (.inl v1)]) rfl ?_
  refine z_aI hk (z_row hL_law_1 33 rfl) (fun x14 => ?_)
  refine z_run hk hL_law_1 34 1 (pc' := 314) (lv' := [some (.inr (.inl v0)), some (.inr (.inl v1)), some (.inr (.inl v2)), some (.inr (.inl v3)), some (.inr (.inl v4)), some (.inl v5), none, none, none]) (st' := [.inr (.inl v3), .inl x14, .inl x13, .inr (.inl v1)]) rfl ?_
  refine kL_lot F hk (z_row hL_law_1 35 rfl) wd_479 (by decide) (Nat.le_of_ble_eq_true rfl) (fun x15 σ16 => ?_)
  refine z_run hk hL_law_1 36 6 (pc' := 325) (lv' := [some (.inr (.inl v0)), some (.inr (.inl v1)), some (.inr (.inl v2)), some (.inr (.inl v3)), some (.inr (.inl v4)), some (.inl v5), some (.inl x15), none, none]) (st' := [.inl (v5 + 1), .inr (.inl v0), .inr (.inl v2)]) rfl ?_
  refine z_aI hk (z_row hL_law_1 42 rfl) (fun x17 => ?_)
  refine z_run hk hL_law_1 43 4 (pc' := 331) (lv' := [some (.inr (.inl v0)), some (.inr (.inl v1)), some (.inr (.inl v2)), some (.inr (.inl v3)), some (.inr (.inl v4)), some (.inl v5), some (.inl x15), none, none]) (st' := [.inl (v5 + 2), .inr (.inl v0), .inl x17, .inr (.inl v2)]) rfl ?_
  refine z_aI hk (z_row hL_law_1 47 rfl) (fun x18 => ?_)
  refine kX8_lot F hk (z_row hL_law_1 48 rfl) wd_1205 (by decide) (Nat.le_of_ble_eq_true rfl) (fun x19 σ20 => ?_)
  refine z_run hk hL_law_1 49 2 (pc' := 338) (lv' := [some (.inr (.inl v0)), some (.inr (.inl v1)), some (.inr (.inl v2)), some (.inr (.inl v3)), some (.inr (.inl v4)), some (.inl v5), some (.inl x15), some (.inl x19), none]) (st' := [.inr (.inl v2)]) rfl ?_
  refine kX8_thrown F hk (z_row hL_law_1 51 rfl) wd_1112 (by decide) (Nat.le_of_ble_eq_true rfl) (fun x21 => ?_)
  refine z_run hk hL_law_1 52 1 (pc' := 343) (lv' := [some (.inr (.inl v0)), some (.inr (.inl v1)), some (.inr (.inl v2)), some (.inr (.inl v3)), some (.inr (.inl v4)), some (.inl v5), some (.inl x15), some (.inl x19), none]) (st' := [.inl x15, .inl x21]) rfl ?_
  refine z_ceq hk (z_row hL_law_1 53 rfl) (tgt := 348) rfl ?_ ?_
  · refine z_run hk hL_law_1 56 1 (pc' := 350) (lv' := [some (.inr (.inl v0)), some (.inr (.inl v1)), some (.inr (.inl v2)), some (.inr (.inl v3)), some (.inr (.inl v4)), some (.inl v5), some (.inl x15), some (.inl x19), none]) (st' := [.inl x15]) rfl ?_
    refine z_ne hk (z_row hL_law_1 57 rfl) (tgt := 365) rfl ?_ ?_
    · refine z_mask [true, true, true, true, true, true, false, false, false] rfl ?_
      exact gsL_law_365 F n hk he r28 hr28 v0 v1 v2 v3 v4 v5 σ20
    · refine z_run hk hL_law_1 58 2 (pc' := 355) (lv' := [some (.inr (.inl v0)), some (.inr (.inl v1)), some (.inr (.inl v2)), some (.inr (.inl v3)), some (.inr (.inl v4)), some (.inl v5), some (.inl x15), some (.inl x19), none]) (st' := [.inl 0, .inr (.inl v3)]) rfl ?_
      refine z_aL hk (z_row hL_law_2 0 rfl) (fun x22 => ?_)
      refine z_run hk hL_law_2 1 3 (pc' := 360) (lv' := [some (.inr (.inl v0)), some (.inr (.inl v1)), some (.inr (.inl v2)), some (.inr (.inl v3)), some (.inr (.inl v4)), some (.inl v5), some (.inl x15), some (.inl x19), none]) (st' := [.inl (lg_cmp (x22.toInt64) (x19.toInt64))]) rfl ?_
      refine z_eq hk (z_row hL_law_2 4 rfl) (tgt := 365) rfl ?_ ?_
      · refine z_mask [true, true, true, true, true, true, false, false, false] rfl ?_
        exact gsL_law_365 F n hk he r28 hr28 v0 v1 v2 v3 v4 v5 σ20
      · refine z_run hk hL_law_2 5 1 (pc' := 364) (lv' := [some (.inr (.inl v0)), some (.inr (.inl v1)), some (.inr (.inl v2)), some (.inr (.inl v3)), some (.inr (.inl v4)), some (.inl v5), some (.inl x15), some (.inl x19), none]) (st' := [.inl 0]) rfl ?_
        exact z_zret (fin := zfW) (o := (0, σ20)) hk he (z_row hL_law_2 6 rfl) rfl
  · refine z_run hk hL_law_1 54 1 (pc' := 347) (lv' := [some (.inr (.inl v0)), some (.inr (.inl v1)), some (.inr (.inl v2)), some (.inr (.inl v3)), some (.inr (.inl v4)), some (.inl v5), some (.inl x15), some (.inl x19), none]) (st' := [.inl 0]) rfl ?_
    exact z_zret (fin := zfW) (o := (0, σ20)) hk he (z_row hL_law_1 55 rfl) rfl
theorem gsL_law_421 (F : zFx E) (n : Nat) (hk : zk E K "LotSalesLaw" cL_law 9 13) (he : zend E K (some .boolean) (cMe K).name) (r28 : Nat → Nat → Nat → Nat → Nat → Int32 → zW → Option (Int32 × zW)) (hr28 : ∀ (v0 : Nat) (v1 : Nat) (v2 : Nat) (v3 : Nat) (v4 : Nat) (v5 : Int32) (σ : zW), zG E K zfW (r28 v0 v1 v2 v3 v4 v5 σ) σ 28 [some (.inr (.inl v0)), some (.inr (.inl v1)), some (.inr (.inl v2)), some (.inr (.inl v3)), some (.inr (.inl v4)), some (.inl v5), none, none, none] []) (v0 : Nat) (v1 : Nat) (v2 : Nat) (v3 : Nat) (v4 : Nat) (v5 : Int32) (σ : zW) : zG E K zfW (sL_law_421 n r28 v0 v1 v2 v3 v4 v5 σ) σ 421 [some (.inr (.inl v0)), some (.inr (.inl v1)), some (.inr (.inl v2)), some (.inr (.inl v3)), some (.inr (.inl v4)), some (.inl v5), none, none, none] [] := by
  unfold sL_law_421
  refine z_goto hk (z_row hL_law_2 42 rfl) (tgt := 2620) rfl ?_
  exact gsL_law_2620 F n hk he r28 hr28 v0 v1 v2 v3 v4 v5 σ
theorem gsL_law_368 (F : zFx E) (n : Nat) (hk : zk E K "LotSalesLaw" cL_law 9 13) (he : zend E K (some .boolean) (cMe K).name) (r28 : Nat → Nat → Nat → Nat → Nat → Int32 → zW → Option (Int32 × zW)) (hr28 : ∀ (v0 : Nat) (v1 : Nat) (v2 : Nat) (v3 : Nat) (v4 : Nat) (v5 : Int32) (σ : zW), zG E K zfW (r28 v0 v1 v2 v3 v4 v5 σ) σ 28 [some (.inr (.inl v0)), some (.inr (.inl v1)), some (.inr (.inl v2)), some (.inr (.inl v3)), some (.inr (.inl v4)), some (.inl v5), none, none, none] []) (v0 : Nat) (v1 : Nat) (v2 : Nat) (v3 : Nat) (v4 : Nat) (v5 : Int32) (σ : zW) : zG E K zfW (sL_law_368 n r28 v0 v1 v2 v3 v4 v5 σ) σ 368 [some (.inr (.inl v0)), some (.inr (.inl v1)), some (.inr (.inl v2)), some (.inr (.inl v3)), some (.inr (.inl v4)), some (.inl v5), none, none, none] [] := by
  unfold sL_law_368
  refine z_run hk hL_law_2 8 5 (pc' := 374) (lv' := [some (.inr (.inl v0)), some (.inr (.inl v1)), some (.inr (.inl v2)), some (.inr (.inl v3)), some (.inr (.inl v4)), some (.inl v5), none, none, none]) (st' := [.inl (v5 + 1), .inr (.inl v0), .inr (.inl v1)]) rfl ?_
  refine z_aI hk (z_row hL_law_2 13 rfl) (fun x23 => ?_)
  refine z_run hk hL_law_2 14 1 (pc' := 376) (lv' := [some (.inr (.inl v0)), some (.inr (.inl v1)), some (.inr (.inl v2)), some (.inr (.inl v3)), some (.inr (.inl v4)), some (.inl v5), none, none, none]) (st' := [.inr (.inl v3), .inl x23, .inr (.inl v1)]) rfl ?_
  refine kL_lots F hk (z_row hL_law_2 15 rfl) wd_528 (by decide) (Nat.le_of_ble_eq_true rfl) (fun x24 σ25 => ?_)
  refine z_run hk hL_law_2 16 6 (pc' := 387) (lv' := [some (.inr (.inl v0)), some (.inr (.inl v1)), some (.inr (.inl v2)), some (.inr (.inl v3)), some (.inr (.inl v4)), some (.inl v5), some (.inl x24), none, none]) (st' := [.inl (v5 + 1), .inr (.inl v0), .inr (.inl v2)]) rfl ?_
  refine z_aI hk (z_row hL_law_2 22 rfl) (fun x26 => ?_)
  refine kX8_lots F hk (z_row hL_law_2 23 rfl) wd_1217 (by decide) (Nat.le_of_ble_eq_true rfl) (fun x27 σ28 => ?_)
  refine z_run hk hL_law_2 24 2 (pc' := 394) (lv' := [some (.inr (.inl v0)), some (.inr (.inl v1)), some (.inr (.inl v2)), some (.inr (.inl v3)), some (.inr (.inl v4)), some (.inl v5), some (.inl x24), some (.inl x27), none]) (st' := [.inr (.inl v2)]) rfl ?_
  refine kX8_thrown F hk (z_row hL_law_2 26 rfl) wd_1112 (by decide) (Nat.le_of_ble_eq_true rfl) (fun x29 => ?_)
  refine z_run hk hL_law_2 27 1 (pc' := 399) (lv' := [some (.inr (.inl v0)), some (.inr (.inl v1)), some (.inr (.inl v2)), some (.inr (.inl v3)), some (.inr (.inl v4)), some (.inl v5), some (.inl x24), some (.inl x27), none]) (st' := [.inl x24, .inl x29]) rfl ?_
  refine z_ceq hk (z_row hL_law_2 28 rfl) (tgt := 404) rfl ?_ ?_
  · refine z_run hk hL_law_2 31 1 (pc' := 406) (lv' := [some (.inr (.inl v0)), some (.inr (.inl v1)), some (.inr (.inl v2)), some (.inr (.inl v3)), some (.inr (.inl v4)), some (.inl v5), some (.inl x24), some (.inl x27), none]) (st' := [.inl x24]) rfl ?_
    refine z_ne hk (z_row hL_law_2 32 rfl) (tgt := 421) rfl ?_ ?_
    · refine z_mask [true, true, true, true, true, true, false, false, false] rfl ?_
      exact gsL_law_421 F n hk he r28 hr28 v0 v1 v2 v3 v4 v5 σ28
    · refine z_run hk hL_law_2 33 2 (pc' := 411) (lv' := [some (.inr (.inl v0)), some (.inr (.inl v1)), some (.inr (.inl v2)), some (.inr (.inl v3)), some (.inr (.inl v4)), some (.inl v5), some (.inl x24), some (.inl x27), none]) (st' := [.inl 0, .inr (.inl v3)]) rfl ?_
      refine z_aL hk (z_row hL_law_2 35 rfl) (fun x30 => ?_)
      refine z_run hk hL_law_2 36 3 (pc' := 416) (lv' := [some (.inr (.inl v0)), some (.inr (.inl v1)), some (.inr (.inl v2)), some (.inr (.inl v3)), some (.inr (.inl v4)), some (.inl v5), some (.inl x24), some (.inl x27), none]) (st' := [.inl (lg_cmp (x30.toInt64) (x27.toInt64))]) rfl ?_
      refine z_eq hk (z_row hL_law_2 39 rfl) (tgt := 421) rfl ?_ ?_
      · refine z_mask [true, true, true, true, true, true, false, false, false] rfl ?_
        exact gsL_law_421 F n hk he r28 hr28 v0 v1 v2 v3 v4 v5 σ28
      · refine z_run hk hL_law_2 40 1 (pc' := 420) (lv' := [some (.inr (.inl v0)), some (.inr (.inl v1)), some (.inr (.inl v2)), some (.inr (.inl v3)), some (.inr (.inl v4)), some (.inl v5), some (.inl x24), some (.inl x27), none]) (st' := [.inl 0]) rfl ?_
        exact z_zret (fin := zfW) (o := (0, σ28)) hk he (z_row hL_law_2 41 rfl) rfl
  · refine z_run hk hL_law_2 29 1 (pc' := 403) (lv' := [some (.inr (.inl v0)), some (.inr (.inl v1)), some (.inr (.inl v2)), some (.inr (.inl v3)), some (.inr (.inl v4)), some (.inl v5), some (.inl x24), some (.inl x27), none]) (st' := [.inl 0]) rfl ?_
    exact z_zret (fin := zfW) (o := (0, σ28)) hk he (z_row hL_law_2 30 rfl) rfl
theorem gsL_law_501 (F : zFx E) (n : Nat) (hk : zk E K "LotSalesLaw" cL_law 9 13) (he : zend E K (some .boolean) (cMe K).name) (r28 : Nat → Nat → Nat → Nat → Nat → Int32 → zW → Option (Int32 × zW)) (hr28 : ∀ (v0 : Nat) (v1 : Nat) (v2 : Nat) (v3 : Nat) (v4 : Nat) (v5 : Int32) (σ : zW), zG E K zfW (r28 v0 v1 v2 v3 v4 v5 σ) σ 28 [some (.inr (.inl v0)), some (.inr (.inl v1)), some (.inr (.inl v2)), some (.inr (.inl v3)), some (.inr (.inl v4)), some (.inl v5), none, none, none] []) (v0 : Nat) (v1 : Nat) (v2 : Nat) (v3 : Nat) (v4 : Nat) (v5 : Int32) (σ : zW) : zG E K zfW (sL_law_501 n r28 v0 v1 v2 v3 v4 v5 σ) σ 501 [some (.inr (.inl v0)), some (.inr (.inl v1)), some (.inr (.inl v2)), some (.inr (.inl v3)), some (.inr (.inl v4)), some (.inl v5), none, none, none] [] := by
  unfold sL_law_501
  refine z_goto hk (z_row hL_law_3 37 rfl) (tgt := 2620) rfl ?_
  exact gsL_law_2620 F n hk he r28 hr28 v0 v1 v2 v3 v4 v5 σ
theorem gsL_law_424 (F : zFx E) (n : Nat) (hk : zk E K "LotSalesLaw" cL_law 9 13) (he : zend E K (some .boolean) (cMe K).name) (r28 : Nat → Nat → Nat → Nat → Nat → Int32 → zW → Option (Int32 × zW)) (hr28 : ∀ (v0 : Nat) (v1 : Nat) (v2 : Nat) (v3 : Nat) (v4 : Nat) (v5 : Int32) (σ : zW), zG E K zfW (r28 v0 v1 v2 v3 v4 v5 σ) σ 28 [some (.inr (.inl v0)), some (.inr (.inl v1)), some (.inr (.inl v2)), some (.inr (.inl v3)), some (.inr (.inl v4)), some (.inl v5), none, none, none] []) (v0 : Nat) (v1 : Nat) (v2 : Nat) (v3 : Nat) (v4 : Nat) (v5 : Int32) (σ : zW) : zG E K zfW (sL_law_424 n r28 v0 v1 v2 v3 v4 v5 σ) σ 424 [some (.inr (.inl v0)), some (.inr (.inl v1)), some (.inr (.inl v2)), some (.inr (.inl v3)), some (.inr (.inl v4)), some (.inl v5), none, none, none] [] := by
  unfold sL_law_424
  refine z_run hk hL_law_2 43 5 (pc' := 430) (lv' := [some (.inr (.inl v0)), some (.inr (.inl v1)), some (.inr (.inl v2)), some (.inr (.inl v3)), some (.inr (.inl v4)), some (.inl v5), none, none, none]) (st' := [.inl (v5 + 1), .inr (.inl v0), .inr (.inl v1)]) rfl ?_
  refine z_aI hk (z_row hL_law_2 48 rfl) (fun x31 => ?_)
  refine z_run hk hL_law_2 49 4 (pc' := 436) (lv' := [some (.inr (.inl v0)), some (.inr (.inl v1)), some (.inr (.inl v2)), some (.inr (.inl v3)), some (.inr (.inl v4)), some (.inl v5), none, none, none]) (st' := [.inl (v5 + 2), .inr (.inl v0), .inl x31, .inr (.inl v1)]) rfl ?_
  refine z_aI hk (z_row hL_law_2 53 rfl) (fun x32 => ?_)
  refine z_run hk hL_law_2 54 4 (pc' := 442) (lv' := [some (.inr (.inl v0)), some (.inr (.inl v1)), some (.inr (.inl v2)), some (.inr (.inl v3)), some (.inr (.inl v4)), some (.inl v5), none, none, none]) (st' := [.inl (v5 + 3), .inr (.inl v0), .inl x32, .inl x31, .inr (.inl v1)]) rfl ?_
  refine z_aI hk (z_row hL_law_2 58 rfl) (fun x33 => ?_)
  refine z_run hk hL_law_2 59 1 (pc' := 444) (lv' := [some (.inr (.inl v0)), some (.inr (.inl v1)), some (.inr (.inl v2)), some (.inr (.inl v3)), some (.inr (.inl v4)), some (.inl v5), none, none, none]) (st' := [.inr (.inl v3), .inl x33, .inl x32, .inl x31, .inr (.inl v1)]) rfl ?_
  refine kL_setRows F hk (z_row hL_law_3 0 rfl) wd_539 (by decide) (Nat.le_of_ble_eq_true rfl) (fun x34 σ35 => ?_)
  refine z_run hk hL_law_3 1 6 (pc' := 455) (lv' := [some (.inr (.inl v0)), some (.inr (.inl v1)), some (.inr (.inl v2)), some (.inr (.inl v3)), some (.inr (.inl v4)), some (.inl v5), some (.inl x34), none, none]) (st' := [.inl (v5 + 1), .inr (.inl v0), .inr (.inl v2)]) rfl ?_
  refine z_aI hk (z_row hL_law_3 7 rfl) (fun x36 => ?_)
  refine z_run hk hL_law_3 8 4 (pc' := 461) (lv' := [some (.inr (.inl v0)), some (.inr (.inl v1)), some (.inr (.inl v2)), some (.inr (.inl v3)), some (.inr (.inl v4)), some (.inl v5), some (.inl x34), none, none]) (st' := [.inl (v5 + 2), .inr (.inl v0), .inl x36, .inr (.inl v2)]) rfl ?_
  refine z_aI hk (z_row hL_law_3 12 rfl) (fun x37 => ?_)
  refine z_run hk hL_law_3 13 4 (pc' := 467) (lv' := [some (.inr (.inl v0)), some (.inr (.inl v1)), some (.inr (.inl v2)), some (.inr (.inl v3)), some (.inr (.inl v4)), some (.inl v5), some (.inl x34), none, none]) (st' := [.inl (v5 + 3), .inr (.inl v0), .inl x37, .inl x36, .inr (.inl v2)]) rfl ?_
  refine z_aI hk (z_row hL_law_3 17 rfl) (fun x38 => ?_)
  refine kX8_setRows F hk (z_row hL_law_3 18 rfl) wd_1225 (by decide) (Nat.le_of_ble_eq_true rfl) (fun x39 σ40 => ?_)
  refine z_run hk hL_law_3 19 2 (pc' := 474) (lv' := [some (.inr (.inl v0)), some (.inr (.inl v1)), some (.inr (.inl v2)), some (.inr (.inl v3)), some (.inr (.inl v4)), some (.inl v5), some (.inl x34), some (.inl x39), none]) (st' := [.inr (.inl v2)]) rfl ?_
  refine kX8_thrown F hk (z_row hL_law_3 21 rfl) wd_1112 (by decide) (Nat.le_of_ble_eq_true rfl) (fun x41 => ?_)
  refine z_run hk hL_law_3 22 1 (pc' := 479) (lv' := [some (.inr (.inl v0)), some (.inr (.inl v1)), some (.inr (.inl v2)), some (.inr (.inl v3)), some (.inr (.inl v4)), some (.inl v5), some (.inl x34), some (.inl x39), none]) (st' := [.inl x34, .inl x41]) rfl ?_
  refine z_ceq hk (z_row hL_law_3 23 rfl) (tgt := 484) rfl ?_ ?_
  · refine z_run hk hL_law_3 26 1 (pc' := 486) (lv' := [some (.inr (.inl v0)), some (.inr (.inl v1)), some (.inr (.inl v2)), some (.inr (.inl v3)), some (.inr (.inl v4)), some (.inl v5), some (.inl x34), some (.inl x39), none]) (st' := [.inl x34]) rfl ?_
    refine z_ne hk (z_row hL_law_3 27 rfl) (tgt := 501) rfl ?_ ?_
    · refine z_mask [true, true, true, true, true, true, false, false, false] rfl ?_
      exact gsL_law_501 F n hk he r28 hr28 v0 v1 v2 v3 v4 v5 σ40
    · refine z_run hk hL_law_3 28 2 (pc' := 491) (lv' := [some (.inr (.inl v0)), some (.inr (.inl v1)), some (.inr (.inl v2)), some (.inr (.inl v3)), some (.inr (.inl v4)), some (.inl v5), some (.inl x34), some (.inl x39), none]) (st' := [.inl 0, .inr (.inl v3)]) rfl ?_
      refine z_aL hk (z_row hL_law_3 30 rfl) (fun x42 => ?_)
      refine z_run hk hL_law_3 31 3 (pc' := 496) (lv' := [some (.inr (.inl v0)), some (.inr (.inl v1)), some (.inr (.inl v2)), some (.inr (.inl v3)), some (.inr (.inl v4)), some (.inl v5), some (.inl x34), some (.inl x39), none]) (st' := [.inl (lg_cmp (x42.toInt64) (x39.toInt64))]) rfl ?_
      refine z_eq hk (z_row hL_law_3 34 rfl) (tgt := 501) rfl ?_ ?_
      · refine z_mask [true, true, true, true, true, true, false, false, false] rfl ?_
        exact gsL_law_501 F n hk he r28 hr28 v0 v1 v2 v3 v4 v5 σ40
      · refine z_run hk hL_law_3 35 1 (pc' := 500) (lv' := [some (.inr (.inl v0)), some (.inr (.inl v1)), some (.inr (.inl v2)), some (.inr (.inl v3)), some (.inr (.inl v4)), some (.inl v5), some (.inl x34), some (.inl x39), none]) (st' := [.inl 0]) rfl ?_
        exact z_zret (fin := zfW) (o := (0, σ40)) hk he (z_row hL_law_3 36 rfl) rfl
  · refine z_run hk hL_law_3 24 1 (pc' := 483) (lv' := [some (.inr (.inl v0)), some (.inr (.inl v1)), some (.inr (.inl v2)), some (.inr (.inl v3)), some (.inr (.inl v4)), some (.inl v5), some (.inl x34), some (.inl x39), none]) (st' := [.inl 0]) rfl ?_
    exact z_zret (fin := zfW) (o := (0, σ40)) hk he (z_row hL_law_3 25 rfl) rfl
theorem gsL_law_569 (F : zFx E) (n : Nat) (hk : zk E K "LotSalesLaw" cL_law 9 13) (he : zend E K (some .boolean) (cMe K).name) (r28 : Nat → Nat → Nat → Nat → Nat → Int32 → zW → Option (Int32 × zW)) (hr28 : ∀ (v0 : Nat) (v1 : Nat) (v2 : Nat) (v3 : Nat) (v4 : Nat) (v5 : Int32) (σ : zW), zG E K zfW (r28 v0 v1 v2 v3 v4 v5 σ) σ 28 [some (.inr (.inl v0)), some (.inr (.inl v1)), some (.inr (.inl v2)), some (.inr (.inl v3)), some (.inr (.inl v4)), some (.inl v5), none, none, none] []) (v0 : Nat) (v1 : Nat) (v2 : Nat) (v3 : Nat) (v4 : Nat) (v5 : Int32) (σ : zW) : zG E K zfW (sL_law_569 n r28 v0 v1 v2 v3 v4 v5 σ) σ 569 [some (.inr (.inl v0)), some (.inr (.inl v1)), some (.inr (.inl v2)), some (.inr (.inl v3)), some (.inr (.inl v4)), some (.inl v5), none, none, none] [] := by
  unfold sL_law_569
  refine z_goto hk (z_row hL_law_4 22 rfl) (tgt := 2620) rfl ?_
  exact gsL_law_2620 F n hk he r28 hr28 v0 v1 v2 v3 v4 v5 σ
theorem gsL_law_504 (F : zFx E) (n : Nat) (hk : zk E K "LotSalesLaw" cL_law 9 13) (he : zend E K (some .boolean) (cMe K).name) (r28 : Nat → Nat → Nat → Nat → Nat → Int32 → zW → Option (Int32 × zW)) (hr28 : ∀ (v0 : Nat) (v1 : Nat) (v2 : Nat) (v3 : Nat) (v4 : Nat) (v5 : Int32) (σ : zW), zG E K zfW (r28 v0 v1 v2 v3 v4 v5 σ) σ 28 [some (.inr (.inl v0)), some (.inr (.inl v1)), some (.inr (.inl v2)), some (.inr (.inl v3)), some (.inr (.inl v4)), some (.inl v5), none, none, none] []) (v0 : Nat) (v1 : Nat) (v2 : Nat) (v3 : Nat) (v4 : Nat) (v5 : Int32) (σ : zW) : zG E K zfW (sL_law_504 n r28 v0 v1 v2 v3 v4 v5 σ) σ 504 [some (.inr (.inl v0)), some (.inr (.inl v1)), some (.inr (.inl v2)), some (.inr (.inl v3)), some (.inr (.inl v4)), some (.inl v5), none, none, none] [] := by
  unfold sL_law_504
  refine z_run hk hL_law_3 38 5 (pc' := 510) (lv' := [some (.inr (.inl v0)), some (.inr (.inl v1)), some (.inr (.inl v2)), some (.inr (.inl v3)), some (.inr (.inl v4)), some (.inl v5), none, none, none]) (st' := [.inl (v5 + 1), .inr (.inl v0), .inr (.inl v1)]) rfl ?_
  refine z_aI hk (z_row hL_law_3 43 rfl) (fun x43 => ?_)
  refine z_run hk hL_law_3 44 4 (pc' := 516) (lv' := [some (.inr (.inl v0)), some (.inr (.inl v1)), some (.inr (.inl v2)), some (.inr (.inl v3)), some (.inr (.inl v4)), some (.inl v5), none, none, none]) (st' := [.inl (v5 + 2), .inr (.inl v0), .inl x43, .inr (.inl v1)]) rfl ?_
  refine z_aI hk (z_row hL_law_3 48 rfl) (fun x44 => ?_)
  refine z_run hk hL_law_3 49 1 (pc' := 518) (lv' := [some (.inr (.inl v0)), some (.inr (.inl v1)), some (.inr (.inl v2)), some (.inr (.inl v3)), some (.inr (.inl v4)), some (.inl v5), none, none, none]) (st' := [.inr (.inl v3), .inl x44, .inl x43, .inr (.inl v1)]) rfl ?_
  refine kL_row F hk (z_row hL_law_3 50 rfl) wd_557 (by decide) (Nat.le_of_ble_eq_true rfl) (fun x45 σ46 => ?_)
  refine z_run hk hL_law_3 51 6 (pc' := 529) (lv' := [some (.inr (.inl v0)), some (.inr (.inl v1)), some (.inr (.inl v2)), some (.inr (.inl v3)), some (.inr (.inl v4)), some (.inl v5), some (.inl x45), none, none]) (st' := [.inl (v5 + 1), .inr (.inl v0), .inr (.inl v2)]) rfl ?_
  refine z_aI hk (z_row hL_law_3 57 rfl) (fun x47 => ?_)
  refine z_run hk hL_law_3 58 2 (pc' := 533) (lv' := [some (.inr (.inl v0)), some (.inr (.inl v1)), some (.inr (.inl v2)), some (.inr (.inl v3)), some (.inr (.inl v4)), some (.inl v5), some (.inl x45), none, none]) (st' := [.inl v5, .inr (.inl v0), .inl x47, .inr (.inl v2)]) rfl ?_
  refine z_run hk hL_law_4 0 2 (pc' := 535) (lv' := [some (.inr (.inl v0)), some (.inr (.inl v1)), some (.inr (.inl v2)), some (.inr (.inl v3)), some (.inr (.inl v4)), some (.inl v5), some (.inl x45), none, none]) (st' := [.inl (v5 + 2), .inr (.inl v0), .inl x47, .inr (.inl v2)]) rfl ?_
  refine z_aI hk (z_row hL_law_4 2 rfl) (fun x48 => ?_)
  refine kX8_row F hk (z_row hL_law_4 3 rfl) wd_1233 (by decide) (Nat.le_of_ble_eq_true rfl) (fun x49 σ50 => ?_)
  refine z_run hk hL_law_4 4 2 (pc' := 542) (lv' := [some (.inr (.inl v0)), some (.inr (.inl v1)), some (.inr (.inl v2)), some (.inr (.inl v3)), some (.inr (.inl v4)), some (.inl v5), some (.inl x45), some (.inl x49), none]) (st' := [.inr (.inl v2)]) rfl ?_
  refine kX8_thrown F hk (z_row hL_law_4 6 rfl) wd_1112 (by decide) (Nat.le_of_ble_eq_true rfl) (fun x51 => ?_)
  refine z_run hk hL_law_4 7 1 (pc' := 547) (lv' := [some (.inr (.inl v0)), some (.inr (.inl v1)), some (.inr (.inl v2)), some (.inr (.inl v3)), some (.inr (.inl v4)), some (.inl v5), some (.inl x45), some (.inl x49), none]) (st' := [.inl x45, .inl x51]) rfl ?_
  refine z_ceq hk (z_row hL_law_4 8 rfl) (tgt := 552) rfl ?_ ?_
  · refine z_run hk hL_law_4 11 1 (pc' := 554) (lv' := [some (.inr (.inl v0)), some (.inr (.inl v1)), some (.inr (.inl v2)), some (.inr (.inl v3)), some (.inr (.inl v4)), some (.inl v5), some (.inl x45), some (.inl x49), none]) (st' := [.inl x45]) rfl ?_
    refine z_ne hk (z_row hL_law_4 12 rfl) (tgt := 569) rfl ?_ ?_
    · refine z_mask [true, true, true, true, true, true, false, false, false] rfl ?_
      exact gsL_law_569 F n hk he r28 hr28 v0 v1 v2 v3 v4 v5 σ50
    · refine z_run hk hL_law_4 13 2 (pc' := 559) (lv' := [some (.inr (.inl v0)), some (.inr (.inl v1)), some (.inr (.inl v2)), some (.inr (.inl v3)), some (.inr (.inl v4)), some (.inl v5), some (.inl x45), some (.inl x49), none]) (st' := [.inl 0, .inr (.inl v3)]) rfl ?_
      refine z_aL hk (z_row hL_law_4 15 rfl) (fun x52 => ?_)
      refine z_run hk hL_law_4 16 3 (pc' := 564) (lv' := [some (.inr (.inl v0)), some (.inr (.inl v1)), some (.inr (.inl v2)), some (.inr (.inl v3)), some (.inr (.inl v4)), some (.inl v5), some (.inl x45), some (.inl x49), none]) (st' := [.inl (lg_cmp (x52.toInt64) (x49.toInt64))]) rfl ?_
      refine z_eq hk (z_row hL_law_4 19 rfl) (tgt := 569) rfl ?_ ?_
      · refine z_mask [true, true, true, true, true, true, false, false, false] rfl ?_
        exact gsL_law_569 F n hk he r28 hr28 v0 v1 v2 v3 v4 v5 σ50
      · refine z_run hk hL_law_4 20 1 (pc' := 568) (lv' := [some (.inr (.inl v0)), some (.inr (.inl v1)), some (.inr (.inl v2)), some (.inr (.inl v3)), some (.inr (.inl v4)), some (.inl v5), some (.inl x45), some (.inl x49), none]) (st' := [.inl 0]) rfl ?_
        exact z_zret (fin := zfW) (o := (0, σ50)) hk he (z_row hL_law_4 21 rfl) rfl
  · refine z_run hk hL_law_4 9 1 (pc' := 551) (lv' := [some (.inr (.inl v0)), some (.inr (.inl v1)), some (.inr (.inl v2)), some (.inr (.inl v3)), some (.inr (.inl v4)), some (.inl v5), some (.inl x45), some (.inl x49), none]) (st' := [.inl 0]) rfl ?_
    exact z_zret (fin := zfW) (o := (0, σ50)) hk he (z_row hL_law_4 10 rfl) rfl
theorem gsL_law_625 (F : zFx E) (n : Nat) (hk : zk E K "LotSalesLaw" cL_law 9 13) (he : zend E K (some .boolean) (cMe K).name) (r28 : Nat → Nat → Nat → Nat → Nat → Int32 → zW → Option (Int32 × zW)) (hr28 : ∀ (v0 : Nat) (v1 : Nat) (v2 : Nat) (v3 : Nat) (v4 : Nat) (v5 : Int32) (σ : zW), zG E K zfW (r28 v0 v1 v2 v3 v4 v5 σ) σ 28 [some (.inr (.inl v0)), some (.inr (.inl v1)), some (.inr (.inl v2)), some (.inr (.inl v3)), some (.inr (.inl v4)), some (.inl v5), none, none, none] []) (v0 : Nat) (v1 : Nat) (v2 : Nat) (v3 : Nat) (v4 : Nat) (v5 : Int32) (σ : zW) : zG E K zfW (sL_law_625 n r28 v0 v1 v2 v3 v4 v5 σ) σ 625 [some (.inr (.inl v0)), some (.inr (.inl v1)), some (.inr (.inl v2)), some (.inr (.inl v3)), some (.inr (.inl v4)), some (.inl v5), none, none, none] [] := by
  unfold sL_law_625
  refine z_goto hk (z_row hL_law_4 57 rfl) (tgt := 2620) rfl ?_
  exact gsL_law_2620 F n hk he r28 hr28 v0 v1 v2 v3 v4 v5 σ
theorem gsL_law_572 (F : zFx E) (n : Nat) (hk : zk E K "LotSalesLaw" cL_law 9 13) (he : zend E K (some .boolean) (cMe K).name) (r28 : Nat → Nat → Nat → Nat → Nat → Int32 → zW → Option (Int32 × zW)) (hr28 : ∀ (v0 : Nat) (v1 : Nat) (v2 : Nat) (v3 : Nat) (v4 : Nat) (v5 : Int32) (σ : zW), zG E K zfW (r28 v0 v1 v2 v3 v4 v5 σ) σ 28 [some (.inr (.inl v0)), some (.inr (.inl v1)), some (.inr (.inl v2)), some (.inr (.inl v3)), some (.inr (.inl v4)), some (.inl v5), none, none, none] []) (v0 : Nat) (v1 : Nat) (v2 : Nat) (v3 : Nat) (v4 : Nat) (v5 : Int32) (σ : zW) : zG E K zfW (sL_law_572 n r28 v0 v1 v2 v3 v4 v5 σ) σ 572 [some (.inr (.inl v0)), some (.inr (.inl v1)), some (.inr (.inl v2)), some (.inr (.inl v3)), some (.inr (.inl v4)), some (.inl v5), none, none, none] [] := by
  unfold sL_law_572
  refine z_run hk hL_law_4 23 5 (pc' := 578) (lv' := [some (.inr (.inl v0)), some (.inr (.inl v1)), some (.inr (.inl v2)), some (.inr (.inl v3)), some (.inr (.inl v4)), some (.inl v5), none, none, none]) (st' := [.inl (v5 + 1), .inr (.inl v0), .inr (.inl v1)]) rfl ?_
  refine z_aI hk (z_row hL_law_4 28 rfl) (fun x53 => ?_)
  refine z_run hk hL_law_4 29 1 (pc' := 580) (lv' := [some (.inr (.inl v0)), some (.inr (.inl v1)), some (.inr (.inl v2)), some (.inr (.inl v3)), some (.inr (.inl v4)), some (.inl v5), none, none, none]) (st' := [.inr (.inl v3), .inl x53, .inr (.inl v1)]) rfl ?_
  refine kL_step F hk (z_row hL_law_4 30 rfl) wd_565 (by decide) (Nat.le_of_ble_eq_true rfl) (fun x54 σ55 => ?_)
  refine z_run hk hL_law_4 31 6 (pc' := 591) (lv' := [some (.inr (.inl v0)), some (.inr (.inl v1)), some (.inr (.inl v2)), some (.inr (.inl v3)), some (.inr (.inl v4)), some (.inl v5), some (.inl x54), none, none]) (st' := [.inl (v5 + 1), .inr (.inl v0), .inr (.inl v2)]) rfl ?_
  refine z_aI hk (z_row hL_law_4 37 rfl) (fun x56 => ?_)
  refine kX8_step F hk (z_row hL_law_4 38 rfl) wd_1237 (by decide) (Nat.le_of_ble_eq_true rfl) (fun x57 σ58 => ?_)
  refine z_run hk hL_law_4 39 2 (pc' := 598) (lv' := [some (.inr (.inl v0)), some (.inr (.inl v1)), some (.inr (.inl v2)), some (.inr (.inl v3)), some (.inr (.inl v4)), some (.inl v5), some (.inl x54), some (.inl x57), none]) (st' := [.inr (.inl v2)]) rfl ?_
  refine kX8_thrown F hk (z_row hL_law_4 41 rfl) wd_1112 (by decide) (Nat.le_of_ble_eq_true rfl) (fun x59 => ?_)
  refine z_run hk hL_law_4 42 1 (pc' := 603) (lv' := [some (.inr (.inl v0)), some (.inr (.inl v1)), some (.inr (.inl v2)), some (.inr (.inl v3)), some (.inr (.inl v4)), some (.inl v5), some (.inl x54), some (.inl x57), none]) (st' := [.inl x54, .inl x59]) rfl ?_
  refine z_ceq hk (z_row hL_law_4 43 rfl) (tgt := 608) rfl ?_ ?_
  · refine z_run hk hL_law_4 46 1 (pc' := 610) (lv' := [some (.inr (.inl v0)), some (.inr (.inl v1)), some (.inr (.inl v2)), some (.inr (.inl v3)), some (.inr (.inl v4)), some (.inl v5), some (.inl x54), some (.inl x57), none]) (st' := [.inl x54]) rfl ?_
    refine z_ne hk (z_row hL_law_4 47 rfl) (tgt := 625) rfl ?_ ?_
    · refine z_mask [true, true, true, true, true, true, false, false, false] rfl ?_
      exact gsL_law_625 F n hk he r28 hr28 v0 v1 v2 v3 v4 v5 σ58
    · refine z_run hk hL_law_4 48 2 (pc' := 615) (lv' := [some (.inr (.inl v0)), some (.inr (.inl v1)), some (.inr (.inl v2)), some (.inr (.inl v3)), some (.inr (.inl v4)), some (.inl v5), some (.inl x54), some (.inl x57), none]) (st' := [.inl 0, .inr (.inl v3)]) rfl ?_
      refine z_aL hk (z_row hL_law_4 50 rfl) (fun x60 => ?_)
      refine z_run hk hL_law_4 51 3 (pc' := 620) (lv' := [some (.inr (.inl v0)), some (.inr (.inl v1)), some (.inr (.inl v2)), some (.inr (.inl v3)), some (.inr (.inl v4)), some (.inl v5), some (.inl x54), some (.inl x57), none]) (st' := [.inl (lg_cmp (x60.toInt64) (x57.toInt64))]) rfl ?_
      refine z_eq hk (z_row hL_law_4 54 rfl) (tgt := 625) rfl ?_ ?_
      · refine z_mask [true, true, true, true, true, true, false, false, false] rfl ?_
        exact gsL_law_625 F n hk he r28 hr28 v0 v1 v2 v3 v4 v5 σ58
      · refine z_run hk hL_law_4 55 1 (pc' := 624) (lv' := [some (.inr (.inl v0)), some (.inr (.inl v1)), some (.inr (.inl v2)), some (.inr (.inl v3)), some (.inr (.inl v4)), some (.inl v5), some (.inl x54), some (.inl x57), none]) (st' := [.inl 0]) rfl ?_
        exact z_zret (fin := zfW) (o := (0, σ58)) hk he (z_row hL_law_4 56 rfl) rfl
  · refine z_run hk hL_law_4 44 1 (pc' := 607) (lv' := [some (.inr (.inl v0)), some (.inr (.inl v1)), some (.inr (.inl v2)), some (.inr (.inl v3)), some (.inr (.inl v4)), some (.inl v5), some (.inl x54), some (.inl x57), none]) (st' := [.inl 0]) rfl ?_
    exact z_zret (fin := zfW) (o := (0, σ58)) hk he (z_row hL_law_4 45 rfl) rfl
theorem gsL_law_681 (F : zFx E) (n : Nat) (hk : zk E K "LotSalesLaw" cL_law 9 13) (he : zend E K (some .boolean) (cMe K).name) (r28 : Nat → Nat → Nat → Nat → Nat → Int32 → zW → Option (Int32 × zW)) (hr28 : ∀ (v0 : Nat) (v1 : Nat) (v2 : Nat) (v3 : Nat) (v4 : Nat) (v5 : Int32) (σ : zW), zG E K zfW (r28 v0 v1 v2 v3 v4 v5 σ) σ 28 [some (.inr (.inl v0)), some (.inr (.inl v1)), some (.inr (.inl v2)), some (.inr (.inl v3)), some (.inr (.inl v4)), some (.inl v5), none, none, none] []) (v0 : Nat) (v1 : Nat) (v2 : Nat) (v3 : Nat) (v4 : Nat) (v5 : Int32) (σ : zW) : zG E K zfW (sL_law_681 n r28 v0 v1 v2 v3 v4 v5 σ) σ 681 [some (.inr (.inl v0)), some (.inr (.inl v1)), some (.inr (.inl v2)), some (.inr (.inl v3)), some (.inr (.inl v4)), some (.inl v5), none, none, none] [] := by
  unfold sL_law_681
  refine z_goto hk (z_row hL_law_5 32 rfl) (tgt := 2620) rfl ?_
  exact gsL_law_2620 F n hk he r28 hr28 v0 v1 v2 v3 v4 v5 σ
theorem gsL_law_628 (F : zFx E) (n : Nat) (hk : zk E K "LotSalesLaw" cL_law 9 13) (he : zend E K (some .boolean) (cMe K).name) (r28 : Nat → Nat → Nat → Nat → Nat → Int32 → zW → Option (Int32 × zW)) (hr28 : ∀ (v0 : Nat) (v1 : Nat) (v2 : Nat) (v3 : Nat) (v4 : Nat) (v5 : Int32) (σ : zW), zG E K zfW (r28 v0 v1 v2 v3 v4 v5 σ) σ 28 [some (.inr (.inl v0)), some (.inr (.inl v1)), some (.inr (.inl v2)), some (.inr (.inl v3)), some (.inr (.inl v4)), some (.inl v5), none, none, none] []) (v0 : Nat) (v1 : Nat) (v2 : Nat) (v3 : Nat) (v4 : Nat) (v5 : Int32) (σ : zW) : zG E K zfW (sL_law_628 n r28 v0 v1 v2 v3 v4 v5 σ) σ 628 [some (.inr (.inl v0)), some (.inr (.inl v1)), some (.inr (.inl v2)), some (.inr (.inl v3)), some (.inr (.inl v4)), some (.inl v5), none, none, none] [] := by
  unfold sL_law_628
  refine z_run hk hL_law_4 58 2 (pc' := 630) (lv' := [some (.inr (.inl v0)), some (.inr (.inl v1)), some (.inr (.inl v2)), some (.inr (.inl v3)), some (.inr (.inl v4)), some (.inl v5), none, none, none]) (st' := [.inr (.inl v0), .inr (.inl v1)]) rfl ?_
  refine z_run hk hL_law_5 0 3 (pc' := 634) (lv' := [some (.inr (.inl v0)), some (.inr (.inl v1)), some (.inr (.inl v2)), some (.inr (.inl v3)), some (.inr (.inl v4)), some (.inl v5), none, none, none]) (st' := [.inl (v5 + 1), .inr (.inl v0), .inr (.inl v1)]) rfl ?_
  refine z_aI hk (z_row hL_law_5 3 rfl) (fun x61 => ?_)
  refine z_run hk hL_law_5 4 1 (pc' := 636) (lv' := [some (.inr (.inl v0)), some (.inr (.inl v1)), some (.inr (.inl v2)), some (.inr (.inl v3)), some (.inr (.inl v4)), some (.inl v5), none, none, none]) (st' := [.inr (.inl v3), .inl x61, .inr (.inl v1)]) rfl ?_
  refine kL_nextStep F hk (z_row hL_law_5 5 rfl) wd_580 (by decide) (Nat.le_of_ble_eq_true rfl) (fun x62 σ63 => ?_)
  refine z_run hk hL_law_5 6 6 (pc' := 647) (lv' := [some (.inr (.inl v0)), some (.inr (.inl v1)), some (.inr (.inl v2)), some (.inr (.inl v3)), some (.inr (.inl v4)), some (.inl v5), some (.inl x62), none, none]) (st' := [.inl (v5 + 1), .inr (.inl v0), .inr (.inl v2)]) rfl ?_
  refine z_aI hk (z_row hL_law_5 12 rfl) (fun x64 => ?_)
  refine kX8_nextStep F hk (z_row hL_law_5 13 rfl) wd_1251 (by decide) (Nat.le_of_ble_eq_true rfl) (fun x65 σ66 => ?_)
  refine z_run hk hL_law_5 14 2 (pc' := 654) (lv' := [some (.inr (.inl v0)), some (.inr (.inl v1)), some (.inr (.inl v2)), some (.inr (.inl v3)), some (.inr (.inl v4)), some (.inl v5), some (.inl x62), some (.inl x65), none]) (st' := [.inr (.inl v2)]) rfl ?_
  refine kX8_thrown F hk (z_row hL_law_5 16 rfl) wd_1112 (by decide) (Nat.le_of_ble_eq_true rfl) (fun x67 => ?_)
  refine z_run hk hL_law_5 17 1 (pc' := 659) (lv' := [some (.inr (.inl v0)), some (.inr (.inl v1)), some (.inr (.inl v2)), some (.inr (.inl v3)), some (.inr (.inl v4)), some (.inl v5), some (.inl x62), some (.inl x65), none]) (st' := [.inl x62, .inl x67]) rfl ?_
  refine z_ceq hk (z_row hL_law_5 18 rfl) (tgt := 664) rfl ?_ ?_
  · refine z_run hk hL_law_5 21 1 (pc' := 666) (lv' := [some (.inr (.inl v0)), some (.inr (.inl v1)), some (.inr (.inl v2)), some (.inr (.inl v3)), some (.inr (.inl v4)), some (.inl v5), some (.inl x62), some (.inl x65), none]) (st' := [.inl x62]) rfl ?_
    refine z_ne hk (z_row hL_law_5 22 rfl) (tgt := 681) rfl ?_ ?_
    · refine z_mask [true, true, true, true, true, true, false, false, false] rfl ?_
      exact gsL_law_681 F n hk he r28 hr28 v0 v1 v2 v3 v4 v5 σ66
    · refine z_run hk hL_law_5 23 2 (pc' := 671) (lv' := [some (.inr (.inl v0)), some (.inr (.inl v1)), some (.inr (.inl v2)), some (.inr (.inl v3)), some (.inr (.inl v4)), some (.inl v5), some (.inl x62), some (.inl x65), none]) (st' := [.inl 0, .inr (.inl v3)]) rfl ?_
      refine z_aL hk (z_row hL_law_5 25 rfl) (fun x68 => ?_)
      refine z_run hk hL_law_5 26 3 (pc' := 676) (lv' := [some (.inr (.inl v0)), some (.inr (.inl v1)), some (.inr (.inl v2)), some (.inr (.inl v3)), some (.inr (.inl v4)), some (.inl v5), some (.inl x62), some (.inl x65), none]) (st' := [.inl (lg_cmp (x68.toInt64) (x65.toInt64))]) rfl ?_
      refine z_eq hk (z_row hL_law_5 29 rfl) (tgt := 681) rfl ?_ ?_
      · refine z_mask [true, true, true, true, true, true, false, false, false] rfl ?_
        exact gsL_law_681 F n hk he r28 hr28 v0 v1 v2 v3 v4 v5 σ66
      · refine z_run hk hL_law_5 30 1 (pc' := 680) (lv' := [some (.inr (.inl v0)), some (.inr (.inl v1)), some (.inr (.inl v2)), some (.inr (.inl v3)), some (.inr (.inl v4)), some (.inl v5), some (.inl x62), some (.inl x65), none]) (st' := [.inl 0]) rfl ?_
        exact z_zret (fin := zfW) (o := (0, σ66)) hk he (z_row hL_law_5 31 rfl) rfl
  · refine z_run hk hL_law_5 19 1 (pc' := 663) (lv' := [some (.inr (.inl v0)), some (.inr (.inl v1)), some (.inr (.inl v2)), some (.inr (.inl v3)), some (.inr (.inl v4)), some (.inl v5), some (.inl x62), some (.inl x65), none]) (st' := [.inl 0]) rfl ?_
    exact z_zret (fin := zfW) (o := (0, σ66)) hk he (z_row hL_law_5 20 rfl) rfl
theorem gsL_law_749 (F : zFx E) (n : Nat) (hk : zk E K "LotSalesLaw" cL_law 9 13) (he : zend E K (some .boolean) (cMe K).name) (r28 : Nat → Nat → Nat → Nat → Nat → Int32 → zW → Option (Int32 × zW)) (hr28 : ∀ (v0 : Nat) (v1 : Nat) (v2 : Nat) (v3 : Nat) (v4 : Nat) (v5 : Int32) (σ : zW), zG E K zfW (r28 v0 v1 v2 v3 v4 v5 σ) σ 28 [some (.inr (.inl v0)), some (.inr (.inl v1)), some (.inr (.inl v2)), some (.inr (.inl v3)), some (.inr (.inl v4)), some (.inl v5), none, none, none] []) (v0 : Nat) (v1 : Nat) (v2 : Nat) (v3 : Nat) (v4 : Nat) (v5 : Int32) (σ : zW) : zG E K zfW (sL_law_749 n r28 v0 v1 v2 v3 v4 v5 σ) σ 749 [some (.inr (.inl v0)), some (.inr (.inl v1)), some (.inr (.inl v2)), some (.inr (.inl v3)), some (.inr (.inl v4)), some (.inl v5), none, none, none] [] := by
  unfold sL_law_749
  refine z_goto hk (z_row hL_law_6 17 rfl) (tgt := 2620) rfl ?_
  exact gsL_law_2620 F n hk he r28 hr28 v0 v1 v2 v3 v4 v5 σ
theorem gsL_law_684 (F : zFx E) (n : Nat) (hk : zk E K "LotSalesLaw" cL_law 9 13) (he : zend E K (some .boolean) (cMe K).name) (r28 : Nat → Nat → Nat → Nat → Nat → Int32 → zW → Option (Int32 × zW)) (hr28 : ∀ (v0 : Nat) (v1 : Nat) (v2 : Nat) (v3 : Nat) (v4 : Nat) (v5 : Int32) (σ : zW), zG E K zfW (r28 v0 v1 v2 v3 v4 v5 σ) σ 28 [some (.inr (.inl v0)), some (.inr (.inl v1)), some (.inr (.inl v2)), some (.inr (.inl v3)), some (.inr (.inl v4)), some (.inl v5), none, none, none] []) (v0 : Nat) (v1 : Nat) (v2 : Nat) (v3 : Nat) (v4 : Nat) (v5 : Int32) (σ : zW) : zG E K zfW (sL_law_684 n r28 v0 v1 v2 v3 v4 v5 σ) σ 684 [some (.inr (.inl v0)), some (.inr (.inl v1)), some (.inr (.inl v2)), some (.inr (.inl v3)), some (.inr (.inl v4)), some (.inl v5), none, none, none] [] := by
  unfold sL_law_684
  refine z_run hk hL_law_5 33 5 (pc' := 690) (lv' := [some (.inr (.inl v0)), some (.inr (.inl v1)), some (.inr (.inl v2)), some (.inr (.inl v3)), some (.inr (.inl v4)), some (.inl v5), none, none, none]) (st' := [.inl (v5 + 1), .inr (.inl v0), .inr (.inl v1)]) rfl ?_
  refine z_aI hk (z_row hL_law_5 38 rfl) (fun x69 => ?_)
  refine z_run hk hL_law_5 39 4 (pc' := 696) (lv' := [some (.inr (.inl v0)), some (.inr (.inl v1)), some (.inr (.inl v2)), some (.inr (.inl v3)), some (.inr (.inl v4)), some (.inl v5), none, none, none]) (st' := [.inl (v5 + 2), .inr (.inl v0), .inl x69, .inr (.inl v1)]) rfl ?_
  refine z_aI hk (z_row hL_law_5 43 rfl) (fun x70 => ?_)
  refine z_run hk hL_law_5 44 1 (pc' := 698) (lv' := [some (.inr (.inl v0)), some (.inr (.inl v1)), some (.inr (.inl v2)), some (.inr (.inl v3)), some (.inr (.inl v4)), some (.inl v5), none, none, none]) (st' := [.inr (.inl v3), .inl x70, .inl x69, .inr (.inl v1)]) rfl ?_
  refine kL_setCredit F hk (z_row hL_law_5 45 rfl) wd_592 (by decide) (Nat.le_of_ble_eq_true rfl) (fun x71 σ72 => ?_)
  refine z_run hk hL_law_5 46 6 (pc' := 709) (lv' := [some (.inr (.inl v0)), some (.inr (.inl v1)), some (.inr (.inl v2)), some (.inr (.inl v3)), some (.inr (.inl v4)), some (.inl v5), some (.inl x71), none, none]) (st' := [.inl (v5 + 1), .inr (.inl v0), .inr (.inl v2)]) rfl ?_
  refine z_aI hk (z_row hL_law_5 52 rfl) (fun x73 => ?_)
  refine z_run hk hL_law_5 53 4 (pc' := 715) (lv' := [some (.inr (.inl v0)), some (.inr (.inl v1)), some (.inr (.inl v2)), some (.inr (.inl v3)), some (.inr (.inl v4)), some (.inl v5), some (.inl x71), none, none]) (st' := [.inl (v5 + 2), .inr (.inl v0), .inl x73, .inr (.inl v2)]) rfl ?_
  refine z_aI hk (z_row hL_law_5 57 rfl) (fun x74 => ?_)
  refine kX8_setCredit F hk (z_row hL_law_5 58 rfl) wd_1259 (by decide) (Nat.le_of_ble_eq_true rfl) (fun x75 σ76 => ?_)
  refine z_run hk hL_law_5 59 1 (pc' := 721) (lv' := [some (.inr (.inl v0)), some (.inr (.inl v1)), some (.inr (.inl v2)), some (.inr (.inl v3)), some (.inr (.inl v4)), some (.inl v5), some (.inl x71), some (.inl x75), none]) (st' := []) rfl ?_
  refine z_run hk hL_law_6 0 1 (pc' := 722) (lv' := [some (.inr (.inl v0)), some (.inr (.inl v1)), some (.inr (.inl v2)), some (.inr (.inl v3)), some (.inr (.inl v4)), some (.inl v5), some (.inl x71), some (.inl x75), none]) (st' := [.inr (.inl v2)]) rfl ?_
  refine kX8_thrown F hk (z_row hL_law_6 1 rfl) wd_1112 (by decide) (Nat.le_of_ble_eq_true rfl) (fun x77 => ?_)
  refine z_run hk hL_law_6 2 1 (pc' := 727) (lv' := [some (.inr (.inl v0)), some (.inr (.inl v1)), some (.inr (.inl v2)), some (.inr (.inl v3)), some (.inr (.inl v4)), some (.inl v5), some (.inl x71), some (.inl x75), none]) (st' := [.inl x71, .inl x77]) rfl ?_
  refine z_ceq hk (z_row hL_law_6 3 rfl) (tgt := 732) rfl ?_ ?_
  · refine z_run hk hL_law_6 6 1 (pc' := 734) (lv' := [some (.inr (.inl v0)), some (.inr (.inl v1)), some (.inr (.inl v2)), some (.inr (.inl v3)), some (.inr (.inl v4)), some (.inl v5), some (.inl x71), some (.inl x75), none]) (st' := [.inl x71]) rfl ?_
    refine z_ne hk (z_row hL_law_6 7 rfl) (tgt := 749) rfl ?_ ?_
    · refine z_mask [true, true, true, true, true, true, false, false, false] rfl ?_
      exact gsL_law_749 F n hk he r28 hr28 v0 v1 v2 v3 v4 v5 σ76
    · refine z_run hk hL_law_6 8 2 (pc' := 739) (lv' := [some (.inr (.inl v0)), some (.inr (.inl v1)), some (.inr (.inl v2)), some (.inr (.inl v3)), some (.inr (.inl v4)), some (.inl v5), some (.inl x71), some (.inl x75), none]) (st' := [.inl 0, .inr (.inl v3)]) rfl ?_
      refine z_aL hk (z_row hL_law_6 10 rfl) (fun x78 => ?_)
      refine z_run hk hL_law_6 11 3 (pc' := 744) (lv' := [some (.inr (.inl v0)), some (.inr (.inl v1)), some (.inr (.inl v2)), some (.inr (.inl v3)), some (.inr (.inl v4)), some (.inl v5), some (.inl x71), some (.inl x75), none]) (st' := [.inl (lg_cmp (x78.toInt64) (x75.toInt64))]) rfl ?_
      refine z_eq hk (z_row hL_law_6 14 rfl) (tgt := 749) rfl ?_ ?_
      · refine z_mask [true, true, true, true, true, true, false, false, false] rfl ?_
        exact gsL_law_749 F n hk he r28 hr28 v0 v1 v2 v3 v4 v5 σ76
      · refine z_run hk hL_law_6 15 1 (pc' := 748) (lv' := [some (.inr (.inl v0)), some (.inr (.inl v1)), some (.inr (.inl v2)), some (.inr (.inl v3)), some (.inr (.inl v4)), some (.inl v5), some (.inl x71), some (.inl x75), none]) (st' := [.inl 0]) rfl ?_
        exact z_zret (fin := zfW) (o := (0, σ76)) hk he (z_row hL_law_6 16 rfl) rfl
  · refine z_run hk hL_law_6 4 1 (pc' := 731) (lv' := [some (.inr (.inl v0)), some (.inr (.inl v1)), some (.inr (.inl v2)), some (.inr (.inl v3)), some (.inr (.inl v4)), some (.inl v5), some (.inl x71), some (.inl x75), none]) (st' := [.inl 0]) rfl ?_
    exact z_zret (fin := zfW) (o := (0, σ76)) hk he (z_row hL_law_6 5 rfl) rfl
theorem gsL_law_829 (F : zFx E) (n : Nat) (hk : zk E K "LotSalesLaw" cL_law 9 13) (he : zend E K (some .boolean) (cMe K).name) (r28 : Nat → Nat → Nat → Nat → Nat → Int32 → zW → Option (Int32 × zW)) (hr28 : ∀ (v0 : Nat) (v1 : Nat) (v2 : Nat) (v3 : Nat) (v4 : Nat) (v5 : Int32) (σ : zW), zG E K zfW (r28 v0 v1 v2 v3 v4 v5 σ) σ 28 [some (.inr (.inl v0)), some (.inr (.inl v1)), some (.inr (.inl v2)), some (.inr (.inl v3)), some (.inr (.inl v4)), some (.inl v5), none, none, none] []) (v0 : Nat) (v1 : Nat) (v2 : Nat) (v3 : Nat) (v4 : Nat) (v5 : Int32) (σ : zW) : zG E K zfW (sL_law_829 n r28 v0 v1 v2 v3 v4 v5 σ) σ 829 [some (.inr (.inl v0)), some (.inr (.inl v1)), some (.inr (.inl v2)), some (.inr (.inl v3)), some (.inr (.inl v4)), some (.inl v5), none, none, none] [] := by
  unfold sL_law_829
  refine z_goto hk (z_row hL_law_7 12 rfl) (tgt := 2620) rfl ?_
  exact gsL_law_2620 F n hk he r28 hr28 v0 v1 v2 v3 v4 v5 σ
theorem gsL_law_752 (F : zFx E) (n : Nat) (hk : zk E K "LotSalesLaw" cL_law 9 13) (he : zend E K (some .boolean) (cMe K).name) (r28 : Nat → Nat → Nat → Nat → Nat → Int32 → zW → Option (Int32 × zW)) (hr28 : ∀ (v0 : Nat) (v1 : Nat) (v2 : Nat) (v3 : Nat) (v4 : Nat) (v5 : Int32) (σ : zW), zG E K zfW (r28 v0 v1 v2 v3 v4 v5 σ) σ 28 [some (.inr (.inl v0)), some (.inr (.inl v1)), some (.inr (.inl v2)), some (.inr (.inl v3)), some (.inr (.inl v4)), some (.inl v5), none, none, none] []) (v0 : Nat) (v1 : Nat) (v2 : Nat) (v3 : Nat) (v4 : Nat) (v5 : Int32) (σ : zW) : zG E K zfW (sL_law_752 n r28 v0 v1 v2 v3 v4 v5 σ) σ 752 [some (.inr (.inl v0)), some (.inr (.inl v1)), some (.inr (.inl v2)), some (.inr (.inl v3)), some (.inr (.inl v4)), some (.inl v5), none, none, none] [] := by
  unfold sL_law_752
  refine z_run hk hL_law_6 18 5 (pc' := 758) (lv' := [some (.inr (.inl v0)), some (.inr (.inl v1)), some (.inr (.inl v2)), some (.inr (.inl v3)), some (.inr (.inl v4)), some (.inl v5), none, none, none]) (st' := [.inl (v5 + 1), .inr (.inl v0), .inr (.inl v1)]) rfl ?_
  refine z_aI hk (z_row hL_law_6 23 rfl) (fun x79 => ?_)
  refine z_run hk hL_law_6 24 4 (pc' := 764) (lv' := [some (.inr (.inl v0)), some (.inr (.inl v1)), some (.inr (.inl v2)), some (.inr (.inl v3)), some (.inr (.inl v4)), some (.inl v5), none, none, none]) (st' := [.inl (v5 + 2), .inr (.inl v0), .inl x79, .inr (.inl v1)]) rfl ?_
  refine z_aI hk (z_row hL_law_6 28 rfl) (fun x80 => ?_)
  refine z_run hk hL_law_6 29 4 (pc' := 770) (lv' := [some (.inr (.inl v0)), some (.inr (.inl v1)), some (.inr (.inl v2)), some (.inr (.inl v3)), some (.inr (.inl v4)), some (.inl v5), none, none, none]) (st' := [.inl (v5 + 3), .inr (.inl v0), .inl x80, .inl x79, .inr (.inl v1)]) rfl ?_
  refine z_aI hk (z_row hL_law_6 33 rfl) (fun x81 => ?_)
  refine z_run hk hL_law_6 34 1 (pc' := 772) (lv' := [some (.inr (.inl v0)), some (.inr (.inl v1)), some (.inr (.inl v2)), some (.inr (.inl v3)), some (.inr (.inl v4)), some (.inl v5), none, none, none]) (st' := [.inr (.inl v3), .inl x81, .inl x80, .inl x79, .inr (.inl v1)]) rfl ?_
  refine kL_order F hk (z_row hL_law_6 35 rfl) wd_607 (by decide) (Nat.le_of_ble_eq_true rfl) (fun x82 σ83 => ?_)
  refine z_run hk hL_law_6 36 6 (pc' := 783) (lv' := [some (.inr (.inl v0)), some (.inr (.inl v1)), some (.inr (.inl v2)), some (.inr (.inl v3)), some (.inr (.inl v4)), some (.inl v5), some (.inl x82), none, none]) (st' := [.inl (v5 + 1), .inr (.inl v0), .inr (.inl v2)]) rfl ?_
  refine z_aI hk (z_row hL_law_6 42 rfl) (fun x84 => ?_)
  refine z_run hk hL_law_6 43 4 (pc' := 789) (lv' := [some (.inr (.inl v0)), some (.inr (.inl v1)), some (.inr (.inl v2)), some (.inr (.inl v3)), some (.inr (.inl v4)), some (.inl v5), some (.inl x82), none, none]) (st' := [.inl (v5 + 2), .inr (.inl v0), .inl x84, .inr (.inl v2)]) rfl ?_
  refine z_aI hk (z_row hL_law_6 47 rfl) (fun x85 => ?_)
  refine z_run hk hL_law_6 48 4 (pc' := 795) (lv' := [some (.inr (.inl v0)), some (.inr (.inl v1)), some (.inr (.inl v2)), some (.inr (.inl v3)), some (.inr (.inl v4)), some (.inl v5), some (.inl x82), none, none]) (st' := [.inl (v5 + 3), .inr (.inl v0), .inl x85, .inl x84, .inr (.inl v2)]) rfl ?_
  refine z_aI hk (z_row hL_law_6 52 rfl) (fun x86 => ?_)
  refine kX8_order F hk (z_row hL_law_6 53 rfl) wd_1267 (by decide) (Nat.le_of_ble_eq_true rfl) (fun x87 σ88 => ?_)
  refine z_run hk hL_law_6 54 2 (pc' := 802) (lv' := [some (.inr (.inl v0)), some (.inr (.inl v1)), some (.inr (.inl v2)), some (.inr (.inl v3)), some (.inr (.inl v4)), some (.inl v5), some (.inl x82), some (.inl x87), none]) (st' := [.inr (.inl v2)]) rfl ?_
  refine kX8_thrown F hk (z_row hL_law_6 56 rfl) wd_1112 (by decide) (Nat.le_of_ble_eq_true rfl) (fun x89 => ?_)
  refine z_run hk hL_law_6 57 1 (pc' := 807) (lv' := [some (.inr (.inl v0)), some (.inr (.inl v1)), some (.inr (.inl v2)), some (.inr (.inl v3)), some (.inr (.inl v4)), some (.inl v5), some (.inl x82), some (.inl x87), none]) (st' := [.inl x82, .inl x89]) rfl ?_
  refine z_ceq hk (z_row hL_law_6 58 rfl) (tgt := 812) rfl ?_ ?_
  · refine z_run hk hL_law_7 1 1 (pc' := 814) (lv' := [some (.inr (.inl v0)), some (.inr (.inl v1)), some (.inr (.inl v2)), some (.inr (.inl v3)), some (.inr (.inl v4)), some (.inl v5), some (.inl x82), some (.inl x87), none]) (st' := [.inl x82]) rfl ?_
    refine z_ne hk (z_row hL_law_7 2 rfl) (tgt := 829) rfl ?_ ?_
    · refine z_mask [true, true, true, true, true, true, false, false, false] rfl ?_
      exact gsL_law_829 F n hk he r28 hr28 v0 v1 v2 v3 v4 v5 σ88
    · refine z_run hk hL_law_7 3 2 (pc' := 819) (lv' := [some (.inr (.inl v0)), some (.inr (.inl v1)), some (.inr (.inl v2)), some (.inr (.inl v3)), some (.inr (.inl v4)), some (.inl v5), some (.inl x82), some (.inl x87), none]) (st' := [.inl 0, .inr (.inl v3)]) rfl ?_
      refine z_aL hk (z_row hL_law_7 5 rfl) (fun x90 => ?_)
      refine z_run hk hL_law_7 6 3 (pc' := 824) (lv' := [some (.inr (.inl v0)), some (.inr (.inl v1)), some (.inr (.inl v2)), some (.inr (.inl v3)), some (.inr (.inl v4)), some (.inl v5), some (.inl x82), some (.inl x87), none]) (st' := [.inl (lg_cmp (x90.toInt64) (x87.toInt64))]) rfl ?_
      refine z_eq hk (z_row hL_law_7 9 rfl) (tgt := 829) rfl ?_ ?_
      · refine z_mask [true, true, true, true, true, true, false, false, false] rfl ?_
        exact gsL_law_829 F n hk he r28 hr28 v0 v1 v2 v3 v4 v5 σ88
      · refine z_run hk hL_law_7 10 1 (pc' := 828) (lv' := [some (.inr (.inl v0)), some (.inr (.inl v1)), some (.inr (.inl v2)), some (.inr (.inl v3)), some (.inr (.inl v4)), some (.inl v5), some (.inl x82), some (.inl x87), none]) (st' := [.inl 0]) rfl ?_
        exact z_zret (fin := zfW) (o := (0, σ88)) hk he (z_row hL_law_7 11 rfl) rfl
  · refine z_run hk hL_law_6 59 1 (pc' := 811) (lv' := [some (.inr (.inl v0)), some (.inr (.inl v1)), some (.inr (.inl v2)), some (.inr (.inl v3)), some (.inr (.inl v4)), some (.inl v5), some (.inl x82), some (.inl x87), none]) (st' := [.inl 0]) rfl ?_
    exact z_zret (fin := zfW) (o := (0, σ88)) hk he (z_row hL_law_7 0 rfl) rfl
theorem gsL_law_897 (F : zFx E) (n : Nat) (hk : zk E K "LotSalesLaw" cL_law 9 13) (he : zend E K (some .boolean) (cMe K).name) (r28 : Nat → Nat → Nat → Nat → Nat → Int32 → zW → Option (Int32 × zW)) (hr28 : ∀ (v0 : Nat) (v1 : Nat) (v2 : Nat) (v3 : Nat) (v4 : Nat) (v5 : Int32) (σ : zW), zG E K zfW (r28 v0 v1 v2 v3 v4 v5 σ) σ 28 [some (.inr (.inl v0)), some (.inr (.inl v1)), some (.inr (.inl v2)), some (.inr (.inl v3)), some (.inr (.inl v4)), some (.inl v5), none, none, none] []) (v0 : Nat) (v1 : Nat) (v2 : Nat) (v3 : Nat) (v4 : Nat) (v5 : Int32) (σ : zW) : zG E K zfW (sL_law_897 n r28 v0 v1 v2 v3 v4 v5 σ) σ 897 [some (.inr (.inl v0)), some (.inr (.inl v1)), some (.inr (.inl v2)), some (.inr (.inl v3)), some (.inr (.inl v4)), some (.inl v5), none, none, none] [] := by
  unfold sL_law_897
  refine z_goto hk (z_row hL_law_7 57 rfl) (tgt := 2620) rfl ?_
  exact gsL_law_2620 F n hk he r28 hr28 v0 v1 v2 v3 v4 v5 σ
theorem gsL_law_832 (F : zFx E) (n : Nat) (hk : zk E K "LotSalesLaw" cL_law 9 13) (he : zend E K (some .boolean) (cMe K).name) (r28 : Nat → Nat → Nat → Nat → Nat → Int32 → zW → Option (Int32 × zW)) (hr28 : ∀ (v0 : Nat) (v1 : Nat) (v2 : Nat) (v3 : Nat) (v4 : Nat) (v5 : Int32) (σ : zW), zG E K zfW (r28 v0 v1 v2 v3 v4 v5 σ) σ 28 [some (.inr (.inl v0)), some (.inr (.inl v1)), some (.inr (.inl v2)), some (.inr (.inl v3)), some (.inr (.inl v4)), some (.inl v5), none, none, none] []) (v0 : Nat) (v1 : Nat) (v2 : Nat) (v3 : Nat) (v4 : Nat) (v5 : Int32) (σ : zW) : zG E K zfW (sL_law_832 n r28 v0 v1 v2 v3 v4 v5 σ) σ 832 [some (.inr (.inl v0)), some (.inr (.inl v1)), some (.inr (.inl v2)), some (.inr (.inl v3)), some (.inr (.inl v4)), some (.inl v5), none, none, none] [] := by
  unfold sL_law_832
  refine z_run hk hL_law_7 13 5 (pc' := 838) (lv' := [some (.inr (.inl v0)), some (.inr (.inl v1)), some (.inr (.inl v2)), some (.inr (.inl v3)), some (.inr (.inl v4)), some (.inl v5), none, none, none]) (st' := [.inl (v5 + 1), .inr (.inl v0), .inr (.inl v1)]) rfl ?_
  refine z_aI hk (z_row hL_law_7 18 rfl) (fun x91 => ?_)
  refine z_run hk hL_law_7 19 4 (pc' := 844) (lv' := [some (.inr (.inl v0)), some (.inr (.inl v1)), some (.inr (.inl v2)), some (.inr (.inl v3)), some (.inr (.inl v4)), some (.inl v5), none, none, none]) (st' := [.inl (v5 + 2), .inr (.inl v0), .inl x91, .inr (.inl v1)]) rfl ?_
  refine z_aI hk (z_row hL_law_7 23 rfl) (fun x92 => ?_)
  refine z_run hk hL_law_7 24 1 (pc' := 846) (lv' := [some (.inr (.inl v0)), some (.inr (.inl v1)), some (.inr (.inl v2)), some (.inr (.inl v3)), some (.inr (.inl v4)), some (.inl v5), none, none, none]) (st' := [.inr (.inl v3), .inl x92, .inl x91, .inr (.inl v1)]) rfl ?_
  refine kL_cancel F hk (z_row hL_law_7 25 rfl) wd_677 (by decide) (Nat.le_of_ble_eq_true rfl) (fun x93 σ94 => ?_)
  refine z_run hk hL_law_7 26 6 (pc' := 857) (lv' := [some (.inr (.inl v0)), some (.inr (.inl v1)), some (.inr (.inl v2)), some (.inr (.inl v3)), some (.inr (.inl v4)), some (.inl v5), some (.inl x93), none, none]) (st' := [.inl (v5 + 1), .inr (.inl v0), .inr (.inl v2)]) rfl ?_
  refine z_aI hk (z_row hL_law_7 32 rfl) (fun x95 => ?_)
  refine z_run hk hL_law_7 33 4 (pc' := 863) (lv' := [some (.inr (.inl v0)), some (.inr (.inl v1)), some (.inr (.inl v2)), some (.inr (.inl v3)), some (.inr (.inl v4)), some (.inl v5), some (.inl x93), none, none]) (st' := [.inl (v5 + 2), .inr (.inl v0), .inl x95, .inr (.inl v2)]) rfl ?_
  refine z_aI hk (z_row hL_law_7 37 rfl) (fun x96 => ?_)
  refine kX8_cancel F hk (z_row hL_law_7 38 rfl) wd_1295 (by decide) (Nat.le_of_ble_eq_true rfl) (fun x97 σ98 => ?_)
  refine z_run hk hL_law_7 39 2 (pc' := 870) (lv' := [some (.inr (.inl v0)), some (.inr (.inl v1)), some (.inr (.inl v2)), some (.inr (.inl v3)), some (.inr (.inl v4)), some (.inl v5), some (.inl x93), some (.inl x97), none]) (st' := [.inr (.inl v2)]) rfl ?_
  refine kX8_thrown F hk (z_row hL_law_7 41 rfl) wd_1112 (by decide) (Nat.le_of_ble_eq_true rfl) (fun x99 => ?_)
  refine z_run hk hL_law_7 42 1 (pc' := 875) (lv' := [some (.inr (.inl v0)), some (.inr (.inl v1)), some (.inr (.inl v2)), some (.inr (.inl v3)), some (.inr (.inl v4)), some (.inl v5), some (.inl x93), some (.inl x97), none]) (st' := [.inl x93, .inl x99]) rfl ?_
  refine z_ceq hk (z_row hL_law_7 43 rfl) (tgt := 880) rfl ?_ ?_
  · refine z_run hk hL_law_7 46 1 (pc' := 882) (lv' := [some (.inr (.inl v0)), some (.inr (.inl v1)), some (.inr (.inl v2)), some (.inr (.inl v3)), some (.inr (.inl v4)), some (.inl v5), some (.inl x93), some (.inl x97), none]) (st' := [.inl x93]) rfl ?_
    refine z_ne hk (z_row hL_law_7 47 rfl) (tgt := 897) rfl ?_ ?_
    · refine z_mask [true, true, true, true, true, true, false, false, false] rfl ?_
      exact gsL_law_897 F n hk he r28 hr28 v0 v1 v2 v3 v4 v5 σ98
    · refine z_run hk hL_law_7 48 2 (pc' := 887) (lv' := [some (.inr (.inl v0)), some (.inr (.inl v1)), some (.inr (.inl v2)), some (.inr (.inl v3)), some (.inr (.inl v4)), some (.inl v5), some (.inl x93), some (.inl x97), none]) (st' := [.inl 0, .inr (.inl v3)]) rfl ?_
      refine z_aL hk (z_row hL_law_7 50 rfl) (fun x100 => ?_)
      refine z_run hk hL_law_7 51 3 (pc' := 892) (lv' := [some (.inr (.inl v0)), some (.inr (.inl v1)), some (.inr (.inl v2)), some (.inr (.inl v3)), some (.inr (.inl v4)), some (.inl v5), some (.inl x93), some (.inl x97), none]) (st' := [.inl (lg_cmp (x100.toInt64) (x97.toInt64))]) rfl ?_
      refine z_eq hk (z_row hL_law_7 54 rfl) (tgt := 897) rfl ?_ ?_
      · refine z_mask [true, true, true, true, true, true, false, false, false] rfl ?_
        exact gsL_law_897 F n hk he r28 hr28 v0 v1 v2 v3 v4 v5 σ98
      · refine z_run hk hL_law_7 55 1 (pc' := 896) (lv' := [some (.inr (.inl v0)), some (.inr (.inl v1)), some (.inr (.inl v2)), some (.inr (.inl v3)), some (.inr (.inl v4)), some (.inl v5), some (.inl x93), some (.inl x97), none]) (st' := [.inl 0]) rfl ?_
        exact z_zret (fin := zfW) (o := (0, σ98)) hk he (z_row hL_law_7 56 rfl) rfl
  · refine z_run hk hL_law_7 44 1 (pc' := 879) (lv' := [some (.inr (.inl v0)), some (.inr (.inl v1)), some (.inr (.inl v2)), some (.inr (.inl v3)), some (.inr (.inl v4)), some (.inl v5), some (.inl x93), some (.inl x97), none]) (st' := [.inl 0]) rfl ?_
    exact z_zret (fin := zfW) (o := (0, σ98)) hk he (z_row hL_law_7 45 rfl) rfl
theorem gsL_law_965 (F : zFx E) (n : Nat) (hk : zk E K "LotSalesLaw" cL_law 9 13) (he : zend E K (some .boolean) (cMe K).name) (r28 : Nat → Nat → Nat → Nat → Nat → Int32 → zW → Option (Int32 × zW)) (hr28 : ∀ (v0 : Nat) (v1 : Nat) (v2 : Nat) (v3 : Nat) (v4 : Nat) (v5 : Int32) (σ : zW), zG E K zfW (r28 v0 v1 v2 v3 v4 v5 σ) σ 28 [some (.inr (.inl v0)), some (.inr (.inl v1)), some (.inr (.inl v2)), some (.inr (.inl v3)), some (.inr (.inl v4)), some (.inl v5), none, none, none] []) (v0 : Nat) (v1 : Nat) (v2 : Nat) (v3 : Nat) (v4 : Nat) (v5 : Int32) (σ : zW) : zG E K zfW (sL_law_965 n r28 v0 v1 v2 v3 v4 v5 σ) σ 965 [some (.inr (.inl v0)), some (.inr (.inl v1)), some (.inr (.inl v2)), some (.inr (.inl v3)), some (.inr (.inl v4)), some (.inl v5), none, none, none] [] := by
  unfold sL_law_965
  refine z_goto hk (z_row hL_law_8 42 rfl) (tgt := 2620) rfl ?_
  exact gsL_law_2620 F n hk he r28 hr28 v0 v1 v2 v3 v4 v5 σ
theorem gsL_law_900 (F : zFx E) (n : Nat) (hk : zk E K "LotSalesLaw" cL_law 9 13) (he : zend E K (some .boolean) (cMe K).name) (r28 : Nat → Nat → Nat → Nat → Nat → Int32 → zW → Option (Int32 × zW)) (hr28 : ∀ (v0 : Nat) (v1 : Nat) (v2 : Nat) (v3 : Nat) (v4 : Nat) (v5 : Int32) (σ : zW), zG E K zfW (r28 v0 v1 v2 v3 v4 v5 σ) σ 28 [some (.inr (.inl v0)), some (.inr (.inl v1)), some (.inr (.inl v2)), some (.inr (.inl v3)), some (.inr (.inl v4)), some (.inl v5), none, none, none] []) (v0 : Nat) (v1 : Nat) (v2 : Nat) (v3 : Nat) (v4 : Nat) (v5 : Int32) (σ : zW) : zG E K zfW (sL_law_900 n r28 v0 v1 v2 v3 v4 v5 σ) σ 900 [some (.inr (.inl v0)), some (.inr (.inl v1)), some (.inr (.inl v2)), some (.inr (.inl v3)), some (.inr (.inl v4)), some (.inl v5), none, none, none] [] := by
  unfold sL_law_900
  refine z_run hk hL_law_7 58 2 (pc' := 902) (lv' := [some (.inr (.inl v0)), some (.inr (.inl v1)), some (.inr (.inl v2)), some (.inr (.inl v3)), some (.inr (.inl v4)), some (.inl v5), none, none, none]) (st' := [.inr (.inl v0), .inr (.inl v1)]) rfl ?_
  refine z_run hk hL_law_8 0 3 (pc' := 906) (lv' := [some (.inr (.inl v0)), some (.inr (.inl v1)), some (.inr (.inl v2)), some (.inr (.inl v3)), some (.inr (.inl v4)), some (.inl v5), none, none, none]) (st' := [.inl (v5 + 1), .inr (.inl v0), .inr (.inl v1)]) rfl ?_
  refine z_aI hk (z_row hL_law_8 3 rfl) (fun x101 => ?_)
  refine z_run hk hL_law_8 4 4 (pc' := 912) (lv' := [some (.inr (.inl v0)), some (.inr (.inl v1)), some (.inr (.inl v2)), some (.inr (.inl v3)), some (.inr (.inl v4)), some (.inl v5), none, none, none]) (st' := [.inl (v5 + 2), .inr (.inl v0), .inl x101, .inr (.inl v1)]) rfl ?_
  refine z_aI hk (z_row hL_law_8 8 rfl) (fun x102 => ?_)
  refine z_run hk hL_law_8 9 1 (pc' := 914) (lv' := [some (.inr (.inl v0)), some (.inr (.inl v1)), some (.inr (.inl v2)), some (.inr (.inl v3)), some (.inr (.inl v4)), some (.inl v5), none, none, none]) (st' := [.inr (.inl v3), .inl x102, .inl x101, .inr (.inl v1)]) rfl ?_
  refine kL_maximum F hk (z_row hL_law_8 10 rfl) wd_689 (by decide) (Nat.le_of_ble_eq_true rfl) (fun x103 σ104 => ?_)
  refine z_run hk hL_law_8 11 6 (pc' := 925) (lv' := [some (.inr (.inl v0)), some (.inr (.inl v1)), some (.inr (.inl v2)), some (.inr (.inl v3)), some (.inr (.inl v4)), some (.inl v5), some (.inl x103), none, none]) (st' := [.inl (v5 + 1), .inr (.inl v0), .inr (.inl v2)]) rfl ?_
  refine z_aI hk (z_row hL_law_8 17 rfl) (fun x105 => ?_)
  refine z_run hk hL_law_8 18 4 (pc' := 931) (lv' := [some (.inr (.inl v0)), some (.inr (.inl v1)), some (.inr (.inl v2)), some (.inr (.inl v3)), some (.inr (.inl v4)), some (.inl v5), some (.inl x103), none, none]) (st' := [.inl (v5 + 2), .inr (.inl v0), .inl x105, .inr (.inl v2)]) rfl ?_
  refine z_aI hk (z_row hL_law_8 22 rfl) (fun x106 => ?_)
  refine kX8_maximum F hk (z_row hL_law_8 23 rfl) wd_1299 (by decide) (Nat.le_of_ble_eq_true rfl) (fun x107 σ108 => ?_)
  refine z_run hk hL_law_8 24 2 (pc' := 938) (lv' := [some (.inr (.inl v0)), some (.inr (.inl v1)), some (.inr (.inl v2)), some (.inr (.inl v3)), some (.inr (.inl v4)), some (.inl v5), some (.inl x103), some (.inl x107), none]) (st' := [.inr (.inl v2)]) rfl ?_
  refine kX8_thrown F hk (z_row hL_law_8 26 rfl) wd_1112 (by decide) (Nat.le_of_ble_eq_true rfl) (fun x109 => ?_)
  refine z_run hk hL_law_8 27 1 (pc' := 943) (lv' := [some (.inr (.inl v0)), some (.inr (.inl v1)), some (.inr (.inl v2)), some (.inr (.inl v3)), some (.inr (.inl v4)), some (.inl v5), some (.inl x103), some (.inl x107), none]) (st' := [.inl x103, .inl x109]) rfl ?_
  refine z_ceq hk (z_row hL_law_8 28 rfl) (tgt := 948) rfl ?_ ?_
  · refine z_run hk hL_law_8 31 1 (pc' := 950) (lv' := [some (.inr (.inl v0)), some (.inr (.inl v1)), some (.inr (.inl v2)), some (.inr (.inl v3)), some (.inr (.inl v4)), some (.inl v5), some (.inl x103), some (.inl x107), none]) (st' := [.inl x103]) rfl ?_
    refine z_ne hk (z_row hL_law_8 32 rfl) (tgt := 965) rfl ?_ ?_
    · refine z_mask [true, true, true, true, true, true, false, false, false] rfl ?_
      exact gsL_law_965 F n hk he r28 hr28 v0 v1 v2 v3 v4 v5 σ108
    · refine z_run hk hL_law_8 33 2 (pc' := 955) (lv' := [some (.inr (.inl v0)), some (.inr (.inl v1)), some (.inr (.inl v2)), some (.inr (.inl v3)), some (.inr (.inl v4)), some (.inl v5), some (.inl x103), some (.inl x107), none]) (st' := [.inl 0, .inr (.inl v3)]) rfl ?_
      refine z_aL hk (z_row hL_law_8 35 rfl) (fun x110 => ?_)
      refine z_run hk hL_law_8 36 3 (pc' := 960) (lv' := [some (.inr (.inl v0)), some (.inr (.inl v1)), some (.inr (.inl v2)), some (.inr (.inl v3)), some (.inr (.inl v4)), some (.inl v5), some (.inl x103), some (.inl x107), none]) (st' := [.inl (lg_cmp (x110.toInt64) (x107.toInt64))]) rfl ?_
      refine z_eq hk (z_row hL_law_8 39 rfl) (tgt := 965) rfl ?_ ?_
      · refine z_mask [true, true, true, true, true, true, false, false, false] rfl ?_
        exact gsL_law_965 F n hk he r28 hr28 v0 v1 v2 v3 v4 v5 σ108
      · refine z_run hk hL_law_8 40 1 (pc' := 964) (lv' := [some (.inr (.inl v0)), some (.inr (.inl v1)), some (.inr (.inl v2)), some (.inr (.inl v3)), some (.inr (.inl v4)), some (.inl v5), some (.inl x103), some (.inl x107), none]) (st' := [.inl 0]) rfl ?_
        exact z_zret (fin := zfW) (o := (0, σ108)) hk he (z_row hL_law_8 41 rfl) rfl
  · refine z_run hk hL_law_8 29 1 (pc' := 947) (lv' := [some (.inr (.inl v0)), some (.inr (.inl v1)), some (.inr (.inl v2)), some (.inr (.inl v3)), some (.inr (.inl v4)), some (.inl v5), some (.inl x103), some (.inl x107), none]) (st' := [.inl 0]) rfl ?_
    exact z_zret (fin := zfW) (o := (0, σ108)) hk he (z_row hL_law_8 30 rfl) rfl
theorem gsL_law_1021 (F : zFx E) (n : Nat) (hk : zk E K "LotSalesLaw" cL_law 9 13) (he : zend E K (some .boolean) (cMe K).name) (r28 : Nat → Nat → Nat → Nat → Nat → Int32 → zW → Option (Int32 × zW)) (hr28 : ∀ (v0 : Nat) (v1 : Nat) (v2 : Nat) (v3 : Nat) (v4 : Nat) (v5 : Int32) (σ : zW), zG E K zfW (r28 v0 v1 v2 v3 v4 v5 σ) σ 28 [some (.inr (.inl v0)), some (.inr (.inl v1)), some (.inr (.inl v2)), some (.inr (.inl v3)), some (.inr (.inl v4)), some (.inl v5), none, none, none] []) (v0 : Nat) (v1 : Nat) (v2 : Nat) (v3 : Nat) (v4 : Nat) (v5 : Int32) (σ : zW) : zG E K zfW (sL_law_1021 n r28 v0 v1 v2 v3 v4 v5 σ) σ 1021 [some (.inr (.inl v0)), some (.inr (.inl v1)), some (.inr (.inl v2)), some (.inr (.inl v3)), some (.inr (.inl v4)), some (.inl v5), none, none, none] [] := by
  unfold sL_law_1021
  refine z_goto hk (z_row hL_law_9 17 rfl) (tgt := 2620) rfl ?_
  exact gsL_law_2620 F n hk he r28 hr28 v0 v1 v2 v3 v4 v5 σ
theorem gsL_law_968 (F : zFx E) (n : Nat) (hk : zk E K "LotSalesLaw" cL_law 9 13) (he : zend E K (some .boolean) (cMe K).name) (r28 : Nat → Nat → Nat → Nat → Nat → Int32 → zW → Option (Int32 × zW)) (hr28 : ∀ (v0 : Nat) (v1 : Nat) (v2 : Nat) (v3 : Nat) (v4 : Nat) (v5 : Int32) (σ : zW), zG E K zfW (r28 v0 v1 v2 v3 v4 v5 σ) σ 28 [some (.inr (.inl v0)), some (.inr (.inl v1)), some (.inr (.inl v2)), some (.inr (.inl v3)), some (.inr (.inl v4)), some (.inl v5), none, none, none] []) (v0 : Nat) (v1 : Nat) (v2 : Nat) (v3 : Nat) (v4 : Nat) (v5 : Int32) (σ : zW) : zG E K zfW (sL_law_968 n r28 v0 v1 v2 v3 v4 v5 σ) σ 968 [some (.inr (.inl v0)), some (.inr (.inl v1)), some (.inr (.inl v2)), some (.inr (.inl v3)), some (.inr (.inl v4)), some (.inl v5), none, none, none] [] := by
  unfold sL_law_968
  refine z_run hk hL_law_8 43 5 (pc' := 974) (lv' := [some (.inr (.inl v0)), some (.inr (.inl v1)), some (.inr (.inl v2)), some (.inr (.inl v3)), some (.inr (.inl v4)), some (.inl v5), none, none, none]) (st' := [.inl (v5 + 1), .inr (.inl v0), .inr (.inl v1)]) rfl ?_
  refine z_aI hk (z_row hL_law_8 48 rfl) (fun x111 => ?_)
  refine z_run hk hL_law_8 49 1 (pc' := 976) (lv' := [some (.inr (.inl v0)), some (.inr (.inl v1)), some (.inr (.inl v2)), some (.inr (.inl v3)), some (.inr (.inl v4)), some (.inl v5), none, none, none]) (st' := [.inr (.inl v3), .inl x111, .inr (.inl v1)]) rfl ?_
  refine kL_orders F hk (z_row hL_law_8 50 rfl) wd_696 (by decide) (Nat.le_of_ble_eq_true rfl) (fun x112 σ113 => ?_)
  refine z_run hk hL_law_8 51 6 (pc' := 987) (lv' := [some (.inr (.inl v0)), some (.inr (.inl v1)), some (.inr (.inl v2)), some (.inr (.inl v3)), some (.inr (.inl v4)), some (.inl v5), some (.inl x112), none, none]) (st' := [.inl (v5 + 1), .inr (.inl v0), .inr (.inl v2)]) rfl ?_
  refine z_aI hk (z_row hL_law_8 57 rfl) (fun x114 => ?_)
  refine kX8_orders F hk (z_row hL_law_8 58 rfl) wd_1303 (by decide) (Nat.le_of_ble_eq_true rfl) (fun x115 σ116 => ?_)
  refine z_run hk hL_law_8 59 1 (pc' := 993) (lv' := [some (.inr (.inl v0)), some (.inr (.inl v1)), some (.inr (.inl v2)), some (.inr (.inl v3)), some (.inr (.inl v4)), some (.inl v5), some (.inl x112), some (.inl x115), none]) (st' := []) rfl ?_
  refine z_run hk hL_law_9 0 1 (pc' := 994) (lv' := [some (.inr (.inl v0)), some (.inr (.inl v1)), some (.inr (.inl v2)), some (.inr (.inl v3)), some (.inr (.inl v4)), some (.inl v5), some (.inl x112), some (.inl x115), none]) (st' := [.inr (.inl v2)]) rfl ?_
  refine kX8_thrown F hk (z_row hL_law_9 1 rfl) wd_1112 (by decide) (Nat.le_of_ble_eq_true rfl) (fun x117 => ?_)
  refine z_run hk hL_law_9 2 1 (pc' := 999) (lv' := [some (.inr (.inl v0)), some (.inr (.inl v1)), some (.inr (.inl v2)), some (.inr (.inl v3)), some (.inr (.inl v4)), some (.inl v5), some (.inl x112), some (.inl x115), none]) (st' := [.inl x112, .inl x117]) rfl ?_
  refine z_ceq hk (z_row hL_law_9 3 rfl) (tgt := 1004) rfl ?_ ?_
  · refine z_run hk hL_law_9 6 1 (pc' := 1006) (lv' := [some (.inr (.inl v0)), some (.inr (.inl v1)), some (.inr (.inl v2)), some (.inr (.inl v3)), some (.inr (.inl v4)), some (.inl v5), some (.inl x112), some (.inl x115), none]) (st' := [.inl x112]) rfl ?_
    refine z_ne hk (z_row hL_law_9 7 rfl) (tgt := 1021) rfl ?_ ?_
    · refine z_mask [true, true, true, true, true, true, false, false, false] rfl ?_
      exact gsL_law_1021 F n hk he r28 hr28 v0 v1 v2 v3 v4 v5 σ116
    · refine z_run hk hL_law_9 8 2 (pc' := 1011) (lv' := [some (.inr (.inl v0)), some (.inr (.inl v1)), some (.inr (.inl v2)), some (.inr (.inl v3)), some (.inr (.inl v4)), some (.inl v5), some (.inl x112), some (.inl x115), none]) (st' := [.inl 0, .inr (.inl v3)]) rfl ?_
      refine z_aL hk (z_row hL_law_9 10 rfl) (fun x118 => ?_)
      refine z_run hk hL_law_9 11 3 (pc' := 1016) (lv' := [some (.inr (.inl v0)), some (.inr (.inl v1)), some (.inr (.inl v2)), some (.inr (.inl v3)), some (.inr (.inl v4)), some (.inl v5), some (.inl x112), some (.inl x115), none]) (st' := [.inl (lg_cmp (x118.toInt64) (x115.toInt64))]) rfl ?_
      refine z_eq hk (z_row hL_law_9 14 rfl) (tgt := 1021) rfl ?_ ?_
      · refine z_mask [true, true, true, true, true, true, false, false, false] rfl ?_
        exact gsL_law_1021 F n hk he r28 hr28 v0 v1 v2 v3 v4 v5 σ116
      · refine z_run hk hL_law_9 15 1 (pc' := 1020) (lv' := [some (.inr (.inl v0)), some (.inr (.inl v1)), some (.inr (.inl v2)), some (.inr (.inl v3)), some (.inr (.inl v4)), some (.inl v5), some (.inl x112), some (.inl x115), none]) (st' := [.inl 0]) rfl ?_
        exact z_zret (fin := zfW) (o := (0, σ116)) hk he (z_row hL_law_9 16 rfl) rfl
  · refine z_run hk hL_law_9 4 1 (pc' := 1003) (lv' := [some (.inr (.inl v0)), some (.inr (.inl v1)), some (.inr (.inl v2)), some (.inr (.inl v3)), some (.inr (.inl v4)), some (.inl v5), some (.inl x112), some (.inl x115), none]) (st' := [.inl 0]) rfl ?_
    exact z_zret (fin := zfW) (o := (0, σ116)) hk he (z_row hL_law_9 5 rfl) rfl
theorem gsL_law_1077 (F : zFx E) (n : Nat) (hk : zk E K "LotSalesLaw" cL_law 9 13) (he : zend E K (some .boolean) (cMe K).name) (r28 : Nat → Nat → Nat → Nat → Nat → Int32 → zW → Option (Int32 × zW)) (hr28 : ∀ (v0 : Nat) (v1 : Nat) (v2 : Nat) (v3 : Nat) (v4 : Nat) (v5 : Int32) (σ : zW), zG E K zfW (r28 v0 v1 v2 v3 v4 v5 σ) σ 28 [some (.inr (.inl v0)), some (.inr (.inl v1)), some (.inr (.inl v2)), some (.inr (.inl v3)), some (.inr (.inl v4)), some (.inl v5), none, none, none] []) (v0 : Nat) (v1 : Nat) (v2 : Nat) (v3 : Nat) (v4 : Nat) (v5 : Int32) (σ : zW) : zG E K zfW (sL_law_1077 n r28 v0 v1 v2 v3 v4 v5 σ) σ 1077 [some (.inr (.inl v0)), some (.inr (.inl v1)), some (.inr (.inl v2)), some (.inr (.inl v3)), some (.inr (.inl v4)), some (.inl v5), none, none, none] [] := by
  unfold sL_law_1077
  refine z_goto hk (z_row hL_law_9 52 rfl) (tgt := 2620) rfl ?_
  exact gsL_law_2620 F n hk he r28 hr28 v0 v1 v2 v3 v4 v5 σ
theorem gsL_law_1024 (F : zFx E) (n : Nat) (hk : zk E K "LotSalesLaw" cL_law 9 13) (he : zend E K (some .boolean) (cMe K).name) (r28 : Nat → Nat → Nat → Nat → Nat → Int32 → zW → Option (Int32 × zW)) (hr28 : ∀ (v0 : Nat) (v1 : Nat) (v2 : Nat) (v3 : Nat) (v4 : Nat) (v5 : Int32) (σ : zW), zG E K zfW (r28 v0 v1 v2 v3 v4 v5 σ) σ 28 [some (.inr (.inl v0)), some (.inr (.inl v1)), some (.inr (.inl v2)), some (.inr (.inl v3)), some (.inr (.inl v4)), some (.inl v5), none, none, none] []) (v0 : Nat) (v1 : Nat) (v2 : Nat) (v3 : Nat) (v4 : Nat) (v5 : Int32) (σ : zW) : zG E K zfW (sL_law_1024 n r28 v0 v1 v2 v3 v4 v5 σ) σ 1024 [some (.inr (.inl v0)), some (.inr (.inl v1)), some (.inr (.inl v2)), some (.inr (.inl v3)), some (.inr (.inl v4)), some (.inl v5), none, none, none] [] := by
  unfold sL_law_1024
  refine z_run hk hL_law_9 18 5 (pc' := 1030) (lv' := [some (.inr (.inl v0)), some (.inr (.inl v1)), some (.inr (.inl v2)), some (.inr (.inl v3)), some (.inr (.inl v4)), some (.inl v5), none, none, none]) (st' := [.inl (v5 + 1), .inr (.inl v0), .inr (.inl v1)]) rfl ?_
  refine z_aI hk (z_row hL_law_9 23 rfl) (fun x119 => ?_)
  refine z_run hk hL_law_9 24 1 (pc' := 1032) (lv' := [some (.inr (.inl v0)), some (.inr (.inl v1)), some (.inr (.inl v2)), some (.inr (.inl v3)), some (.inr (.inl v4)), some (.inl v5), none, none, none]) (st' := [.inr (.inl v3), .inl x119, .inr (.inl v1)]) rfl ?_
  refine kL_open F hk (z_row hL_law_9 25 rfl) wd_704 (by decide) (Nat.le_of_ble_eq_true rfl) (fun x120 σ121 => ?_)
  refine z_run hk hL_law_9 26 6 (pc' := 1043) (lv' := [some (.inr (.inl v0)), some (.inr (.inl v1)), some (.inr (.inl v2)), some (.inr (.inl v3)), some (.inr (.inl v4)), some (.inl v5), some (.inl x120), none, none]) (st' := [.inl (v5 + 1), .inr (.inl v0), .inr (.inl v2)]) rfl ?_
  refine z_aI hk (z_row hL_law_9 32 rfl) (fun x122 => ?_)
  refine kX8_open F hk (z_row hL_law_9 33 rfl) wd_1307 (by decide) (Nat.le_of_ble_eq_true rfl) (fun x123 σ124 => ?_)
  refine z_run hk hL_law_9 34 2 (pc' := 1050) (lv' := [some (.inr (.inl v0)), some (.inr (.inl v1)), some (.inr (.inl v2)), some (.inr (.inl v3)), some (.inr (.inl v4)), some (.inl v5), some (.inl x120), some (.inl x123), none]) (st' := [.inr (.inl v2)]) rfl ?_
  refine kX8_thrown F hk (z_row hL_law_9 36 rfl) wd_1112 (by decide) (Nat.le_of_ble_eq_true rfl) (fun x125 => ?_)
  refine z_run hk hL_law_9 37 1 (pc' := 1055) (lv' := [some (.inr (.inl v0)), some (.inr (.inl v1)), some (.inr (.inl v2)), some (.inr (.inl v3)), some (.inr (.inl v4)), some (.inl v5), some (.inl x120), some (.inl x123), none]) (st' := [.inl x120, .inl x125]) rfl ?_
  refine z_ceq hk (z_row hL_law_9 38 rfl) (tgt := 1060) rfl ?_ ?_
  · refine z_run hk hL_law_9 41 1 (pc' := 1062) (lv' := [some (.inr (.inl v0)), some (.inr (.inl v1)), some (.inr (.inl v2)), some (.inr (.inl v3)), some (.inr (.inl v4)), some (.inl v5), some (.inl x120), some (.inl x123), none]) (st' := [.inl x120]) rfl ?_
    refine z_ne hk (z_row hL_law_9 42 rfl) (tgt := 1077) rfl ?_ ?_
    · refine z_mask [true, true, true, true, true, true, false, false, false] rfl ?_
      exact gsL_law_1077 F n hk he r28 hr28 v0 v1 v2 v3 v4 v5 σ124
    · refine z_run hk hL_law_9 43 2 (pc' := 1067) (lv' := [some (.inr (.inl v0)), some (.inr (.inl v1)), some (.inr (.inl v2)), some (.inr (.inl v3)), some (.inr (.inl v4)), some (.inl v5), some (.inl x120), some (.inl x123), none]) (st' := [.inl 0, .inr (.inl v3)]) rfl ?_
      refine z_aL hk (z_row hL_law_9 45 rfl) (fun x126 => ?_)
      refine z_run hk hL_law_9 46 3 (pc' := 1072) (lv' := [some (.inr (.inl v0)), some (.inr (.inl v1)), some (.inr (.inl v2)), some (.inr (.inl v3)), some (.inr (.inl v4)), some (.inl v5), some (.inl x120), some (.inl x123), none]) (st' := [.inl (lg_cmp (x126.toInt64) (x123.toInt64))]) rfl ?_
      refine z_eq hk (z_row hL_law_9 49 rfl) (tgt := 1077) rfl ?_ ?_
      · refine z_mask [true, true, true, true, true, true, false, false, false] rfl ?_
        exact gsL_law_1077 F n hk he r28 hr28 v0 v1 v2 v3 v4 v5 σ124
      · refine z_run hk hL_law_9 50 1 (pc' := 1076) (lv' := [some (.inr (.inl v0)), some (.inr (.inl v1)), some (.inr (.inl v2)), some (.inr (.inl v3)), some (.inr (.inl v4)), some (.inl v5), some (.inl x120), some (.inl x123), none]) (st' := [.inl 0]) rfl ?_
        exact z_zret (fin := zfW) (o := (0, σ124)) hk he (z_row hL_law_9 51 rfl) rfl
  · refine z_run hk hL_law_9 39 1 (pc' := 1059) (lv' := [some (.inr (.inl v0)), some (.inr (.inl v1)), some (.inr (.inl v2)), some (.inr (.inl v3)), some (.inr (.inl v4)), some (.inl v5), some (.inl x120), some (.inl x123), none]) (st' := [.inl 0]) rfl ?_
    exact z_zret (fin := zfW) (o := (0, σ124)) hk he (z_row hL_law_9 40 rfl) rfl
theorem gsL_law_1157 (F : zFx E) (n : Nat) (hk : zk E K "LotSalesLaw" cL_law 9 13) (he : zend E K (some .boolean) (cMe K).name) (r28 : Nat → Nat → Nat → Nat → Nat → Int32 → zW → Option (Int32 × zW)) (hr28 : ∀ (v0 : Nat) (v1 : Nat) (v2 : Nat) (v3 : Nat) (v4 : Nat) (v5 : Int32) (σ : zW), zG E K zfW (r28 v0 v1 v2 v3 v4 v5 σ) σ 28 [some (.inr (.inl v0)), some (.inr (.inl v1)), some (.inr (.inl v2)), some (.inr (.inl v3)), some (.inr (.inl v4)), some (.inl v5), none, none, none] []) (v0 : Nat) (v1 : Nat) (v2 : Nat) (v3 : Nat) (v4 : Nat) (v5 : Int32) (σ : zW) : zG E K zfW (sL_law_1157 n r28 v0 v1 v2 v3 v4 v5 σ) σ 1157 [some (.inr (.inl v0)), some (.inr (.inl v1)), some (.inr (.inl v2)), some (.inr (.inl v3)), some (.inr (.inl v4)), some (.inl v5), none, none, none] [] := by
  unfold sL_law_1157
  refine z_goto hk (z_row hL_law_10 47 rfl) (tgt := 2620) rfl ?_
  exact gsL_law_2620 F n hk he r28 hr28 v0 v1 v2 v3 v4 v5 σ
theorem gsL_law_1080 (F : zFx E) (n : Nat) (hk : zk E K "LotSalesLaw" cL_law 9 13) (he : zend E K (some .boolean) (cMe K).name) (r28 : Nat → Nat → Nat → Nat → Nat → Int32 → zW → Option (Int32 × zW)) (hr28 : ∀ (v0 : Nat) (v1 : Nat) (v2 : Nat) (v3 : Nat) (v4 : Nat) (v5 : Int32) (σ : zW), zG E K zfW (r28 v0 v1 v2 v3 v4 v5 σ) σ 28 [some (.inr (.inl v0)), some (.inr (.inl v1)), some (.inr (.inl v2)), some (.inr (.inl v3)), some (.inr (.inl v4)), some (.inl v5), none, none, none] []) (v0 : Nat) (v1 : Nat) (v2 : Nat) (v3 : Nat) (v4 : Nat) (v5 : Int32) (σ : zW) : zG E K zfW (sL_law_1080 n r28 v0 v1 v2 v3 v4 v5 σ) σ 1080 [some (.inr (.inl v0)), some (.inr (.inl v1)), some (.inr (.inl v2)), some (.inr (.inl v3)), some (.inr (.inl v4)), some (.inl v5), none, none, none] [] := by
  unfold sL_law_1080
  refine z_run hk hL_law_9 53 5 (pc' := 1086) (lv' := [some (.inr (.inl v0)), some (.inr (.inl v1)), some (.inr (.inl v2)), some (.inr (.inl v3)), some (.inr (.inl v4)), some (.inl v5), none, none, none]) (st' := [.inl (v5 + 1), .inr (.inl v0), .inr (.inl v1)]) rfl ?_
  refine z_aI hk (z_row hL_law_9 58 rfl) (fun x127 => ?_)
  refine z_run hk hL_law_9 59 1 (pc' := 1088) (lv' := [some (.inr (.inl v0)), some (.inr (.inl v1)), some (.inr (.inl v2)), some (.inr (.inl v3)), some (.inr (.inl v4)), some (.inl v5), none, none, none]) (st' := [.inr (.inl v0), .inl x127, .inr (.inl v1)]) rfl ?_
  refine z_run hk hL_law_10 0 3 (pc' := 1092) (lv' := [some (.inr (.inl v0)), some (.inr (.inl v1)), some (.inr (.inl v2)), some (.inr (.inl v3)), some (.inr (.inl v4)), some (.inl v5), none, none, none]) (st' := [.inl (v5 + 2), .inr (.inl v0), .inl x127, .inr (.inl v1)]) rfl ?_
  refine z_aI hk (z_row hL_law_10 3 rfl) (fun x128 => ?_)
  refine z_run hk hL_law_10 4 4 (pc' := 1098) (lv' := [some (.inr (.inl v0)), some (.inr (.inl v1)), some (.inr (.inl v2)), some (.inr (.inl v3)), some (.inr (.inl v4)), some (.inl v5), none, none, none]) (st' := [.inl (v5 + 3), .inr (.inl v0), .inl x128, .inl x127, .inr (.inl v1)]) rfl ?_
  refine z_aI hk (z_row hL_law_10 8 rfl) (fun x129 => ?_)
  refine z_run hk hL_law_10 9 1 (pc' := 1100) (lv' := [some (.inr (.inl v0)), some (.inr (.inl v1)), some (.inr (.inl v2)), some (.inr (.inl v3)), some (.inr (.inl v4)), some (.inl v5), none, none, none]) (st' := [.inr (.inl v3), .inl x129, .inl x128, .inl x127, .inr (.inl v1)]) rfl ?_
  refine kL_bid F hk (z_row hL_law_10 10 rfl) wd_736 (by decide) (Nat.le_of_ble_eq_true rfl) (fun x130 σ131 => ?_)
  refine z_run hk hL_law_10 11 6 (pc' := 1111) (lv' := [some (.inr (.inl v0)), some (.inr (.inl v1)), some (.inr (.inl v2)), some (.inr (.inl v3)), some (.inr (.inl v4)), some (.inl v5), some (.inl x130), none, none]) (st' := [.inl (v5 + 1), .inr (.inl v0), .inr (.inl v2)]) rfl ?_
  refine z_aI hk (z_row hL_law_10 17 rfl) (fun x132 => ?_)
  refine z_run hk hL_law_10 18 4 (pc' := 1117) (lv' := [some (.inr (.inl v0)), some (.inr (.inl v1)), some (.inr (.inl v2)), some (.inr (.inl v3)), some (.inr (.inl v4)), some (.inl v5), some (.inl x130), none, none]) (st' := [.inl (v5 + 2), .inr (.inl v0), .inl x132, .inr (.inl v2)]) rfl ?_
  refine z_aI hk (z_row hL_law_10 22 rfl) (fun x133 => ?_)
  refine z_run hk hL_law_10 23 4 (pc' := 1123) (lv' := [some (.inr (.inl v0)), some (.inr (.inl v1)), some (.inr (.inl v2)), some (.inr (.inl v3)), some (.inr (.inl v4)), some (.inl v5), some (.inl x130), none, none]) (st' := [.inl (v5 + 3), .inr (.inl v0), .inl x133, .inl x132, .inr (.inl v2)]) rfl ?_
  refine z_aI hk (z_row hL_law_10 27 rfl) (fun x134 => ?_)
  refine kX8_bid F hk (z_row hL_law_10 28 rfl) wd_1337 (by decide) (Nat.le_of_ble_eq_true rfl) (fun x135 σ136 => ?_)
  refine z_run hk hL_law_10 29 2 (pc' := 1130) (lv' := [some (.inr (.inl v0)), some (.inr (.inl v1)), some (.inr (.inl v2)), some (.inr (.inl v3)), some (.inr (.inl v4)), some (.inl v5), some (.inl x130), some (.inl x135), none]) (st' := [.inr (.inl v2)]) rfl ?_
  refine kX8_thrown F hk (z_row hL_law_10 31 rfl) wd_1112 (by decide) (Nat.le_of_ble_eq_true rfl) (fun x137 => ?_)
  refine z_run hk hL_law_10 32 1 (pc' := 1135) (lv' := [some (.inr (.inl v0)), some (.inr (.inl v1)), some (.inr (.inl v2)), some (.inr (.inl v3)), some (.inr (.inl v4)), some (.inl v5), some (.inl x130), some (.inl x135), none]) (st' := [.inl x130, .inl x137]) rfl ?_
  refine z_ceq hk (z_row hL_law_10 33 rfl) (tgt := 1140) rfl ?_ ?_
  · refine z_run hk hL_law_10 36 1 (pc' := 1142) (lv' := [some (.inr (.inl v0)), some (.inr (.inl v1)), some (.inr (.inl v2)), some (.inr (.inl v3)), some (.inr (.inl v4)), some (.inl v5), some (.inl x130), some (.inl x135), none]) (st' := [.inl x130]) rfl ?_
    refine z_ne hk (z_row hL_law_10 37 rfl) (tgt := 1157) rfl ?_ ?_
    · refine z_mask [true, true, true, true, true, true, false, false, false] rfl ?_
      exact gsL_law_1157 F n hk he r28 hr28 v0 v1 v2 v3 v4 v5 σ136
    · refine z_run hk hL_law_10 38 2 (pc' := 1147) (lv' := [some (.inr (.inl v0)), some (.inr (.inl v1)), some (.inr (.inl v2)), some (.inr (.inl v3)), some (.inr (.inl v4)), some (.inl v5), some (.inl x130), some (.inl x135), none]) (st' := [.inl 0, .inr (.inl v3)]) rfl ?_
      refine z_aL hk (z_row hL_law_10 40 rfl) (fun x138 => ?_)
      refine z_run hk hL_law_10 41 3 (pc' := 1152) (lv' := [some (.inr (.inl v0)), some (.inr (.inl v1)), some (.inr (.inl v2)), some (.inr (.inl v3)), some (.inr (.inl v4)), some (.inl v5), some (.inl x130), some (.inl x135), none]) (st' := [.inl (lg_cmp (x138.toInt64) (x135.toInt64))]) rfl ?_
      refine z_eq hk (z_row hL_law_10 44 rfl) (tgt := 1157) rfl ?_ ?_
      · refine z_mask [true, true, true, true, true, true, false, false, false] rfl ?_
        exact gsL_law_1157 F n hk he r28 hr28 v0 v1 v2 v3 v4 v5 σ136
      · refine z_run hk hL_law_10 45 1 (pc' := 1156) (lv' := [some (.inr (.inl v0)), some (.inr (.inl v1)), some (.inr (.inl v2)), some (.inr (.inl v3)), some (.inr (.inl v4)), some (.inl v5), some (.inl x130), some (.inl x135), none]) (st' := [.inl 0]) rfl ?_
        exact z_zret (fin := zfW) (o := (0, σ136)) hk he (z_row hL_law_10 46 rfl) rfl
  · refine z_run hk hL_law_10 34 1 (pc' := 1139) (lv' := [some (.inr (.inl v0)), some (.inr (.inl v1)), some (.inr (.inl v2)), some (.inr (.inl v3)), some (.inr (.inl v4)), some (.inl v5), some (.inl x130), some (.inl x135), none]) (st' := [.inl 0]) rfl ?_
    exact z_zret (fin := zfW) (o := (0, σ136)) hk he (z_row hL_law_10 35 rfl) rfl
theorem gsL_law_1201 (F : zFx E) (n : Nat) (hk : zk E K "LotSalesLaw" cL_law 9 13) (he : zend E K (some .boolean) (cMe K).name) (r28 : Nat → Nat → Nat → Nat → Nat → Int32 → zW → Option (Int32 × zW)) (hr28 : ∀ (v0 : Nat) (v1 : Nat) (v2 : Nat) (v3 : Nat) (v4 : Nat) (v5 : Int32) (σ : zW), zG E K zfW (r28 v0 v1 v2 v3 v4 v5 σ) σ 28 [some (.inr (.inl v0)), some (.inr (.inl v1)), some (.inr (.inl v2)), some (.inr (.inl v3)), some (.inr (.inl v4)), some (.inl v5), none, none, none] []) (v0 : Nat) (v1 : Nat) (v2 : Nat) (v3 : Nat) (v4 : Nat) (v5 : Int32) (σ : zW) : zG E K zfW (sL_law_1201 n r28 v0 v1 v2 v3 v4 v5 σ) σ 1201 [some (.inr (.inl v0)), some (.inr (.inl v1)), some (.inr (.inl v2)), some (.inr (.inl v3)), some (.inr (.inl v4)), some (.inl v5), none, none, none] [] := by
  unfold sL_law_1201
  refine z_goto hk (z_row hL_law_11 12 rfl) (tgt := 2620) rfl ?_
  exact gsL_law_2620 F n hk he r28 hr28 v0 v1 v2 v3 v4 v5 σ
theorem gsL_law_1160 (F : zFx E) (n : Nat) (hk : zk E K "LotSalesLaw" cL_law 9 13) (he : zend E K (some .boolean) (cMe K).name) (r28 : Nat → Nat → Nat → Nat → Nat → Int32 → zW → Option (Int32 × zW)) (hr28 : ∀ (v0 : Nat) (v1 : Nat) (v2 : Nat) (v3 : Nat) (v4 : Nat) (v5 : Int32) (σ : zW), zG E K zfW (r28 v0 v1 v2 v3 v4 v5 σ) σ 28 [some (.inr (.inl v0)), some (.inr (.inl v1)), some (.inr (.inl v2)), some (.inr (.inl v3)), some (.inr (.inl v4)), some (.inl v5), none, none, none] []) (v0 : Nat) (v1 : Nat) (v2 : Nat) (v3 : Nat) (v4 : Nat) (v5 : Int32) (σ : zW) : zG E K zfW (sL_law_1160 n r28 v0 v1 v2 v3 v4 v5 σ) σ 1160 [some (.inr (.inl v0)), some (.inr (.inl v1)), some (.inr (.inl v2)), some (.inr (.inl v3)), some (.inr (.inl v4)), some (.inl v5), none, none, none] [] := by
  unfold sL_law_1160
  refine z_run hk hL_law_10 48 2 (pc' := 1162) (lv' := [some (.inr (.inl v0)), some (.inr (.inl v1)), some (.inr (.inl v2)), some (.inr (.inl v3)), some (.inr (.inl v4)), some (.inl v5), none, none, none]) (st' := [.inr (.inl v3), .inr (.inl v1)]) rfl ?_
  refine kL_refusal F hk (z_row hL_law_10 50 rfl) wd_760 (by decide) (Nat.le_of_ble_eq_true rfl) (fun x139 σ140 => ?_)
  refine z_run hk hL_law_10 51 2 (pc' := 1168) (lv' := [some (.inr (.inl v0)), some (.inr (.inl v1)), some (.inr (.inl v2)), some (.inr (.inl v3)), some (.inr (.inl v4)), some (.inl v5), some (.inl x139), none, none]) (st' := [.inr (.inl v2)]) rfl ?_
  refine kX8_refusal F hk (z_row hL_law_10 53 rfl) wd_1364 (by decide) (Nat.le_of_ble_eq_true rfl) (fun x141 σ142 => ?_)
  refine z_run hk hL_law_10 54 2 (pc' := 1174) (lv' := [some (.inr (.inl v0)), some (.inr (.inl v1)), some (.inr (.inl v2)), some (.inr (.inl v3)), some (.inr (.inl v4)), some (.inl v5), some (.inl x139), some (.inl x141), none]) (st' := [.inr (.inl v2)]) rfl ?_
  refine kX8_thrown F hk (z_row hL_law_10 56 rfl) wd_1112 (by decide) (Nat.le_of_ble_eq_true rfl) (fun x143 => ?_)
  refine z_run hk hL_law_10 57 1 (pc' := 1179) (lv' := [some (.inr (.inl v0)), some (.inr (.inl v1)), some (.inr (.inl v2)), some (.inr (.inl v3)), some (.inr (.inl v4)), some (.inl v5), some (.inl x139), some (.inl x141), none]) (st' := [.inl x139, .inl x143]) rfl ?_
  refine z_ceq hk (z_row hL_law_10 58 rfl) (tgt := 1184) rfl ?_ ?_
  · refine z_run hk hL_law_11 1 1 (pc' := 1186) (lv' := [some (.inr (.inl v0)), some (.inr (.inl v1)), some (.inr (.inl v2)), some (.inr (.inl v3)), some (.inr (.inl v4)), some (.inl v5), some (.inl x139), some (.inl x141), none]) (st' := [.inl x139]) rfl ?_
    refine z_ne hk (z_row hL_law_11 2 rfl) (tgt := 1201) rfl ?_ ?_
    · refine z_mask [true, true, true, true, true, true, false, false, false] rfl ?_
      exact gsL_law_1201 F n hk he r28 hr28 v0 v1 v2 v3 v4 v5 σ142
    · refine z_run hk hL_law_11 3 2 (pc' := 1191) (lv' := [some (.inr (.inl v0)), some (.inr (.inl v1)), some (.inr (.inl v2)), some (.inr (.inl v3)), some (.inr (.inl v4)), some (.inl v5), some (.inl x139), some (.inl x141), none]) (st' := [.inl 0, .inr (.inl v3)]) rfl ?_
      refine z_aL hk (z_row hL_law_11 5 rfl) (fun x144 => ?_)
      refine z_run hk hL_law_11 6 3 (pc' := 1196) (lv' := [some (.inr (.inl v0)), some (.inr (.inl v1)), some (.inr (.inl v2)), some (.inr (.inl v3)), some (.inr (.inl v4)), some (.inl v5), some (.inl x139), some (.inl x141), none]) (st' := [.inl (lg_cmp (x144.toInt64) (x141.toInt64))]) rfl ?_
      refine z_eq hk (z_row hL_law_11 9 rfl) (tgt := 1201) rfl ?_ ?_
      · refine z_mask [true, true, true, true, true, true, false, false, false] rfl ?_
        exact gsL_law_1201 F n hk he r28 hr28 v0 v1 v2 v3 v4 v5 σ142
      · refine z_run hk hL_law_11 10 1 (pc' := 1200) (lv' := [some (.inr (.inl v0)), some (.inr (.inl v1)), some (.inr (.inl v2)), some (.inr (.inl v3)), some (.inr (.inl v4)), some (.inl v5), some (.inl x139), some (.inl x141), none]) (st' := [.inl 0]) rfl ?_
        exact z_zret (fin := zfW) (o := (0, σ142)) hk he (z_row hL_law_11 11 rfl) rfl
  · refine z_run hk hL_law_10 59 1 (pc' := 1183) (lv' := [some (.inr (.inl v0)), some (.inr (.inl v1)), some (.inr (.inl v2)), some (.inr (.inl v3)), some (.inr (.inl v4)), some (.inl v5), some (.inl x139), some (.inl x141), none]) (st' := [.inl 0]) rfl ?_
    exact z_zret (fin := zfW) (o := (0, σ142)) hk he (z_row hL_law_11 0 rfl) rfl
theorem gsL_law_1309 (F : zFx E) (n : Nat) (hk : zk E K "LotSalesLaw" cL_law 9 13) (he : zend E K (some .boolean) (cMe K).name) (r28 : Nat → Nat → Nat → Nat → Nat → Int32 → zW → Option (Int32 × zW)) (hr28 : ∀ (v0 : Nat) (v1 : Nat) (v2 : Nat) (v3 : Nat) (v4 : Nat) (v5 : Int32) (σ : zW), zG E K zfW (r28 v0 v1 v2 v3 v4 v5 σ) σ 28 [some (.inr (.inl v0)), some (.inr (.inl v1)), some (.inr (.inl v2)), some (.inr (.inl v3)), some (.inr (.inl v4)), some (.inl v5), none, none, none] []) (v0 : Nat) (v1 : Nat) (v2 : Nat) (v3 : Nat) (v4 : Nat) (v5 : Int32) (σ : zW) : zG E K zfW (sL_law_1309 n r28 v0 v1 v2 v3 v4 v5 σ) σ 1309 [some (.inr (.inl v0)), some (.inr (.inl v1)), some (.inr (.inl v2)), some (.inr (.inl v3)), some (.inr (.inl v4)), some (.inl v5), none, none, none] [] := by
  unfold sL_law_1309
  refine z_goto hk (z_row hL_law_12 25 rfl) (tgt := 2620) rfl ?_
  exact gsL_law_2620 F n hk he r28 hr28 v0 v1 v2 v3 v4 v5 σ
theorem gsL_law_1258 (F : zFx E) (n : Nat) (hk : zk E K "LotSalesLaw" cL_law 9 13) (he : zend E K (some .boolean) (cMe K).name) (r28 : Nat → Nat → Nat → Nat → Nat → Int32 → zW → Option (Int32 × zW)) (hr28 : ∀ (v0 : Nat) (v1 : Nat) (v2 : Nat) (v3 : Nat) (v4 : Nat) (v5 : Int32) (σ : zW), zG E K zfW (r28 v0 v1 v2 v3 v4 v5 σ) σ 28 [some (.inr (.inl v0)), some (.inr (.inl v1)), some (.inr (.inl v2)), some (.inr (.inl v3)), some (.inr (.inl v4)), some (.inl v5), none, none, none] []) (v0 : Nat) (v1 : Nat) (v2 : Nat) (v3 : Nat) (v4 : Nat) (v5 : Int32) (v6 : Int32) (y0 : Nat) (y1 : Int32) (σ : zW) : zG E K zfW (sL_law_1258 n r28 v0 v1 v2 v3 v4 v5 v6 y0 y1 σ) σ 1258 [some (.inr (.inl v0)), some (.inr (.inl v1)), some (.inr (.inl v2)), some (.inr (.inl v3)), some (.inr (.inl v4)), some (.inl v5), some (.inl v6), none, none] [.inl y1, .inr (.inl y0)] := by
  unfold sL_law_1258
  refine z_run hk hL_law_11 51 4 (pc' := 1263) (lv' := [some (.inr (.inl v0)), some (.inr (.inl v1)), some (.inr (.inl v2)), some (.inr (.inl v3)), some (.inr (.inl v4)), some (.inl v5), some (.inl v6), none, none]) (st' := [.inl (v5 + 2), .inr (.inl v0), .inl y1, .inr (.inl y0)]) rfl ?_
  refine z_aI hk (z_row hL_law_11 55 rfl) (fun x145 => ?_)
  refine z_run hk hL_law_11 56 4 (pc' := 1269) (lv' := [some (.inr (.inl v0)), some (.inr (.inl v1)), some (.inr (.inl v2)), some (.inr (.inl v3)), some (.inr (.inl v4)), some (.inl v5), some (.inl v6), none, none]) (st' := [.inl (v5 + 3), .inr (.inl v0), .inl x145, .inl y1, .inr (.inl y0)]) rfl ?_
  refine z_aI hk (z_row hL_law_12 0 rfl) (fun x146 => ?_)
  refine z_run hk hL_law_12 1 4 (pc' := 1275) (lv' := [some (.inr (.inl v0)), some (.inr (.inl v1)), some (.inr (.inl v2)), some (.inr (.inl v3)), some (.inr (.inl v4)), some (.inl v5), some (.inl v6), none, none]) (st' := [.inl (v5 + 4), .inr (.inl v0), .inl x146, .inl x145, .inl y1, .inr (.inl y0)]) rfl ?_
  refine z_aI hk (z_row hL_law_12 5 rfl) (fun x147 => ?_)
  refine kX8_wouldRefuse F hk (z_row hL_law_12 6 rfl) wd_1368 (by decide) (Nat.le_of_ble_eq_true rfl) (fun x148 σ149 => ?_)
  refine z_run hk hL_law_12 7 2 (pc' := 1282) (lv' := [some (.inr (.inl v0)), some (.inr (.inl v1)), some (.inr (.inl v2)), some (.inr (.inl v3)), some (.inr (.inl v4)), some (.inl v5), some (.inl v6), some (.inl x148), none]) (st' := [.inr (.inl v2)]) rfl ?_
  refine kX8_thrown F hk (z_row hL_law_12 9 rfl) wd_1112 (by decide) (Nat.le_of_ble_eq_true rfl) (fun x150 => ?_)
  refine z_run hk hL_law_12 10 1 (pc' := 1287) (lv' := [some (.inr (.inl v0)), some (.inr (.inl v1)), some (.inr (.inl v2)), some (.inr (.inl v3)), some (.inr (.inl v4)), some (.inl v5), some (.inl v6), some (.inl x148), none]) (st' := [.inl v6, .inl x150]) rfl ?_
  refine z_ceq hk (z_row hL_law_12 11 rfl) (tgt := 1292) rfl ?_ ?_
  · refine z_run hk hL_law_12 14 1 (pc' := 1294) (lv' := [some (.inr (.inl v0)), some (.inr (.inl v1)), some (.inr (.inl v2)), some (.inr (.inl v3)), some (.inr (.inl v4)), some (.inl v5), some (.inl v6), some (.inl x148), none]) (st' := [.inl v6]) rfl ?_
    refine z_ne hk (z_row hL_law_12 15 rfl) (tgt := 1309) rfl ?_ ?_
    · refine z_mask [true, true, true, true, true, true, false, false, false] rfl ?_
      exact gsL_law_1309 F n hk he r28 hr28 v0 v1 v2 v3 v4 v5 σ149
    · refine z_run hk hL_law_12 16 2 (pc' := 1299) (lv' := [some (.inr (.inl v0)), some (.inr (.inl v1)), some (.inr (.inl v2)), some (.inr (.inl v3)), some (.inr (.inl v4)), some (.inl v5), some (.inl v6), some (.inl x148), none]) (st' := [.inl 0, .inr (.inl v3)]) rfl ?_
      refine z_aL hk (z_row hL_law_12 18 rfl) (fun x151 => ?_)
      refine z_run hk hL_law_12 19 3 (pc' := 1304) (lv' := [some (.inr (.inl v0)), some (.inr (.inl v1)), some (.inr (.inl v2)), some (.inr (.inl v3)), some (.inr (.inl v4)), some (.inl v5), some (.inl v6), some (.inl x148), none]) (st' := [.inl (lg_cmp (x151.toInt64) (x148.toInt64))]) rfl ?_
      refine z_eq hk (z_row hL_law_12 22 rfl) (tgt := 1309) rfl ?_ ?_
      · refine z_mask [true, true, true, true, true, true, false, false, false] rfl ?_
        exact gsL_law_1309 F n hk he r28 hr28 v0 v1 v2 v3 v4 v5 σ149
      · refine z_run hk hL_law_12 23 1 (pc' := 1308) (lv' := [some (.inr (.inl v0)), some (.inr (.inl v1)), some (.inr (.inl v2)), some (.inr (.inl v3)), some (.inr (.inl v4)), some (.inl v5), some (.inl v6), some (.inl x148), none]) (st' := [.inl 0]) rfl ?_
        exact z_zret (fin := zfW) (o := (0, σ149)) hk he (z_row hL_law_12 24 rfl) rfl
  · refine z_run hk hL_law_12 12 1 (pc' := 1291) (lv' := [some (.inr (.inl v0)), some (.inr (.inl v1)), some (.inr (.inl v2)), some (.inr (.inl v3)), some (.inr (.inl v4)), some (.inl v5), some (.inl v6), some (.inl x148), none]) (st' := [.inl 0]) rfl ?_
    exact z_zret (fin := zfW) (o := (0, σ149)) hk he (z_row hL_law_12 13 rfl) rfl
theorem gsL_law_1219 (F : zFx E) (n : Nat) (hk : zk E K "LotSalesLaw" cL_law 9 13) (he : zend E K (some .boolean) (cMe K).name) (r28 : Nat → Nat → Nat → Nat → Nat → Int32 → zW → Option (Int32 × zW)) (hr28 : ∀ (v0 : Nat) (v1 : Nat) (v2 : Nat) (v3 : Nat) (v4 : Nat) (v5 : Int32) (σ : zW), zG E K zfW (r28 v0 v1 v2 v3 v4 v5 σ) σ 28 [some (.inr (.inl v0)), some (.inr (.inl v1)), some (.inr (.inl v2)), some (.inr (.inl v3)), some (.inr (.inl v4)), some (.inl v5), none, none, none] []) (v0 : Nat) (v1 : Nat) (v2 : Nat) (v3 : Nat) (v4 : Nat) (v5 : Int32) (y0 : Nat) (y1 : Int32) (σ : zW) : zG E K zfW (sL_law_1219 n r28 v0 v1 v2 v3 v4 v5 y0 y1 σ) σ 1219 [some (.inr (.inl v0)), some (.inr (.inl v1)), some (.inr (.inl v2)), some (.inr (.inl v3)), some (.inr (.inl v4)), some (.inl v5), none, none, none] [.inl y1, .inr (.inl y0)] := by
  unfold sL_law_1219
  refine z_run hk hL_law_11 23 4 (pc' := 1224) (lv' := [some (.inr (.inl v0)), some (.inr (.inl v1)), some (.inr (.inl v2)), some (.inr (.inl v3)), some (.inr (.inl v4)), some (.inl v5), none, none, none]) (st' := [.inl (v5 + 2), .inr (.inl v0), .inl y1, .inr (.inl y0)]) rfl ?_
  refine z_aI hk (z_row hL_law_11 27 rfl) (fun x152 => ?_)
  refine z_run hk hL_law_11 28 4 (pc' := 1230) (lv' := [some (.inr (.inl v0)), some (.inr (.inl v1)), some (.inr (.inl v2)), some (.inr (.inl v3)), some (.inr (.inl v4)), some (.inl v5), none, none, none]) (st' := [.inl (v5 + 3), .inr (.inl v0), .inl x152, .inl y1, .inr (.inl y0)]) rfl ?_
  refine z_aI hk (z_row hL_law_11 32 rfl) (fun x153 => ?_)
  refine z_run hk hL_law_11 33 4 (pc' := 1236) (lv' := [some (.inr (.inl v0)), some (.inr (.inl v1)), some (.inr (.inl v2)), some (.inr (.inl v3)), some (.inr (.inl v4)), some (.inl v5), none, none, none]) (st' := [.inl (v5 + 4), .inr (.inl v0), .inl x153, .inl x152, .inl y1, .inr (.inl y0)]) rfl ?_
  refine z_aI hk (z_row hL_law_11 37 rfl) (fun x154 => ?_)
  refine z_run hk hL_law_11 38 1 (pc' := 1238) (lv' := [some (.inr (.inl v0)), some (.inr (.inl v1)), some (.inr (.inl v2)), some (.inr (.inl v3)), some (.inr (.inl v4)), some (.inl v5), none, none, none]) (st' := [.inr (.inl v3), .inl x154, .inl x153, .inl x152, .inl y1, .inr (.inl y0)]) rfl ?_
  refine kL_wouldRefuse F hk (z_row hL_law_11 39 rfl) wd_768 (by decide) (Nat.le_of_ble_eq_true rfl) (fun x155 σ156 => ?_)
  refine z_run hk hL_law_11 40 6 (pc' := 1249) (lv' := [some (.inr (.inl v0)), some (.inr (.inl v1)), some (.inr (.inl v2)), some (.inr (.inl v3)), some (.inr (.inl v4)), some (.inl v5), some (.inl x155), none, none]) (st' := [.inl (v5 + 1), .inr (.inl v0), .inr (.inl v2)]) rfl ?_
  refine z_aI hk (z_row hL_law_11 46 rfl) (fun x157 => ?_)
  refine z_eq hk (z_row hL_law_11 47 rfl) (tgt := 1257) rfl ?_ ?_
  · refine z_run hk hL_law_11 50 1 (pc' := 1258) (lv' := [some (.inr (.inl v0)), some (.inr (.inl v1)), some (.inr (.inl v2)), some (.inr (.inl v3)), some (.inr (.inl v4)), some (.inl v5), some (.inl x155), none, none]) (st' := [.inl 0, .inr (.inl v2)]) rfl ?_
    exact gsL_law_1258 F n hk he r28 hr28 v0 v1 v2 v3 v4 v5 x155 v2 0 σ156
  · refine z_run hk hL_law_11 48 1 (pc' := 1254) (lv' := [some (.inr (.inl v0)), some (.inr (.inl v1)), some (.inr (.inl v2)), some (.inr (.inl v3)), some (.inr (.inl v4)), some (.inl v5), some (.inl x155), none, none]) (st' := [.inl 1, .inr (.inl v2)]) rfl ?_
    refine z_goto hk (z_row hL_law_11 49 rfl) (tgt := 1258) rfl ?_
    exact gsL_law_1258 F n hk he r28 hr28 v0 v1 v2 v3 v4 v5 x155 v2 1 σ156
theorem gsL_law_1204 (F : zFx E) (n : Nat) (hk : zk E K "LotSalesLaw" cL_law 9 13) (he : zend E K (some .boolean) (cMe K).name) (r28 : Nat → Nat → Nat → Nat → Nat → Int32 → zW → Option (Int32 × zW)) (hr28 : ∀ (v0 : Nat) (v1 : Nat) (v2 : Nat) (v3 : Nat) (v4 : Nat) (v5 : Int32) (σ : zW), zG E K zfW (r28 v0 v1 v2 v3 v4 v5 σ) σ 28 [some (.inr (.inl v0)), some (.inr (.inl v1)), some (.inr (.inl v2)), some (.inr (.inl v3)), some (.inr (.inl v4)), some (.inl v5), none, none, none] []) (v0 : Nat) (v1 : Nat) (v2 : Nat) (v3 : Nat) (v4 : Nat) (v5 : Int32) (σ : zW) : zG E K zfW (sL_law_1204 n r28 v0 v1 v2 v3 v4 v5 σ) σ 1204 [some (.inr (.inl v0)), some (.inr (.inl v1)), some (.inr (.inl v2)), some (.inr (.inl v3)), some (.inr (.inl v4)), some (.inl v5), none, none, none] [] := by
  unfold sL_law_1204
  refine z_run hk hL_law_11 13 5 (pc' := 1210) (lv' := [some (.inr (.inl v0)), some (.inr (.inl v1)), some (.inr (.inl v2)), some (.inr (.inl v3)), some (.inr (.inl v4)), some (.inl v5), none, none, none]) (st' := [.inl (v5 + 1), .inr (.inl v0), .inr (.inl v1)]) rfl ?_
  refine z_aI hk (z_row hL_law_11 18 rfl) (fun x158 => ?_)
  refine z_eq hk (z_row hL_law_11 19 rfl) (tgt := 1218) rfl ?_ ?_
  · refine z_run hk hL_law_11 22 1 (pc' := 1219) (lv' := [some (.inr (.inl v0)), some (.inr (.inl v1)), some (.inr (.inl v2)), some (.inr (.inl v3)), some (.inr (.inl v4)), some (.inl v5), none, none, none]) (st' := [.inl 0, .inr (.inl v1)]) rfl ?_
    exact gsL_law_1219 F n hk he r28 hr28 v0 v1 v2 v3 v4 v5 v1 0 σ
  · refine z_run hk hL_law_11 20 1 (pc' := 1215) (lv' := [some (.inr (.inl v0)), some (.inr (.inl v1)), some (.inr (.inl v2)), some (.inr (.inl v3)), some (.inr (.inl v4)), some (.inl v5), none, none, none]) (st' := [.inl 1, .inr (.inl v1)]) rfl ?_
    refine z_goto hk (z_row hL_law_11 21 rfl) (tgt := 1219) rfl ?_
    exact gsL_law_1219 F n hk he r28 hr28 v0 v1 v2 v3 v4 v5 v1 1 σ
theorem gsL_law_1377 (F : zFx E) (n : Nat) (hk : zk E K "LotSalesLaw" cL_law 9 13) (he : zend E K (some .boolean) (cMe K).name) (r28 : Nat → Nat → Nat → Nat → Nat → Int32 → zW → Option (Int32 × zW)) (hr28 : ∀ (v0 : Nat) (v1 : Nat) (v2 : Nat) (v3 : Nat) (v4 : Nat) (v5 : Int32) (σ : zW), zG E K zfW (r28 v0 v1 v2 v3 v4 v5 σ) σ 28 [some (.inr (.inl v0)), some (.inr (.inl v1)), some (.inr (.inl v2)), some (.inr (.inl v3)), some (.inr (.inl v4)), some (.inl v5), none, none, none] []) (v0 : Nat) (v1 : Nat) (v2 : Nat) (v3 : Nat) (v4 : Nat) (v5 : Int32) (σ : zW) : zG E K zfW (sL_law_1377 n r28 v0 v1 v2 v3 v4 v5 σ) σ 1377 [some (.inr (.inl v0)), some (.inr (.inl v1)), some (.inr (.inl v2)), some (.inr (.inl v3)), some (.inr (.inl v4)), some (.inl v5), none, none, none] [] := by
  unfold sL_law_1377
  refine z_goto hk (z_row hL_law_13 10 rfl) (tgt := 2620) rfl ?_
  exact gsL_law_2620 F n hk he r28 hr28 v0 v1 v2 v3 v4 v5 σ
theorem gsL_law_1312 (F : zFx E) (n : Nat) (hk : zk E K "LotSalesLaw" cL_law 9 13) (he : zend E K (some .boolean) (cMe K).name) (r28 : Nat → Nat → Nat → Nat → Nat → Int32 → zW → Option (Int32 × zW)) (hr28 : ∀ (v0 : Nat) (v1 : Nat) (v2 : Nat) (v3 : Nat) (v4 : Nat) (v5 : Int32) (σ : zW), zG E K zfW (r28 v0 v1 v2 v3 v4 v5 σ) σ 28 [some (.inr (.inl v0)), some (.inr (.inl v1)), some (.inr (.inl v2)), some (.inr (.inl v3)), some (.inr (.inl v4)), some (.inl v5), none, none, none] []) (v0 : Nat) (v1 : Nat) (v2 : Nat) (v3 : Nat) (v4 : Nat) (v5 : Int32) (σ : zW) : zG E K zfW (sL_law_1312 n r28 v0 v1 v2 v3 v4 v5 σ) σ 1312 [some (.inr (.inl v0)), some (.inr (.inl v1)), some (.inr (.inl v2)), some (.inr (.inl v3)), some (.inr (.inl v4)), some (.inl v5), none, none, none] [] := by
  unfold sL_law_1312
  refine z_run hk hL_law_12 26 5 (pc' := 1318) (lv' := [some (.inr (.inl v0)), some (.inr (.inl v1)), some (.inr (.inl v2)), some (.inr (.inl v3)), some (.inr (.inl v4)), some (.inl v5), none, none, none]) (st' := [.inl (v5 + 1), .inr (.inl v0), .inr (.inl v1)]) rfl ?_
  refine z_aI hk (z_row hL_law_12 31 rfl) (fun x159 => ?_)
  refine z_run hk hL_law_12 32 4 (pc' := 1324) (lv' := [some (.inr (.inl v0)), some (.inr (.inl v1)), some (.inr (.inl v2)), some (.inr (.inl v3)), some (.inr (.inl v4)), some (.inl v5), none, none, none]) (st' := [.inl (v5 + 2), .inr (.inl v0), .inl x159, .inr (.inl v1)]) rfl ?_
  refine z_aI hk (z_row hL_law_12 36 rfl) (fun x160 => ?_)
  refine z_run hk hL_law_12 37 1 (pc' := 1326) (lv' := [some (.inr (.inl v0)), some (.inr (.inl v1)), some (.inr (.inl v2)), some (.inr (.inl v3)), some (.inr (.inl v4)), some (.inl v5), none, none, none]) (st' := [.inr (.inl v3), .inl x160, .inl x159, .inr (.inl v1)]) rfl ?_
  refine kL_standing F hk (z_row hL_law_12 38 rfl) wd_775 (by decide) (Nat.le_of_ble_eq_true rfl) (fun x161 σ162 => ?_)
  refine z_run hk hL_law_12 39 6 (pc' := 1337) (lv' := [some (.inr (.inl v0)), some (.inr (.inl v1)), some (.inr (.inl v2)), some (.inr (.inl v3)), some (.inr (.inl v4)), some (.inl v5), some (.inl x161), none, none]) (st' := [.inl (v5 + 1), .inr (.inl v0), .inr (.inl v2)]) rfl ?_
  refine z_aI hk (z_row hL_law_12 45 rfl) (fun x163 => ?_)
  refine z_run hk hL_law_12 46 4 (pc' := 1343) (lv' := [some (.inr (.inl v0)), some (.inr (.inl v1)), some (.inr (.inl v2)), some (.inr (.inl v3)), some (.inr (.inl v4)), some (.inl v5), some (.inl x161), none, none]) (st' := [.inl (v5 + 2), .inr (.inl v0), .inl x163, .inr (.inl v2)]) rfl ?_
  refine z_aI hk (z_row hL_law_12 50 rfl) (fun x164 => ?_)
  refine kX8_standing F hk (z_row hL_law_12 51 rfl) wd_1372 (by decide) (Nat.le_of_ble_eq_true rfl) (fun x165 σ166 => ?_)
  refine z_run hk hL_law_12 52 2 (pc' := 1350) (lv' := [some (.inr (.inl v0)), some (.inr (.inl v1)), some (.inr (.inl v2)), some (.inr (.inl v3)), some (.inr (.inl v4)), some (.inl v5), some (.inl x161), some (.inl x165), none]) (st' := [.inr (.inl v2)]) rfl ?_
  refine kX8_thrown F hk (z_row hL_law_12 54 rfl) wd_1112 (by decide) (Nat.le_of_ble_eq_true rfl) (fun x167 => ?_)
  refine z_run hk hL_law_12 55 1 (pc' := 1355) (lv' := [some (.inr (.inl v0)), some (.inr (.inl v1)), some (.inr (.inl v2)), some (.inr (.inl v3)), some (.inr (.inl v4)), some (.inl v5), some (.inl x161), some (.inl x165), none]) (st' := [.inl x161, .inl x167]) rfl ?_
  refine z_ceq hk (z_row hL_law_12 56 rfl) (tgt := 1360) rfl ?_ ?_
  · refine z_run hk hL_law_12 59 1 (pc' := 1362) (lv' := [some (.inr (.inl v0)), some (.inr (.inl v1)), some (.inr (.inl v2)), some (.inr (.inl v3)), some (.inr (.inl v4)), some (.inl v5), some (.inl x161), some (.inl x165), none]) (st' := [.inl x161]) rfl ?_
    refine z_ne hk (z_row hL_law_13 0 rfl) (tgt := 1377) rfl ?_ ?_
    · refine z_mask [true, true, true, true, true, true, false, false, false] rfl ?_
      exact gsL_law_1377 F n hk he r28 hr28 v0 v1 v2 v3 v4 v5 σ166
    · refine z_run hk hL_law_13 1 2 (pc' := 1367) (lv' := [some (.inr (.inl v0)), some (.inr (.inl v1)), some (.inr (.inl v2)), some (.inr (.inl v3)), some (.inr (.inl v4)), some (.inl v5), some (.inl x161), some (.inl x165), none]) (st' := [.inl 0, .inr (.inl v3)]) rfl ?_
      refine z_aL hk (z_row hL_law_13 3 rfl) (fun x168 => ?_)
      refine z_run hk hL_law_13 4 3 (pc' := 1372) (lv' := [some (.inr (.inl v0)), some (.inr (.inl v1)), some (.inr (.inl v2)), some (.inr (.inl v3)), some (.inr (.inl v4)), some (.inl v5), some (.inl x161), some (.inl x165), none]) (st' := [.inl (lg_cmp (x168.toInt64) (x165.toInt64))]) rfl ?_
      refine z_eq hk (z_row hL_law_13 7 rfl) (tgt := 1377) rfl ?_ ?_
      · refine z_mask [true, true, true, true, true, true, false, false, false] rfl ?_
        exact gsL_law_1377 F n hk he r28 hr28 v0 v1 v2 v3 v4 v5 σ166
      · refine z_run hk hL_law_13 8 1 (pc' := 1376) (lv' := [some (.inr (.inl v0)), some (.inr (.inl v1)), some (.inr (.inl v2)), some (.inr (.inl v3)), some (.inr (.inl v4)), some (.inl v5), some (.inl x161), some (.inl x165), none]) (st' := [.inl 0]) rfl ?_
        exact z_zret (fin := zfW) (o := (0, σ166)) hk he (z_row hL_law_13 9 rfl) rfl
  · refine z_run hk hL_law_12 57 1 (pc' := 1359) (lv' := [some (.inr (.inl v0)), some (.inr (.inl v1)), some (.inr (.inl v2)), some (.inr (.inl v3)), some (.inr (.inl v4)), some (.inl v5), some (.inl x161), some (.inl x165), none]) (st' := [.inl 0]) rfl ?_
    exact z_zret (fin := zfW) (o := (0, σ166)) hk he (z_row hL_law_12 58 rfl) rfl
theorem gsL_law_1457 (F : zFx E) (n : Nat) (hk : zk E K "LotSalesLaw" cL_law 9 13) (he : zend E K (some .boolean) (cMe K).name) (r28 : Nat → Nat → Nat → Nat → Nat → Int32 → zW → Option (Int32 × zW)) (hr28 : ∀ (v0 : Nat) (v1 : Nat) (v2 : Nat) (v3 : Nat) (v4 : Nat) (v5 : Int32) (σ : zW), zG E K zfW (r28 v0 v1 v2 v3 v4 v5 σ) σ 28 [some (.inr (.inl v0)), some (.inr (.inl v1)), some (.inr (.inl v2)), some (.inr (.inl v3)), some (.inr (.inl v4)), some (.inl v5), none, none, none] []) (v0 : Nat) (v1 : Nat) (v2 : Nat) (v3 : Nat) (v4 : Nat) (v5 : Int32) (σ : zW) : zG E K zfW (sL_law_1457 n r28 v0 v1 v2 v3 v4 v5 σ) σ 1457 [some (.inr (.inl v0)), some (.inr (.inl v1)), some (.inr (.inl v2)), some (.inr (.inl v3)), some (.inr (.inl v4)), some (.inl v5), none, none, none] [] := by
  unfold sL_law_1457
  refine z_goto hk (z_row hL_law_14 5 rfl) (tgt := 2620) rfl ?_
  exact gsL_law_2620 F n hk he r28 hr28 v0 v1 v2 v3 v4 v5 σ
theorem gsL_law_1380 (F : zFx E) (n : Nat) (hk : zk E K "LotSalesLaw" cL_law 9 13) (he : zend E K (some .boolean) (cMe K).name) (r28 : Nat → Nat → Nat → Nat → Nat → Int32 → zW → Option (Int32 × zW)) (hr28 : ∀ (v0 : Nat) (v1 : Nat) (v2 : Nat) (v3 : Nat) (v4 : Nat) (v5 : Int32) (σ : zW), zG E K zfW (r28 v0 v1 v2 v3 v4 v5 σ) σ 28 [some (.inr (.inl v0)), some (.inr (.inl v1)), some (.inr (.inl v2)), some (.inr (.inl v3)), some (.inr (.inl v4)), some (.inl v5), none, none, none] []) (v0 : Nat) (v1 : Nat) (v2 : Nat) (v3 : Nat) (v4 : Nat) (v5 : Int32) (σ : zW) : zG E K zfW (sL_law_1380 n r28 v0 v1 v2 v3 v4 v5 σ) σ 1380 [some (.inr (.inl v0)), some (.inr (.inl v1)), some (.inr (.inl v2)), some (.inr (.inl v3)), some (.inr (.inl v4)), some (.inl v5), none, none, none] [] := by
  unfold sL_law_1380
  refine z_run hk hL_law_13 11 5 (pc' := 1386) (lv' := [some (.inr (.inl v0)), some (.inr (.inl v1)), some (.inr (.inl v2)), some (.inr (.inl v3)), some (.inr (.inl v4)), some (.inl v5), none, none, none]) (st' := [.inl (v5 + 1), .inr (.inl v0), .inr (.inl v1)]) rfl ?_
  refine z_aI hk (z_row hL_law_13 16 rfl) (fun x169 => ?_)
  refine z_run hk hL_law_13 17 4 (pc' := 1392) (lv' := [some (.inr (.inl v0)), some (.inr (.inl v1)), some (.inr (.inl v2)), some (.inr (.inl v3)), some (.inr (.inl v4)), some (.inl v5), none, none, none]) (st' := [.inl (v5 + 2), .inr (.inl v0), .inl x169, .inr (.inl v1)]) rfl ?_
  refine z_aI hk (z_row hL_law_13 21 rfl) (fun x170 => ?_)
  refine z_run hk hL_law_13 22 4 (pc' := 1398) (lv' := [some (.inr (.inl v0)), some (.inr (.inl v1)), some (.inr (.inl v2)), some (.inr (.inl v3)), some (.inr (.inl v4)), some (.inl v5), none, none, none]) (st' := [.inl (v5 + 3), .inr (.inl v0), .inl x170, .inl x169, .inr (.inl v1)]) rfl ?_
  refine z_aI hk (z_row hL_law_13 26 rfl) (fun x171 => ?_)
  refine z_run hk hL_law_13 27 1 (pc' := 1400) (lv' := [some (.inr (.inl v0)), some (.inr (.inl v1)), some (.inr (.inl v2)), some (.inr (.inl v3)), some (.inr (.inl v4)), some (.inl v5), none, none, none]) (st' := [.inr (.inl v3), .inl x171, .inl x170, .inl x169, .inr (.inl v1)]) rfl ?_
  refine kL_limit F hk (z_row hL_law_13 28 rfl) wd_794 (by decide) (Nat.le_of_ble_eq_true rfl) (fun x172 σ173 => ?_)
  refine z_run hk hL_law_13 29 6 (pc' := 1411) (lv' := [some (.inr (.inl v0)), some (.inr (.inl v1)), some (.inr (.inl v2)), some (.inr (.inl v3)), some (.inr (.inl v4)), some (.inl v5), some (.inl x172), none, none]) (st' := [.inl (v5 + 1), .inr (.inl v0), .inr (.inl v2)]) rfl ?_
  refine z_aI hk (z_row hL_law_13 35 rfl) (fun x174 => ?_)
  refine z_run hk hL_law_13 36 4 (pc' := 1417) (lv' := [some (.inr (.inl v0)), some (.inr (.inl v1)), some (.inr (.inl v2)), some (.inr (.inl v3)), some (.inr (.inl v4)), some (.inl v5), some (.inl x172), none, none]) (st' := [.inl (v5 + 2), .inr (.inl v0), .inl x174, .inr (.inl v2)]) rfl ?_
  refine z_aI hk (z_row hL_law_13 40 rfl) (fun x175 => ?_)
  refine z_run hk hL_law_13 41 4 (pc' := 1423) (lv' := [some (.inr (.inl v0)), some (.inr (.inl v1)), some (.inr (.inl v2)), some (.inr (.inl v3)), some (.inr (.inl v4)), some (.inl v5), some (.inl x172), none, none]) (st' := [.inl (v5 + 3), .inr (.inl v0), .inl x175, .inl x174, .inr (.inl v2)]) rfl ?_
  refine z_aI hk (z_row hL_law_13 45 rfl) (fun x176 => ?_)
  refine kX8_limit F hk (z_row hL_law_13 46 rfl) wd_1384 (by decide) (Nat.le_of_ble_eq_true rfl) (fun x177 σ178 => ?_)
  refine z_run hk hL_law_13 47 2 (pc' := 1430) (lv' := [some (.inr (.inl v0)), some (.inr (.inl v1)), some (.inr (.inl v2)), some (.inr (.inl v3)), some (.inr (.inl v4)), some (.inl v5), some (.inl x172), some (.inl x177), none]) (st' := [.inr (.inl v2)]) rfl ?_
  refine kX8_thrown F hk (z_row hL_law_13 49 rfl) wd_1112 (by decide) (Nat.le_of_ble_eq_true rfl) (fun x179 => ?_)
  refine z_run hk hL_law_13 50 1 (pc' := 1435) (lv' := [some (.inr (.inl v0)), some (.inr (.inl v1)), some (.inr (.inl v2)), some (.inr (.inl v3)), some (.inr (.inl v4)), some (.inl v5), some (.inl x172), some (.inl x177), none]) (st' := [.inl x172, .inl x179]) rfl ?_
  refine z_ceq hk (z_row hL_law_13 51 rfl) (tgt := 1440) rfl ?_ ?_
  · refine z_run hk hL_law_13 54 1 (pc' := 1442) (lv' := [some (.inr (.inl v0)), some (.inr (.inl v1)), some (.inr (.inl v2)), some (.inr (.inl v3)), some (.inr (.inl v4)), some (.inl v5), some (.inl x172), some (.inl x177), none]) (st' := [.inl x172]) rfl ?_
    refine z_ne hk (z_row hL_law_13 55 rfl) (tgt := 1457) rfl ?_ ?_
    · refine z_mask [true, true, true, true, true, true, false, false, false] rfl ?_
      exact gsL_law_1457 F n hk he r28 hr28 v0 v1 v2 v3 v4 v5 σ178
    · refine z_run hk hL_law_13 56 2 (pc' := 1447) (lv' := [some (.inr (.inl v0)), some (.inr (.inl v1)), some (.inr (.inl v2)), some (.inr (.inl v3)), some (.inr (.inl v4)), some (.inl v5), some (.inl x172), some (.inl x177), none]) (st' := [.inl 0, .inr (.inl v3)]) rfl ?_
      refine z_aL hk (z_row hL_law_13 58 rfl) (fun x180 => ?_)
      refine z_run hk hL_law_13 59 1 (pc' := 1450) (lv' := [some (.inr (.inl v0)), some (.inr (.inl v1)), some (.inr (.inl v2)), some (.inr (.inl v3)), some (.inr (.inl v4)), some (.inl v5), some (.inl x172), some (.inl x177), none]) (st' := [.inl x177, .inr (.inr (.inl (x180.toInt64)))]) rfl ?_
      refine z_run hk hL_law_14 0 2 (pc' := 1452) (lv' := [some (.inr (.inl v0)), some (.inr (.inl v1)), some (.inr (.inl v2)), some (.inr (.inl v3)), some (.inr (.inl v4)), some (.inl v5), some (.inl x172), some (.inl x177), none]) (st' := [.inl (lg_cmp (x180.toInt64) (x177.toInt64))]) rfl ?_
      refine z_eq hk (z_row hL_law_14 2 rfl) (tgt := 1457) rfl ?_ ?_
      · refine z_mask [true, true, true, true, true, true, false, false, false] rfl ?_
        exact gsL_law_1457 F n hk he r28 hr28 v0 v1 v2 v3 v4 v5 σ178
      · refine z_run hk hL_law_14 3 1 (pc' := 1456) (lv' := [some (.inr (.inl v0)), some (.inr (.inl v1)), some (.inr (.inl v2)), some (.inr (.inl v3)), some (.inr (.inl v4)), some (.inl v5), some (.inl x172), some (.inl x177), none]) (st' := [.inl 0]) rfl ?_
        exact z_zret (fin := zfW) (o := (0, σ178)) hk he (z_row hL_law_14 4 rfl) rfl
  · refine z_run hk hL_law_13 52 1 (pc' := 1439) (lv' := [some (.inr (.inl v0)), some (.inr (.inl v1)), some (.inr (.inl v2)), some (.inr (.inl v3)), some (.inr (.inl v4)), some (.inl v5), some (.inl x172), some (.inl x177), none]) (st' := [.inl 0]) rfl ?_
    exact z_zret (fin := zfW) (o := (0, σ178)) hk he (z_row hL_law_13 53 rfl) rfl
theorem gsL_law_1537 (F : zFx E) (n : Nat) (hk : zk E K "LotSalesLaw" cL_law 9 13) (he : zend E K (some .boolean) (cMe K).name) (r28 : Nat → Nat → Nat → Nat → Nat → Int32 → zW → Option (Int32 × zW)) (hr28 : ∀ (v0 : Nat) (v1 : Nat) (v2 : Nat) (v3 : Nat) (v4 : Nat) (v5 : Int32) (σ : zW), zG E K zfW (r28 v0 v1 v2 v3 v4 v5 σ) σ 28 [some (.inr (.inl v0)), some (.inr (.inl v1)), some (.inr (.inl v2)), some (.inr (.inl v3)), some (.inr (.inl v4)), some (.inl v5), none, none, none] []) (v0 : Nat) (v1 : Nat) (v2 : Nat) (v3 : Nat) (v4 : Nat) (v5 : Int32) (σ : zW) : zG E K zfW (sL_law_1537 n r28 v0 v1 v2 v3 v4 v5 σ) σ 1537 [some (.inr (.inl v0)), some (.inr (.inl v1)), some (.inr (.inl v2)), some (.inr (.inl v3)), some (.inr (.inl v4)), some (.inl v5), none, none, none] [] := by
  unfold sL_law_1537
  refine z_goto hk (z_row hL_law_15 0 rfl) (tgt := 2620) rfl ?_
  exact gsL_law_2620 F n hk he r28 hr28 v0 v1 v2 v3 v4 v5 σ
theorem gsL_law_1460 (F : zFx E) (n : Nat) (hk : zk E K "LotSalesLaw" cL_law 9 13) (he : zend E K (some .boolean) (cMe K).name) (r28 : Nat → Nat → Nat → Nat → Nat → Int32 → zW → Option (Int32 × zW)) (hr28 : ∀ (v0 : Nat) (v1 : Nat) (v2 : Nat) (v3 : Nat) (v4 : Nat) (v5 : Int32) (σ : zW), zG E K zfW (r28 v0 v1 v2 v3 v4 v5 σ) σ 28 [some (.inr (.inl v0)), some (.inr (.inl v1)), some (.inr (.inl v2)), some (.inr (.inl v3)), some (.inr (.inl v4)), some (.inl v5), none, none, none] []) (v0 : Nat) (v1 : Nat) (v2 : Nat) (v3 : Nat) (v4 : Nat) (v5 : Int32) (σ : zW) : zG E K zfW (sL_law_1460 n r28 v0 v1 v2 v3 v4 v5 σ) σ 1460 [some (.inr (.inl v0)), some (.inr (.inl v1)), some (.inr (.inl v2)), some (.inr (.inl v3)), some (.inr (.inl v4)), some (.inl v5), none, none, none] [] := by
  unfold sL_law_1460
  refine z_run hk hL_law_14 6 5 (pc' := 1466) (lv' := [some (.inr (.inl v0)), some (.inr (.inl v1)), some (.inr (.inl v2)), some (.inr (.inl v3)), some (.inr (.inl v4)), some (.inl v5), none, none, none]) (st' := [.inl (v5 + 1), .inr (.inl v0), .inr (.inl v1)]) rfl ?_
  refine z_aI hk (z_row hL_law_14 11 rfl) (fun x181 => ?_)
  refine z_run hk hL_law_14 12 4 (pc' := 1472) (lv' := [some (.inr (.inl v0)), some (.inr (.inl v1)), some (.inr (.inl v2)), some (.inr (.inl v3)), some (.inr (.inl v4)), some (.inl v5), none, none, none]) (st' := [.inl (v5 + 2), .inr (.inl v0), .inl x181, .inr (.inl v1)]) rfl ?_
  refine z_aI hk (z_row hL_law_14 16 rfl) (fun x182 => ?_)
  refine z_run hk hL_law_14 17 4 (pc' := 1478) (lv' := [some (.inr (.inl v0)), some (.inr (.inl v1)), some (.inr (.inl v2)), some (.inr (.inl v3)), some (.inr (.inl v4)), some (.inl v5), none, none, none]) (st' := [.inl (v5 + 3), .inr (.inl v0), .inl x182, .inl x181, .inr (.inl v1)]) rfl ?_
  refine z_aI hk (z_row hL_law_14 21 rfl) (fun x183 => ?_)
  refine z_run hk hL_law_14 22 1 (pc' := 1480) (lv' := [some (.inr (.inl v0)), some (.inr (.inl v1)), some (.inr (.inl v2)), some (.inr (.inl v3)), some (.inr (.inl v4)), some (.inl v5), none, none, none]) (st' := [.inr (.inl v3), .inl x183, .inl x182, .inl x181, .inr (.inl v1)]) rfl ?_
  refine kL_priceIf F hk (z_row hL_law_14 23 rfl) wd_810 (by decide) (Nat.le_of_ble_eq_true rfl) (fun x184 σ185 => ?_)
  refine z_run hk hL_law_14 24 6 (pc' := 1491) (lv' := [some (.inr (.inl v0)), some (.inr (.inl v1)), some (.inr (.inl v2)), some (.inr (.inl v3)), some (.inr (.inl v4)), some (.inl v5), some (.inl x184), none, none]) (st' := [.inl (v5 + 1), .inr (.inl v0), .inr (.inl v2)]) rfl ?_
  refine z_aI hk (z_row hL_law_14 30 rfl) (fun x186 => ?_)
  refine z_run hk hL_law_14 31 4 (pc' := 1497) (lv' := [some (.inr (.inl v0)), some (.inr (.inl v1)), some (.inr (.inl v2)), some (.inr (.inl v3)), some (.inr (.inl v4)), some (.inl v5), some (.inl x184), none, none]) (st' := [.inl (v5 + 2), .inr (.inl v0), .inl x186, .inr (.inl v2)]) rfl ?_
  refine z_aI hk (z_row hL_law_14 35 rfl) (fun x187 => ?_)
  refine z_run hk hL_law_14 36 4 (pc' := 1503) (lv' := [some (.inr (.inl v0)), some (.inr (.inl v1)), some (.inr (.inl v2)), some (.inr (.inl v3)), some (.inr (.inl v4)), some (.inl v5), some (.inl x184), none, none]) (st' := [.inl (v5 + 3), .inr (.inl v0), .inl x187, .inl x186, .inr (.inl v2)]) rfl ?_
  refine z_aI hk (z_row hL_law_14 40 rfl) (fun x188 => ?_)
  refine kX8_priceIf F hk (z_row hL_law_14 41 rfl) wd_1388 (by decide) (Nat.le_of_ble_eq_true rfl) (fun x189 σ190 => ?_)
  refine z_run hk hL_law_14 42 2 (pc' := 1510) (lv' := [some (.inr (.inl v0)), some (.inr (.inl v1)), some (.inr (.inl v2)), some (.inr (.inl v3)), some (.inr (.inl v4)), some (.inl v5), some (.inl x184), some (.inl x189), none]) (st' := [.inr (.inl v2)]) rfl ?_
  refine kX8_thrown F hk (z_row hL_law_14 44 rfl) wd_1112 (by decide) (Nat.le_of_ble_eq_true rfl) (fun x191 => ?_)
  refine z_run hk hL_law_14 45 1 (pc' := 1515) (lv' := [some (.inr (.inl v0)), some (.inr (.inl v1)), some (.inr (.inl v2)), some (.inr (.inl v3)), some (.inr (.inl v4)), some (.inl v5), some (.inl x184), some (.inl x189), none]) (st' := [.inl x184, .inl x191]) rfl ?_
  refine z_ceq hk (z_row hL_law_14 46 rfl) (tgt := 1520) rfl ?_ ?_
  · refine z_run hk hL_law_14 49 1 (pc' := 1522) (lv' := [some (.inr (.inl v0)), some (.inr (.inl v1)), some (.inr (.inl v2)), some (.inr (.inl v3)), some (.inr (.inl v4)), some (.inl v5), some (.inl x184), some (.inl x189), none]) (st' := [.inl x184]) rfl ?_
    refine z_ne hk (z_row hL_law_14 50 rfl) (tgt := 1537) rfl ?_ ?_
    · refine z_mask [true, true, true, true, true, true, false, false, false] rfl ?_
      exact gsL_law_1537 F n hk he r28 hr28 v0 v1 v2 v3 v4 v5 σ190
    · refine z_run hk hL_law_14 51 2 (pc' := 1527) (lv' := [some (.inr (.inl v0)), some (.inr (.inl v1)), some (.inr (.inl v2)), some (.inr (.inl v3)), some (.inr (.inl v4)), some (.inl v5), some (.inl x184), some (.inl x189), none]) (st' := [.inl 0, .inr (.inl v3)]) rfl ?_
      refine z_aL hk (z_row hL_law_14 53 rfl) (fun x192 => ?_)
      refine z_run hk hL_law_14 54 3 (pc' := 1532) (lv' := [some (.inr (.inl v0)), some (.inr (.inl v1)), some (.inr (.inl v2)), some (.inr (.inl v3)), some (.inr (.inl v4)), some (.inl v5), some (.inl x184), some (.inl x189), none]) (st' := [.inl (lg_cmp (x192.toInt64) (x189.toInt64))]) rfl ?_
      refine z_eq hk (z_row hL_law_14 57 rfl) (tgt := 1537) rfl ?_ ?_
      · refine z_mask [true, true, true, true, true, true, false, false, false] rfl ?_
        exact gsL_law_1537 F n hk he r28 hr28 v0 v1 v2 v3 v4 v5 σ190
      · refine z_run hk hL_law_14 58 1 (pc' := 1536) (lv' := [some (.inr (.inl v0)), some (.inr (.inl v1)), some (.inr (.inl v2)), some (.inr (.inl v3)), some (.inr (.inl v4)), some (.inl v5), some (.inl x184), some (.inl x189), none]) (st' := [.inl 0]) rfl ?_
        exact z_zret (fin := zfW) (o := (0, σ190)) hk he (z_row hL_law_14 59 rfl) rfl
  · refine z_run hk hL_law_14 47 1 (pc' := 1519) (lv' := [some (.inr (.inl v0)), some (.inr (.inl v1)), some (.inr (.inl v2)), some (.inr (.inl v3)), some (.inr (.inl v4)), some (.inl v5), some (.inl x184), some (.inl x189), none]) (st' := [.inl 0]) rfl ?_
    exact z_zret (fin := zfW) (o := (0, σ190)) hk he (z_row hL_law_14 48 rfl) rfl
theorem gsL_law_1593 (F : zFx E) (n : Nat) (hk : zk E K "LotSalesLaw" cL_law 9 13) (he : zend E K (some .boolean) (cMe K).name) (r28 : Nat → Nat → Nat → Nat → Nat → Int32 → zW → Option (Int32 × zW)) (hr28 : ∀ (v0 : Nat) (v1 : Nat) (v2 : Nat) (v3 : Nat) (v4 : Nat) (v5 : Int32) (σ : zW), zG E K zfW (r28 v0 v1 v2 v3 v4 v5 σ) σ 28 [some (.inr (.inl v0)), some (.inr (.inl v1)), some (.inr (.inl v2)), some (.inr (.inl v3)), some (.inr (.inl v4)), some (.inl v5), none, none, none] []) (v0 : Nat) (v1 : Nat) (v2 : Nat) (v3 : Nat) (v4 : Nat) (v5 : Int32) (σ : zW) : zG E K zfW (sL_law_1593 n r28 v0 v1 v2 v3 v4 v5 σ) σ 1593 [some (.inr (.inl v0)), some (.inr (.inl v1)), some (.inr (.inl v2)), some (.inr (.inl v3)), some (.inr (.inl v4)), some (.inl v5), none, none, none] [] := by
  unfold sL_law_1593
  refine z_goto hk (z_row hL_law_15 35 rfl) (tgt := 2620) rfl ?_
  exact gsL_law_2620 F n hk he r28 hr28 v0 v1 v2 v3 v4 v5 σ
theorem gsL_law_1540 (F : zFx E) (n : Nat) (hk : zk E K "LotSalesLaw" cL_law 9 13) (he : zend E K (some .boolean) (cMe K).name) (r28 : Nat → Nat → Nat → Nat → Nat → Int32 → zW → Option (Int32 × zW)) (hr28 : ∀ (v0 : Nat) (v1 : Nat) (v2 : Nat) (v3 : Nat) (v4 : Nat) (v5 : Int32) (σ : zW), zG E K zfW (r28 v0 v1 v2 v3 v4 v5 σ) σ 28 [some (.inr (.inl v0)), some (.inr (.inl v1)), some (.inr (.inl v2)), some (.inr (.inl v3)), some (.inr (.inl v4)), some (.inl v5), none, none, none] []) (v0 : Nat) (v1 : Nat) (v2 : Nat) (v3 : Nat) (v4 : Nat) (v5 : Int32) (σ : zW) : zG E K zfW (sL_law_1540 n r28 v0 v1 v2 v3 v4 v5 σ) σ 1540 [some (.inr (.inl v0)), some (.inr (.inl v1)), some (.inr (.inl v2)), some (.inr (.inl v3)), some (.inr (.inl v4)), some (.inl v5), none, none, none] [] := by
  unfold sL_law_1540
  refine z_run hk hL_law_15 1 5 (pc' := 1546) (lv' := [some (.inr (.inl v0)), some (.inr (.inl v1)), some (.inr (.inl v2)), some (.inr (.inl v3)), some (.inr (.inl v4)), some (.inl v5), none, none, none]) (st' := [.inl (v5 + 1), .inr (.inl v0), .inr (.inl v1)]) rfl ?_
  refine z_aI hk (z_row hL_law_15 6 rfl) (fun x193 => ?_)
  refine z_run hk hL_law_15 7 1 (pc' := 1548) (lv' := [some (.inr (.inl v0)), some (.inr (.inl v1)), some (.inr (.inl v2)), some (.inr (.inl v3)), some (.inr (.inl v4)), some (.inl v5), none, none, none]) (st' := [.inr (.inl v3), .inl x193, .inr (.inl v1)]) rfl ?_
  refine kL_close F hk (z_row hL_law_15 8 rfl) wd_822 (by decide) (Nat.le_of_ble_eq_true rfl) (fun x194 σ195 => ?_)
  refine z_run hk hL_law_15 9 6 (pc' := 1559) (lv' := [some (.inr (.inl v0)), some (.inr (.inl v1)), some (.inr (.inl v2)), some (.inr (.inl v3)), some (.inr (.inl v4)), some (.inl v5), some (.inl x194), none, none]) (st' := [.inl (v5 + 1), .inr (.inl v0), .inr (.inl v2)]) rfl ?_
  refine z_aI hk (z_row hL_law_15 15 rfl) (fun x196 => ?_)
  refine kX8_close F hk (z_row hL_law_15 16 rfl) wd_1392 (by decide) (Nat.le_of_ble_eq_true rfl) (fun x197 σ198 => ?_)
  refine z_run hk hL_law_15 17 2 (pc' := 1566) (lv' := [some (.inr (.inl v0)), some (.inr (.inl v1)), some (.inr (.inl v2)), some (.inr (.inl v3)), some (.inr (.inl v4)), some (.inl v5), some (.inl x194), some (.inl x197), none]) (st' := [.inr (.inl v2)]) rfl ?_
  refine kX8_thrown F hk (z_row hL_law_15 19 rfl) wd_1112 (by decide) (Nat.le_of_ble_eq_true rfl) (fun x199 => ?_)
  refine z_run hk hL_law_15 20 1 (pc' := 1571) (lv' := [some (.inr (.inl v0)), some (.inr (.inl v1)), some (.inr (.inl v2)), some (.inr (.inl v3)), some (.inr (.inl v4)), some (.inl v5), some (.inl x194), some (.inl x197), none]) (st' := [.inl x194, .inl x199]) rfl ?_
  refine z_ceq hk (z_row hL_law_15 21 rfl) (tgt := 1576) rfl ?_ ?_
  · refine z_run hk hL_law_15 24 1 (pc' := 1578) (lv' := [some (.inr (.inl v0)), some (.inr (.inl v1)), some (.inr (.inl v2)), some (.inr (.inl v3)), some (.inr (.inl v4)), some (.inl v5), some (.inl x194), some (.inl x197), none]) (st' := [.inl x194]) rfl ?_
    refine z_ne hk (z_row hL_law_15 25 rfl) (tgt := 1593) rfl ?_ ?_
    · refine z_mask [true, true, true, true, true, true, false, false, false] rfl ?_
      exact gsL_law_1593 F n hk he r28 hr28 v0 v1 v2 v3 v4 v5 σ198
    · refine z_run hk hL_law_15 26 2 (pc' := 1583) (lv' := [some (.inr (.inl v0)), some (.inr (.inl v1)), some (.inr (.inl v2)), some (.inr (.inl v3)), some (.inr (.inl v4)), some (.inl v5), some (.inl x194), some (.inl x197), none]) (st' := [.inl 0, .inr (.inl v3)]) rfl ?_
      refine z_aL hk (z_row hL_law_15 28 rfl) (fun x200 => ?_)
      refine z_run hk hL_law_15 29 3 (pc' := 1588) (lv' := [some (.inr (.inl v0)), some (.inr (.inl v1)), some (.inr (.inl v2)), some (.inr (.inl v3)), some (.inr (.inl v4)), some (.inl v5), some (.inl x194), some (.inl x197), none]) (st' := [.inl (lg_cmp (x200.toInt64) (x197.toInt64))]) rfl ?_
      refine z_eq hk (z_row hL_law_15 32 rfl) (tgt := 1593) rfl ?_ ?_
      · refine z_mask [true, true, true, true, true, true, false, false, false] rfl ?_
        exact gsL_law_1593 F n hk he r28 hr28 v0 v1 v2 v3 v4 v5 σ198
      · refine z_run hk hL_law_15 33 1 (pc' := 1592) (lv' := [some (.inr (.inl v0)), some (.inr (.inl v1)), some (.inr (.inl v2)), some (.inr (.inl v3)), some (.inr (.inl v4)), some (.inl v5), some (.inl x194), some (.inl x197), none]) (st' := [.inl 0]) rfl ?_
        exact z_zret (fin := zfW) (o := (0, σ198)) hk he (z_row hL_law_15 34 rfl) rfl
  · refine z_run hk hL_law_15 22 1 (pc' := 1575) (lv' := [some (.inr (.inl v0)), some (.inr (.inl v1)), some (.inr (.inl v2)), some (.inr (.inl v3)), some (.inr (.inl v4)), some (.inl v5), some (.inl x194), some (.inl x197), none]) (st' := [.inl 0]) rfl ?_
    exact z_zret (fin := zfW) (o := (0, σ198)) hk he (z_row hL_law_15 23 rfl) rfl
theorem gsL_law_1649 (F : zFx E) (n : Nat) (hk : zk E K "LotSalesLaw" cL_law 9 13) (he : zend E K (some .boolean) (cMe K).name) (r28 : Nat → Nat → Nat → Nat → Nat → Int32 → zW → Option (Int32 × zW)) (hr28 : ∀ (v0 : Nat) (v1 : Nat) (v2 : Nat) (v3 : Nat) (v4 : Nat) (v5 : Int32) (σ : zW), zG E K zfW (r28 v0 v1 v2 v3 v4 v5 σ) σ 28 [some (.inr (.inl v0)), some (.inr (.inl v1)), some (.inr (.inl v2)), some (.inr (.inl v3)), some (.inr (.inl v4)), some (.inl v5), none, none, none] []) (v0 : Nat) (v1 : Nat) (v2 : Nat) (v3 : Nat) (v4 : Nat) (v5 : Int32) (σ : zW) : zG E K zfW (sL_law_1649 n r28 v0 v1 v2 v3 v4 v5 σ) σ 1649 [some (.inr (.inl v0)), some (.inr (.inl v1)), some (.inr (.inl v2)), some (.inr (.inl v3)), some (.inr (.inl v4)), some (.inl v5), none, none, none] [] := by
  unfold sL_law_1649
  refine z_goto hk (z_row hL_law_16 10 rfl) (tgt := 2620) rfl ?_
  exact gsL_law_2620 F n hk he r28 hr28 v0 v1 v2 v3 v4 v5 σ
theorem gsL_law_1596 (F : zFx E) (n : Nat) (hk : zk E K "LotSalesLaw" cL_law 9 13) (he : zend E K (some .boolean) (cMe K).name) (r28 : Nat → Nat → Nat → Nat → Nat → Int32 → zW → Option (Int32 × zW)) (hr28 : ∀ (v0 : Nat) (v1 : Nat) (v2 : Nat) (v3 : Nat) (v4 : Nat) (v5 : Int32) (σ : zW), zG E K zfW (r28 v0 v1 v2 v3 v4 v5 σ) σ 28 [some (.inr (.inl v0)), some (.inr (.inl v1)), some (.inr (.inl v2)), some (.inr (.inl v3)), some (.inr (.inl v4)), some (.inl v5), none, none, none] []) (v0 : Nat) (v1 : Nat) (v2 : Nat) (v3 : Nat) (v4 : Nat) (v5 : Int32) (σ : zW) : zG E K zfW (sL_law_1596 n r28 v0 v1 v2 v3 v4 v5 σ) σ 1596 [some (.inr (.inl v0)), some (.inr (.inl v1)), some (.inr (.inl v2)), some (.inr (.inl v3)), some (.inr (.inl v4)), some (.inl v5), none, none, none] [] := by
  unfold sL_law_1596
  refine z_run hk hL_law_15 36 5 (pc' := 1602) (lv' := [some (.inr (.inl v0)), some (.inr (.inl v1)), some (.inr (.inl v2)), some (.inr (.inl v3)), some (.inr (.inl v4)), some (.inl v5), none, none, none]) (st' := [.inl (v5 + 1), .inr (.inl v0), .inr (.inl v1)]) rfl ?_
  refine z_aI hk (z_row hL_law_15 41 rfl) (fun x201 => ?_)
  refine z_run hk hL_law_15 42 1 (pc' := 1604) (lv' := [some (.inr (.inl v0)), some (.inr (.inl v1)), some (.inr (.inl v2)), some (.inr (.inl v3)), some (.inr (.inl v4)), some (.inl v5), none, none, none]) (st' := [.inr (.inl v3), .inl x201, .inr (.inl v1)]) rfl ?_
  refine kL_withdraw F hk (z_row hL_law_15 43 rfl) wd_849 (by decide) (Nat.le_of_ble_eq_true rfl) (fun x202 σ203 => ?_)
  refine z_run hk hL_law_15 44 6 (pc' := 1615) (lv' := [some (.inr (.inl v0)), some (.inr (.inl v1)), some (.inr (.inl v2)), some (.inr (.inl v3)), some (.inr (.inl v4)), some (.inl v5), some (.inl x202), none, none]) (st' := [.inl (v5 + 1), .inr (.inl v0), .inr (.inl v2)]) rfl ?_
  refine z_aI hk (z_row hL_law_15 50 rfl) (fun x204 => ?_)
  refine kX8_withdraw F hk (z_row hL_law_15 51 rfl) wd_1400 (by decide) (Nat.le_of_ble_eq_true rfl) (fun x205 σ206 => ?_)
  refine z_run hk hL_law_15 52 2 (pc' := 1622) (lv' := [some (.inr (.inl v0)), some (.inr (.inl v1)), some (.inr (.inl v2)), some (.inr (.inl v3)), some (.inr (.inl v4)), some (.inl v5), some (.inl x202), some (.inl x205), none]) (st' := [.inr (.inl v2)]) rfl ?_
  refine kX8_thrown F hk (z_row hL_law_15 54 rfl) wd_1112 (by decide) (Nat.le_of_ble_eq_true rfl) (fun x207 => ?_)
  refine z_run hk hL_law_15 55 1 (pc' := 1627) (lv' := [some (.inr (.inl v0)), some (.inr (.inl v1)), some (.inr (.inl v2)), some (.inr (.inl v3)), some (.inr (.inl v4)), some (.inl v5), some (.inl x202), some (.inl x205), none]) (st' := [.inl x202, .inl x207]) rfl ?_
  refine z_ceq hk (z_row hL_law_15 56 rfl) (tgt := 1632) rfl ?_ ?_
  · refine z_run hk hL_law_15 59 1 (pc' := 1634) (lv' := [some (.inr (.inl v0)), some (.inr (.inl v1)), some (.inr (.inl v2)), some (.inr (.inl v3)), some (.inr (.inl v4)), some (.inl v5), some (.inl x202), some (.inl x205), none]) (st' := [.inl x202]) rfl ?_
    refine z_ne hk (z_row hL_law_16 0 rfl) (tgt := 1649) rfl ?_ ?_
    · refine z_mask [true, true, true, true, true, true, false, false, false] rfl ?_
      exact gsL_law_1649 F n hk he r28 hr28 v0 v1 v2 v3 v4 v5 σ206
    · refine z_run hk hL_law_16 1 2 (pc' := 1639) (lv' := [some (.inr (.inl v0)), some (.inr (.inl v1)), some (.inr (.inl v2)), some (.inr (.inl v3)), some (.inr (.inl v4)), some (.inl v5), some (.inl x202), some (.inl x205), none]) (st' := [.inl 0, .inr (.inl v3)]) rfl ?_
      refine z_aL hk (z_row hL_law_16 3 rfl) (fun x208 => ?_)
      refine z_run hk hL_law_16 4 3 (pc' := 1644) (lv' := [some (.inr (.inl v0)), some (.inr (.inl v1)), some (.inr (.inl v2)), some (.inr (.inl v3)), some (.inr (.inl v4)), some (.inl v5), some (.inl x202), some (.inl x205), none]) (st' := [.inl (lg_cmp (x208.toInt64) (x205.toInt64))]) rfl ?_
      refine z_eq hk (z_row hL_law_16 7 rfl) (tgt := 1649) rfl ?_ ?_
      · refine z_mask [true, true, true, true, true, true, false, false, false] rfl ?_
        exact gsL_law_1649 F n hk he r28 hr28 v0 v1 v2 v3 v4 v5 σ206
      · refine z_run hk hL_law_16 8 1 (pc' := 1648) (lv' := [some (.inr (.inl v0)), some (.inr (.inl v1)), some (.inr (.inl v2)), some (.inr (.inl v3)), some (.inr (.inl v4)), some (.inl v5), some (.inl x202), some (.inl x205), none]) (st' := [.inl 0]) rfl ?_
        exact z_zret (fin := zfW) (o := (0, σ206)) hk he (z_row hL_law_16 9 rfl) rfl
  · refine z_run hk hL_law_15 57 1 (pc' := 1631) (lv' := [some (.inr (.inl v0)), some (.inr (.inl v1)), some (.inr (.inl v2)), some (.inr (.inl v3)), some (.inr (.inl v4)), some (.inl v5), some (.inl x202), some (.inl x205), none]) (st' := [.inl 0]) rfl ?_
    exact z_zret (fin := zfW) (o := (0, σ206)) hk he (z_row hL_law_15 58 rfl) rfl
theorem gsL_law_1717 (F : zFx E) (n : Nat) (hk : zk E K "LotSalesLaw" cL_law 9 13) (he : zend E K (some .boolean) (cMe K).name) (r28 : Nat → Nat → Nat → Nat → Nat → Int32 → zW → Option (Int32 × zW)) (hr28 : ∀ (v0 : Nat) (v1 : Nat) (v2 : Nat) (v3 : Nat) (v4 : Nat) (v5 : Int32) (σ : zW), zG E K zfW (r28 v0 v1 v2 v3 v4 v5 σ) σ 28 [some (.inr (.inl v0)), some (.inr (.inl v1)), some (.inr (.inl v2)), some (.inr (.inl v3)), some (.inr (.inl v4)), some (.inl v5), none, none, none] []) (v0 : Nat) (v1 : Nat) (v2 : Nat) (v3 : Nat) (v4 : Nat) (v5 : Int32) (σ : zW) : zG E K zfW (sL_law_1717 n r28 v0 v1 v2 v3 v4 v5 σ) σ 1717 [some (.inr (.inl v0)), some (.inr (.inl v1)), some (.inr (.inl v2)), some (.inr (.inl v3)), some (.inr (.inl v4)), some (.inl v5), none, none, none] [] := by
  unfold sL_law_1717
  refine z_goto hk (z_row hL_law_16 55 rfl) (tgt := 2620) rfl ?_
  exact gsL_law_2620 F n hk he r28 hr28 v0 v1 v2 v3 v4 v5 σ
theorem gsL_law_1652 (F : zFx E) (n : Nat) (hk : zk E K "LotSalesLaw" cL_law 9 13) (he : zend E K (some .boolean) (cMe K).name) (r28 : Nat → Nat → Nat → Nat → Nat → Int32 → zW → Option (Int32 × zW)) (hr28 : ∀ (v0 : Nat) (v1 : Nat) (v2 : Nat) (v3 : Nat) (v4 : Nat) (v5 : Int32) (σ : zW), zG E K zfW (r28 v0 v1 v2 v3 v4 v5 σ) σ 28 [some (.inr (.inl v0)), some (.inr (.inl v1)), some (.inr (.inl v2)), some (.inr (.inl v3)), some (.inr (.inl v4)), some (.inl v5), none, none, none] []) (v0 : Nat) (v1 : Nat) (v2 : Nat) (v3 : Nat) (v4 : Nat) (v5 : Int32) (σ : zW) : zG E K zfW (sL_law_1652 n r28 v0 v1 v2 v3 v4 v5 σ) σ 1652 [some (.inr (.inl v0)), some (.inr (.inl v1)), some (.inr (.inl v2)), some (.inr (.inl v3)), some (.inr (.inl v4)), some (.inl v5), none, none, none] [] := by
  unfold sL_law_1652
  refine z_run hk hL_law_16 11 5 (pc' := 1658) (lv' := [some (.inr (.inl v0)), some (.inr (.inl v1)), some (.inr (.inl v2)), some (.inr (.inl v3)), some (.inr (.inl v4)), some (.inl v5), none, none, none]) (st' := [.inl (v5 + 1), .inr (.inl v0), .inr (.inl v1)]) rfl ?_
  refine z_aI hk (z_row hL_law_16 16 rfl) (fun x209 => ?_)
  refine z_run hk hL_law_16 17 4 (pc' := 1664) (lv' := [some (.inr (.inl v0)), some (.inr (.inl v1)), some (.inr (.inl v2)), some (.inr (.inl v3)), some (.inr (.inl v4)), some (.inl v5), none, none, none]) (st' := [.inl (v5 + 2), .inr (.inl v0), .inl x209, .inr (.inl v1)]) rfl ?_
  refine z_aI hk (z_row hL_law_16 21 rfl) (fun x210 => ?_)
  refine z_run hk hL_law_16 22 1 (pc' := 1666) (lv' := [some (.inr (.inl v0)), some (.inr (.inl v1)), some (.inr (.inl v2)), some (.inr (.inl v3)), some (.inr (.inl v4)), some (.inl v5), none, none, none]) (st' := [.inr (.inl v3), .inl x210, .inl x209, .inr (.inl v1)]) rfl ?_
  refine kL_offer F hk (z_row hL_law_16 23 rfl) wd_860 (by decide) (Nat.le_of_ble_eq_true rfl) (fun x211 σ212 => ?_)
  refine z_run hk hL_law_16 24 6 (pc' := 1677) (lv' := [some (.inr (.inl v0)), some (.inr (.inl v1)), some (.inr (.inl v2)), some (.inr (.inl v3)), some (.inr (.inl v4)), some (.inl v5), some (.inl x211), none, none]) (st' := [.inl (v5 + 1), .inr (.inl v0), .inr (.inl v2)]) rfl ?_
  refine z_aI hk (z_row hL_law_16 30 rfl) (fun x213 => ?_)
  refine z_run hk hL_law_16 31 4 (pc' := 1683) (lv' := [some (.inr (.inl v0)), some (.inr (.inl v1)), some (.inr (.inl v2)), some (.inr (.inl v3)), some (.inr (.inl v4)), some (.inl v5), some (.inl x211), none, none]) (st' := [.inl (v5 + 2), .inr (.inl v0), .inl x213, .inr (.inl v2)]) rfl ?_
  refine z_aI hk (z_row hL_law_16 35 rfl) (fun x214 => ?_)
  refine kX8_offer F hk (z_row hL_law_16 36 rfl) wd_1404 (by decide) (Nat.le_of_ble_eq_true rfl) (fun x215 σ216 => ?_)
  refine z_run hk hL_law_16 37 2 (pc' := 1690) (lv' := [some (.inr (.inl v0)), some (.inr (.inl v1)), some (.inr (.inl v2)), some (.inr (.inl v3)), some (.inr (.inl v4)), some (.inl v5), some (.inl x211), some (.inl x215), none]) (st' := [.inr (.inl v2)]) rfl ?_
  refine kX8_thrown F hk (z_row hL_law_16 39 rfl) wd_1112 (by decide) (Nat.le_of_ble_eq_true rfl) (fun x217 => ?_)
  refine z_run hk hL_law_16 40 1 (pc' := 1695) (lv' := [some (.inr (.inl v0)), some (.inr (.inl v1)), some (.inr (.inl v2)), some (.inr (.inl v3)), some (.inr (.inl v4)), some (.inl v5), some (.inl x211), some (.inl x215), none]) (st' := [.inl x211, .inl x217]) rfl ?_
  refine z_ceq hk (z_row hL_law_16 41 rfl) (tgt := 1700) rfl ?_ ?_
  · refine z_run hk hL_law_16 44 1 (pc' := 1702) (lv' := [some (.inr (.inl v0)), some (.inr (.inl v1)), some (.inr (.inl v2)), some (.inr (.inl v3)), some (.inr (.inl v4)), some (.inl v5), some (.inl x211), some (.inl x215), none]) (st' := [.inl x211]) rfl ?_
    refine z_ne hk (z_row hL_law_16 45 rfl) (tgt := 1717) rfl ?_ ?_
    · refine z_mask [true, true, true, true, true, true, false, false, false] rfl ?_
      exact gsL_law_1717 F n hk he r28 hr28 v0 v1 v2 v3 v4 v5 σ216
    · refine z_run hk hL_law_16 46 2 (pc' := 1707) (lv' := [some (.inr (.inl v0)), some (.inr (.inl v1)), some (.inr (.inl v2)), some (.inr (.inl v3)), some (.inr (.inl v4)), some (.inl v5), some (.inl x211), some (.inl x215), none]) (st' := [.inl 0, .inr (.inl v3)]) rfl ?_
      refine z_aL hk (z_row hL_law_16 48 rfl) (fun x218 => ?_)
      refine z_run hk hL_law_16 49 3 (pc' := 1712) (lv' := [some (.inr (.inl v0)), some (.inr (.inl v1)), some (.inr (.inl v2)), some (.inr (.inl v3)), some (.inr (.inl v4)), some (.inl v5), some (.inl x211), some (.inl x215), none]) (st' := [.inl (lg_cmp (x218.toInt64) (x215.toInt64))]) rfl ?_
      refine z_eq hk (z_row hL_law_16 52 rfl) (tgt := 1717) rfl ?_ ?_
      · refine z_mask [true, true, true, true, true, true, false, false, false] rfl ?_
        exact gsL_law_1717 F n hk he r28 hr28 v0 v1 v2 v3 v4 v5 σ216
      · refine z_run hk hL_law_16 53 1 (pc' := 1716) (lv' := [some (.inr (.inl v0)), some (.inr (.inl v1)), some (.inr (.inl v2)), some (.inr (.inl v3)), some (.inr (.inl v4)), some (.inl v5), some (.inl x211), some (.inl x215), none]) (st' := [.inl 0]) rfl ?_
        exact z_zret (fin := zfW) (o := (0, σ216)) hk he (z_row hL_law_16 54 rfl) rfl
  · refine z_run hk hL_law_16 42 1 (pc' := 1699) (lv' := [some (.inr (.inl v0)), some (.inr (.inl v1)), some (.inr (.inl v2)), some (.inr (.inl v3)), some (.inr (.inl v4)), some (.inl v5), some (.inl x211), some (.inl x215), none]) (st' := [.inl 0]) rfl ?_
    exact z_zret (fin := zfW) (o := (0, σ216)) hk he (z_row hL_law_16 43 rfl) rfl
theorem gsL_law_1785 (F : zFx E) (n : Nat) (hk : zk E K "LotSalesLaw" cL_law 9 13) (he : zend E K (some .boolean) (cMe K).name) (r28 : Nat → Nat → Nat → Nat → Nat → Int32 → zW → Option (Int32 × zW)) (hr28 : ∀ (v0 : Nat) (v1 : Nat) (v2 : Nat) (v3 : Nat) (v4 : Nat) (v5 : Int32) (σ : zW), zG E K zfW (r28 v0 v1 v2 v3 v4 v5 σ) σ 28 [some (.inr (.inl v0)), some (.inr (.inl v1)), some (.inr (.inl v2)), some (.inr (.inl v3)), some (.inr (.inl v4)), some (.inl v5), none, none, none] []) (v0 : Nat) (v1 : Nat) (v2 : Nat) (v3 : Nat) (v4 : Nat) (v5 : Int32) (σ : zW) : zG E K zfW (sL_law_1785 n r28 v0 v1 v2 v3 v4 v5 σ) σ 1785 [some (.inr (.inl v0)), some (.inr (.inl v1)), some (.inr (.inl v2)), some (.inr (.inl v3)), some (.inr (.inl v4)), some (.inl v5), none, none, none] [] := by
  unfold sL_law_1785
  refine z_goto hk (z_row hL_law_17 40 rfl) (tgt := 2620) rfl ?_
  exact gsL_law_2620 F n hk he r28 hr28 v0 v1 v2 v3 v4 v5 σ
theorem gsL_law_1720 (F : zFx E) (n : Nat) (hk : zk E K "LotSalesLaw" cL_law 9 13) (he : zend E K (some .boolean) (cMe K).name) (r28 : Nat → Nat → Nat → Nat → Nat → Int32 → zW → Option (Int32 × zW)) (hr28 : ∀ (v0 : Nat) (v1 : Nat) (v2 : Nat) (v3 : Nat) (v4 : Nat) (v5 : Int32) (σ : zW), zG E K zfW (r28 v0 v1 v2 v3 v4 v5 σ) σ 28 [some (.inr (.inl v0)), some (.inr (.inl v1)), some (.inr (.inl v2)), some (.inr (.inl v3)), some (.inr (.inl v4)), some (.inl v5), none, none, none] []) (v0 : Nat) (v1 : Nat) (v2 : Nat) (v3 : Nat) (v4 : Nat) (v5 : Int32) (σ : zW) : zG E K zfW (sL_law_1720 n r28 v0 v1 v2 v3 v4 v5 σ) σ 1720 [some (.inr (.inl v0)), some (.inr (.inl v1)), some (.inr (.inl v2)), some (.inr (.inl v3)), some (.inr (.inl v4)), some (.inl v5), none, none, none] [] := by
  unfold sL_law_1720
  refine z_run hk hL_law_16 56 4 (pc' := 1725) (lv' := [some (.inr (.inl v0)), some (.inr (.inl v1)), some (.inr (.inl v2)), some (.inr (.inl v3)), some (.inr (.inl v4)), some (.inl v5), none, none, none]) (st' := [.inl 1, .inl v5, .inr (.inl v0), .inr (.inl v1)]) rfl ?_
  refine z_run hk hL_law_17 0 1 (pc' := 1726) (lv' := [some (.inr (.inl v0)), some (.inr (.inl v1)), some (.inr (.inl v2)), some (.inr (.inl v3)), some (.inr (.inl v4)), some (.inl v5), none, none, none]) (st' := [.inl (v5 + 1), .inr (.inl v0), .inr (.inl v1)]) rfl ?_
  refine z_aI hk (z_row hL_law_17 1 rfl) (fun x219 => ?_)
  refine z_run hk hL_law_17 2 4 (pc' := 1732) (lv' := [some (.inr (.inl v0)), some (.inr (.inl v1)), some (.inr (.inl v2)), some (.inr (.inl v3)), some (.inr (.inl v4)), some (.inl v5), none, none, none]) (st' := [.inl (v5 + 2), .inr (.inl v0), .inl x219, .inr (.inl v1)]) rfl ?_
  refine z_aI hk (z_row hL_law_17 6 rfl) (fun x220 => ?_)
  refine z_run hk hL_law_17 7 1 (pc' := 1734) (lv' := [some (.inr (.inl v0)), some (.inr (.inl v1)), some (.inr (.inl v2)), some (.inr (.inl v3)), some (.inr (.inl v4)), some (.inl v5), none, none, none]) (st' := [.inr (.inl v3), .inl x220, .inl x219, .inr (.inl v1)]) rfl ?_
  refine kL_split F hk (z_row hL_law_17 8 rfl) wd_867 (by decide) (Nat.le_of_ble_eq_true rfl) (fun x221 σ222 => ?_)
  refine z_run hk hL_law_17 9 6 (pc' := 1745) (lv' := [some (.inr (.inl v0)), some (.inr (.inl v1)), some (.inr (.inl v2)), some (.inr (.inl v3)), some (.inr (.inl v4)), some (.inl v5), some (.inl x221), none, none]) (st' := [.inl (v5 + 1), .inr (.inl v0), .inr (.inl v2)]) rfl ?_
  refine z_aI hk (z_row hL_law_17 15 rfl) (fun x223 => ?_)
  refine z_run hk hL_law_17 16 4 (pc' := 1751) (lv' := [some (.inr (.inl v0)), some (.inr (.inl v1)), some (.inr (.inl v2)), some (.inr (.inl v3)), some (.inr (.inl v4)), some (.inl v5), some (.inl x221), none, none]) (st' := [.inl (v5 + 2), .inr (.inl v0), .inl x223, .inr (.inl v2)]) rfl ?_
  refine z_aI hk (z_row hL_law_17 20 rfl) (fun x224 => ?_)
  refine kX8_split F hk (z_row hL_law_17 21 rfl) wd_1408 (by decide) (Nat.le_of_ble_eq_true rfl) (fun x225 σ226 => ?_)
  refine z_run hk hL_law_17 22 2 (pc' := 1758) (lv' := [some (.inr (.inl v0)), some (.inr (.inl v1)), some (.inr (.inl v2)), some (.inr (.inl v3)), some (.inr (.inl v4)), some (.inl v5), some (.inl x221), some (.inl x225), none]) (st' := [.inr (.inl v2)]) rfl ?_
  refine kX8_thrown F hk (z_row hL_law_17 24 rfl) wd_1112 (by decide) (Nat.le_of_ble_eq_true rfl) (fun x227 => ?_)
  refine z_run hk hL_law_17 25 1 (pc' := 1763) (lv' := [some (.inr (.inl v0)), some (.inr (.inl v1)), some (.inr (.inl v2)), some (.inr (.inl v3)), some (.inr (.inl v4)), some (.inl v5), some (.inl x221), some (.inl x225), none]) (st' := [.inl x221, .inl x227]) rfl ?_
  refine z_ceq hk (z_row hL_law_17 26 rfl) (tgt := 1768) rfl ?_ ?_
  · refine z_run hk hL_law_17 29 1 (pc' := 1770) (lv' := [some (.inr (.inl v0)), some (.inr (.inl v1)), some (.inr (.inl v2)), some (.inr (.inl v3)), some (.inr (.inl v4)), some (.inl v5), some (.inl x221), some (.inl x225), none]) (st' := [.inl x221]) rfl ?_
    refine z_ne hk (z_row hL_law_17 30 rfl) (tgt := 1785) rfl ?_ ?_
    · refine z_mask [true, true, true, true, true, true, false, false, false] rfl ?_
      exact gsL_law_1785 F n hk he r28 hr28 v0 v1 v2 v3 v4 v5 σ226
    · refine z_run hk hL_law_17 31 2 (pc' := 1775) (lv' := [some (.inr (.inl v0)), some (.inr (.inl v1)), some (.inr (.inl v2)), some (.inr (.inl v3)), some (.inr (.inl v4)), some (.inl v5), some (.inl x221), some (.inl x225), none]) (st' := [.inl 0, .inr (.inl v3)]) rfl ?_
      refine z_aL hk (z_row hL_law_17 33 rfl) (fun x228 => ?_)
      refine z_run hk hL_law_17 34 3 (pc' := 1780) (lv' := [some (.inr (.inl v0)), some (.inr (.inl v1)), some (.inr (.inl v2)), some (.inr (.inl v3)), some (.inr (.inl v4)), some (.inl v5), some (.inl x221), some (.inl x225), none]) (st' := [.inl (lg_cmp (x228.toInt64) (x225.toInt64))]) rfl ?_
      refine z_eq hk (z_row hL_law_17 37 rfl) (tgt := 1785) rfl ?_ ?_
      · refine z_mask [true, true, true, true, true, true, false, false, false] rfl ?_
        exact gsL_law_1785 F n hk he r28 hr28 v0 v1 v2 v3 v4 v5 σ226
      · refine z_run hk hL_law_17 38 1 (pc' := 1784) (lv' := [some (.inr (.inl v0)), some (.inr (.inl v1)), some (.inr (.inl v2)), some (.inr (.inl v3)), some (.inr (.inl v4)), some (.inl v5), some (.inl x221), some (.inl x225), none]) (st' := [.inl 0]) rfl ?_
        exact z_zret (fin := zfW) (o := (0, σ226)) hk he (z_row hL_law_17 39 rfl) rfl
  · refine z_run hk hL_law_17 27 1 (pc' := 1767) (lv' := [some (.inr (.inl v0)), some (.inr (.inl v1)), some (.inr (.inl v2)), some (.inr (.inl v3)), some (.inr (.inl v4)), some (.inl v5), some (.inl x221), some (.inl x225), none]) (st' := [.inl 0]) rfl ?_
    exact z_zret (fin := zfW) (o := (0, σ226)) hk he (z_row hL_law_17 28 rfl) rfl
theorem gsL_law_1853 (F : zFx E) (n : Nat) (hk : zk E K "LotSalesLaw" cL_law 9 13) (he : zend E K (some .boolean) (cMe K).name) (r28 : Nat → Nat → Nat → Nat → Nat → Int32 → zW → Option (Int32 × zW)) (hr28 : ∀ (v0 : Nat) (v1 : Nat) (v2 : Nat) (v3 : Nat) (v4 : Nat) (v5 : Int32) (σ : zW), zG E K zfW (r28 v0 v1 v2 v3 v4 v5 σ) σ 28 [some (.inr (.inl v0)), some (.inr (.inl v1)), some (.inr (.inl v2)), some (.inr (.inl v3)), some (.inr (.inl v4)), some (.inl v5), none, none, none] []) (v0 : Nat) (v1 : Nat) (v2 : Nat) (v3 : Nat) (v4 : Nat) (v5 : Int32) (σ : zW) : zG E K zfW (sL_law_1853 n r28 v0 v1 v2 v3 v4 v5 σ) σ 1853 [some (.inr (.inl v0)), some (.inr (.inl v1)), some (.inr (.inl v2)), some (.inr (.inl v3)), some (.inr (.inl v4)), some (.inl v5), none, none, none] [] := by
  unfold sL_law_1853
  refine z_goto hk (z_row hL_law_18 25 rfl) (tgt := 2620) rfl ?_
  exact gsL_law_2620 F n hk he r28 hr28 v0 v1 v2 v3 v4 v5 σ
theorem gsL_law_1788 (F : zFx E) (n : Nat) (hk : zk E K "LotSalesLaw" cL_law 9 13) (he : zend E K (some .boolean) (cMe K).name) (r28 : Nat → Nat → Nat → Nat → Nat → Int32 → zW → Option (Int32 × zW)) (hr28 : ∀ (v0 : Nat) (v1 : Nat) (v2 : Nat) (v3 : Nat) (v4 : Nat) (v5 : Int32) (σ : zW), zG E K zfW (r28 v0 v1 v2 v3 v4 v5 σ) σ 28 [some (.inr (.inl v0)), some (.inr (.inl v1)), some (.inr (.inl v2)), some (.inr (.inl v3)), some (.inr (.inl v4)), some (.inl v5), none, none, none] []) (v0 : Nat) (v1 : Nat) (v2 : Nat) (v3 : Nat) (v4 : Nat) (v5 : Int32) (σ : zW) : zG E K zfW (sL_law_1788 n r28 v0 v1 v2 v3 v4 v5 σ) σ 1788 [some (.inr (.inl v0)), some (.inr (.inl v1)), some (.inr (.inl v2)), some (.inr (.inl v3)), some (.inr (.inl v4)), some (.inl v5), none, none, none] [] := by
  unfold sL_law_1788
  refine z_run hk hL_law_17 41 5 (pc' := 1794) (lv' := [some (.inr (.inl v0)), some (.inr (.inl v1)), some (.inr (.inl v2)), some (.inr (.inl v3)), some (.inr (.inl v4)), some (.inl v5), none, none, none]) (st' := [.inl (v5 + 1), .inr (.inl v0), .inr (.inl v1)]) rfl ?_
  refine z_aI hk (z_row hL_law_17 46 rfl) (fun x229 => ?_)
  refine z_run hk hL_law_17 47 4 (pc' := 1800) (lv' := [some (.inr (.inl v0)), some (.inr (.inl v1)), some (.inr (.inl v2)), some (.inr (.inl v3)), some (.inr (.inl v4)), some (.inl v5), none, none, none]) (st' := [.inl (v5 + 2), .inr (.inl v0), .inl x229, .inr (.inl v1)]) rfl ?_
  refine z_aI hk (z_row hL_law_17 51 rfl) (fun x230 => ?_)
  refine z_run hk hL_law_17 52 1 (pc' := 1802) (lv' := [some (.inr (.inl v0)), some (.inr (.inl v1)), some (.inr (.inl v2)), some (.inr (.inl v3)), some (.inr (.inl v4)), some (.inl v5), none, none, none]) (st' := [.inr (.inl v3), .inl x230, .inl x229, .inr (.inl v1)]) rfl ?_
  refine kL_group F hk (z_row hL_law_17 53 rfl) wd_896 (by decide) (Nat.le_of_ble_eq_true rfl) (fun x231 σ232 => ?_)
  refine z_run hk hL_law_17 54 6 (pc' := 1813) (lv' := [some (.inr (.inl v0)), some (.inr (.inl v1)), some (.inr (.inl v2)), some (.inr (.inl v3)), some (.inr (.inl v4)), some (.inl v5), some (.inl x231), none, none]) (st' := [.inl (v5 + 1), .inr (.inl v0), .inr (.inl v2)]) rfl ?_
  refine z_aI hk (z_row hL_law_18 0 rfl) (fun x233 => ?_)
  refine z_run hk hL_law_18 1 4 (pc' := 1819) (lv' := [some (.inr (.inl v0)), some (.inr (.inl v1)), some (.inr (.inl v2)), some (.inr (.inl v3)), some (.inr (.inl v4)), some (.inl v5), some (.inl x231), none, none]) (st' := [.inl (v5 + 2), .inr (.inl v0), .inl x233, .inr (.inl v2)]) rfl ?_
  refine z_aI hk (z_row hL_law_18 5 rfl) (fun x234 => ?_)
  refine kX8_group F hk (z_row hL_law_18 6 rfl) wd_1422 (by decide) (Nat.le_of_ble_eq_true rfl) (fun x235 σ236 => ?_)
  refine z_run hk hL_law_18 7 2 (pc' := 1826) (lv' := [some (.inr (.inl v0)), some (.inr (.inl v1)), some (.inr (.inl v2)), some (.inr (.inl v3)), some (.inr (.inl v4)), some (.inl v5), some (.inl x231), some (.inl x235), none]) (st' := [.inr (.inl v2)]) rfl ?_
  refine kX8_thrown F hk (z_row hL_law_18 9 rfl) wd_1112 (by decide) (Nat.le_of_ble_eq_true rfl) (fun x237 => ?_)
  refine z_run hk hL_law_18 10 1 (pc' := 1831) (lv' := [some (.inr (.inl v0)), some (.inr (.inl v1)), some (.inr (.inl v2)), some (.inr (.inl v3)), some (.inr (.inl v4)), some (.inl v5), some (.inl x231), some (.inl x235), none]) (st' := [.inl x231, .inl x237]) rfl ?_
  refine z_ceq hk (z_row hL_law_18 11 rfl) (tgt := 1836) rfl ?_ ?_
  · refine z_run hk hL_law_18 14 1 (pc' := 1838) (lv' := [some (.inr (.inl v0)), some (.inr (.inl v1)), some (.inr (.inl v2)), some (.inr (.inl v3)), some (.inr (.inl v4)), some (.inl v5), some (.inl x231), some (.inl x235), none]) (st' := [.inl x231]) rfl ?_
    refine z_ne hk (z_row hL_law_18 15 rfl) (tgt := 1853) rfl ?_ ?_
    · refine z_mask [true, true, true, true, true, true, false, false, false] rfl ?_
      exact gsL_law_1853 F n hk he r28 hr28 v0 v1 v2 v3 v4 v5 σ236
    · refine z_run hk hL_law_18 16 2 (pc' := 1843) (lv' := [some (.inr (.inl v0)), some (.inr (.inl v1)), some (.inr (.inl v2)), some (.inr (.inl v3)), some (.inr (.inl v4)), some (.inl v5), some (.inl x231), some (.inl x235), none]) (st' := [.inl 0, .inr (.inl v3)]) rfl ?_
      refine z_aL hk (z_row hL_law_18 18 rfl) (fun x238 => ?_)
      refine z_run hk hL_law_18 19 3 (pc' := 1848) (lv' := [some (.inr (.inl v0)), some (.inr (.inl v1)), some (.inr (.inl v2)), some (.inr (.inl v3)), some (.inr (.inl v4)), some (.inl v5), some (.inl x231), some (.inl x235), none]) (st' := [.inl (lg_cmp (x238.toInt64) (x235.toInt64))]) rfl ?_
      refine z_eq hk (z_row hL_law_18 22 rfl) (tgt := 1853) rfl ?_ ?_
      · refine z_mask [true, true, true, true, true, true, false, false, false] rfl ?_
        exact gsL_law_1853 F n hk he r28 hr28 v0 v1 v2 v3 v4 v5 σ236
      · refine z_run hk hL_law_18 23 1 (pc' := 1852) (lv' := [some (.inr (.inl v0)), some (.inr (.inl v1)), some (.inr (.inl v2)), some (.inr (.inl v3)), some (.inr (.inl v4)), some (.inl v5), some (.inl x231), some (.inl x235), none]) (st' := [.inl 0]) rfl ?_
        exact z_zret (fin := zfW) (o := (0, σ236)) hk he (z_row hL_law_18 24 rfl) rfl
  · refine z_run hk hL_law_18 12 1 (pc' := 1835) (lv' := [some (.inr (.inl v0)), some (.inr (.inl v1)), some (.inr (.inl v2)), some (.inr (.inl v3)), some (.inr (.inl v4)), some (.inl v5), some (.inl x231), some (.inl x235), none]) (st' := [.inl 0]) rfl ?_
    exact z_zret (fin := zfW) (o := (0, σ236)) hk he (z_row hL_law_18 13 rfl) rfl
theorem gsL_law_1909 (F : zFx E) (n : Nat) (hk : zk E K "LotSalesLaw" cL_law 9 13) (he : zend E K (some .boolean) (cMe K).name) (r28 : Nat → Nat → Nat → Nat → Nat → Int32 → zW → Option (Int32 × zW)) (hr28 : ∀ (v0 : Nat) (v1 : Nat) (v2 : Nat) (v3 : Nat) (v4 : Nat) (v5 : Int32) (σ : zW), zG E K zfW (r28 v0 v1 v2 v3 v4 v5 σ) σ 28 [some (.inr (.inl v0)), some (.inr (.inl v1)), some (.inr (.inl v2)), some (.inr (.inl v3)), some (.inr (.inl v4)), some (.inl v5), none, none, none] []) (v0 : Nat) (v1 : Nat) (v2 : Nat) (v3 : Nat) (v4 : Nat) (v5 : Int32) (σ : zW) : zG E K zfW (sL_law_1909 n r28 v0 v1 v2 v3 v4 v5 σ) σ 1909 [some (.inr (.inl v0)), some (.inr (.inl v1)), some (.inr (.inl v2)), some (.inr (.inl v3)), some (.inr (.inl v4)), some (.inl v5), none, none, none] [] := by
  unfold sL_law_1909
  refine z_goto hk (z_row hL_law_19 0 rfl) (tgt := 2620) rfl ?_
  exact gsL_law_2620 F n hk he r28 hr28 v0 v1 v2 v3 v4 v5 σ
theorem gsL_law_1856 (F : zFx E) (n : Nat) (hk : zk E K "LotSalesLaw" cL_law 9 13) (he : zend E K (some .boolean) (cMe K).name) (r28 : Nat → Nat → Nat → Nat → Nat → Int32 → zW → Option (Int32 × zW)) (hr28 : ∀ (v0 : Nat) (v1 : Nat) (v2 : Nat) (v3 : Nat) (v4 : Nat) (v5 : Int32) (σ : zW), zG E K zfW (r28 v0 v1 v2 v3 v4 v5 σ) σ 28 [some (.inr (.inl v0)), some (.inr (.inl v1)), some (.inr (.inl v2)), some (.inr (.inl v3)), some (.inr (.inl v4)), some (.inl v5), none, none, none] []) (v0 : Nat) (v1 : Nat) (v2 : Nat) (v3 : Nat) (v4 : Nat) (v5 : Int32) (σ : zW) : zG E K zfW (sL_law_1856 n r28 v0 v1 v2 v3 v4 v5 σ) σ 1856 [some (.inr (.inl v0)), some (.inr (.inl v1)), some (.inr (.inl v2)), some (.inr (.inl v3)), some (.inr (.inl v4)), some (.inl v5), none, none, none] [] := by
  unfold sL_law_1856
  refine z_run hk hL_law_18 26 5 (pc' := 1862) (lv' := [some (.inr (.inl v0)), some (.inr (.inl v1)), some (.inr (.inl v2)), some (.inr (.inl v3)), some (.inr (.inl v4)), some (.inl v5), none, none, none]) (st' := [.inl (v5 + 1), .inr (.inl v0), .inr (.inl v1)]) rfl ?_
  refine z_aI hk (z_row hL_law_18 31 rfl) (fun x239 => ?_)
  refine z_run hk hL_law_18 32 1 (pc' := 1864) (lv' := [some (.inr (.inl v0)), some (.inr (.inl v1)), some (.inr (.inl v2)), some (.inr (.inl v3)), some (.inr (.inl v4)), some (.inl v5), none, none, none]) (st' := [.inr (.inl v3), .inl x239, .inr (.inl v1)]) rfl ?_
  refine kL_why F hk (z_row hL_law_18 33 rfl) wd_910 (by decide) (Nat.le_of_ble_eq_true rfl) (fun x240 σ241 => ?_)
  refine z_run hk hL_law_18 34 6 (pc' := 1875) (lv' := [some (.inr (.inl v0)), some (.inr (.inl v1)), some (.inr (.inl v2)), some (.inr (.inl v3)), some (.inr (.inl v4)), some (.inl v5), some (.inl x240), none, none]) (st' := [.inl (v5 + 1), .inr (.inl v0), .inr (.inl v2)]) rfl ?_
  refine z_aI hk (z_row hL_law_18 40 rfl) (fun x242 => ?_)
  refine kX8_why F hk (z_row hL_law_18 41 rfl) wd_1426 (by decide) (Nat.le_of_ble_eq_true rfl) (fun x243 σ244 => ?_)
  refine z_run hk hL_law_18 42 2 (pc' := 1882) (lv' := [some (.inr (.inl v0)), some (.inr (.inl v1)), some (.inr (.inl v2)), some (.inr (.inl v3)), some (.inr (.inl v4)), some (.inl v5), some (.inl x240), some (.inl x243), none]) (st' := [.inr (.inl v2)]) rfl ?_
  refine kX8_thrown F hk (z_row hL_law_18 44 rfl) wd_1112 (by decide) (Nat.le_of_ble_eq_true rfl) (fun x245 => ?_)
  refine z_run hk hL_law_18 45 1 (pc' := 1887) (lv' := [some (.inr (.inl v0)), some (.inr (.inl v1)), some (.inr (.inl v2)), some (.inr (.inl v3)), some (.inr (.inl v4)), some (.inl v5), some (.inl x240), some (.inl x243), none]) (st' := [.inl x240, .inl x245]) rfl ?_
  refine z_ceq hk (z_row hL_law_18 46 rfl) (tgt := 1892) rfl ?_ ?_
  · refine z_run hk hL_law_18 49 1 (pc' := 1894) (lv' := [some (.inr (.inl v0)), some (.inr (.inl v1)), some (.inr (.inl v2)), some (.inr (.inl v3)), some (.inr (.inl v4)), some (.inl v5), some (.inl x240), some (.inl x243), none]) (st' := [.inl x240]) rfl ?_
    refine z_ne hk (z_row hL_law_18 50 rfl) (tgt := 1909) rfl ?_ ?_
    · refine z_mask [true, true, true, true, true, true, false, false, false] rfl ?_
      exact gsL_law_1909 F n hk he r28 hr28 v0 v1 v2 v3 v4 v5 σ244
    · refine z_run hk hL_law_18 51 2 (pc' := 1899) (lv' := [some (.inr (.inl v0)), some (.inr (.inl v1)), some (.inr (.inl v2)), some (.inr (.inl v3)), some (.inr (.inl v4)), some (.inl v5), some (.inl x240), some (.inl x243), none]) (st' := [.inl 0, .inr (.inl v3)]) rfl ?_
      refine z_aL hk (z_row hL_law_18 53 rfl) (fun x246 => ?_)
      refine z_run hk hL_law_18 54 3 (pc' := 1904) (lv' := [some (.inr (.inl v0)), some (.inr (.inl v1)), some (.inr (.inl v2)), some (.inr (.inl v3)), some (.inr (.inl v4)), some (.inl v5), some (.inl x240), some (.inl x243), none]) (st' := [.inl (lg_cmp (x246.toInt64) (x243.toInt64))]) rfl ?_
      refine z_eq hk (z_row hL_law_18 57 rfl) (tgt := 1909) rfl ?_ ?_
      · refine z_mask [true, true, true, true, true, true, false, false, false] rfl ?_
        exact gsL_law_1909 F n hk he r28 hr28 v0 v1 v2 v3 v4 v5 σ244
      · refine z_run hk hL_law_18 58 1 (pc' := 1908) (lv' := [some (.inr (.inl v0)), some (.inr (.inl v1)), some (.inr (.inl v2)), some (.inr (.inl v3)), some (.inr (.inl v4)), some (.inl v5), some (.inl x240), some (.inl x243), none]) (st' := [.inl 0]) rfl ?_
        exact z_zret (fin := zfW) (o := (0, σ244)) hk he (z_row hL_law_18 59 rfl) rfl
  · refine z_run hk hL_law_18 47 1 (pc' := 1891) (lv' := [some (.inr (.inl v0)), some (.inr (.inl v1)), some (.inr (.inl v2)), some (.inr (.inl v3)), some (.inr (.inl v4)), some (.inl v5), some (.inl x240), some (.inl x243), none]) (st' := [.inl 0]) rfl ?_
    exact z_zret (fin := zfW) (o := (0, σ244)) hk he (z_row hL_law_18 48 rfl) rfl
theorem gsL_law_1993 (F : zFx E) (n : Nat) (hk : zk E K "LotSalesLaw" cL_law 9 13) (he : zend E K (some .boolean) (cMe K).name) (r28 : Nat → Nat → Nat → Nat → Nat → Int32 → zW → Option (Int32 × zW)) (hr28 : ∀ (v0 : Nat) (v1 : Nat) (v2 : Nat) (v3 : Nat) (v4 : Nat) (v5 : Int32) (σ : zW), zG E K zfW (r28 v0 v1 v2 v3 v4 v5 σ) σ 28 [some (.inr (.inl v0)), some (.inr (.inl v1)), some (.inr (.inl v2)), some (.inr (.inl v3)), some (.inr (.inl v4)), some (.inl v5), none, none, none] []) (v0 : Nat) (v1 : Nat) (v2 : Nat) (v3 : Nat) (v4 : Nat) (v5 : Int32) (σ : zW) : zG E K zfW (sL_law_1993 n r28 v0 v1 v2 v3 v4 v5 σ) σ 1993 [some (.inr (.inl v0)), some (.inr (.inl v1)), some (.inr (.inl v2)), some (.inr (.inl v3)), some (.inr (.inl v4)), some (.inl v5), none, none, none] [] := by
  unfold sL_law_1993
  refine z_goto hk (z_row hL_law_19 53 rfl) (tgt := 2620) rfl ?_
  exact gsL_law_2620 F n hk he r28 hr28 v0 v1 v2 v3 v4 v5 σ
theorem gsL_law_1960 (F : zFx E) (n : Nat) (hk : zk E K "LotSalesLaw" cL_law 9 13) (he : zend E K (some .boolean) (cMe K).name) (r28 : Nat → Nat → Nat → Nat → Nat → Int32 → zW → Option (Int32 × zW)) (hr28 : ∀ (v0 : Nat) (v1 : Nat) (v2 : Nat) (v3 : Nat) (v4 : Nat) (v5 : Int32) (σ : zW), zG E K zfW (r28 v0 v1 v2 v3 v4 v5 σ) σ 28 [some (.inr (.inl v0)), some (.inr (.inl v1)), some (.inr (.inl v2)), some (.inr (.inl v3)), some (.inr (.inl v4)), some (.inl v5), none, none, none] []) (v0 : Nat) (v1 : Nat) (v2 : Nat) (v3 : Nat) (v4 : Nat) (v5 : Int32) (v6 : Int32) (y0 : Nat) (y1 : Int32) (y2 : Int32) (σ : zW) : zG E K zfW (sL_law_1960 n r28 v0 v1 v2 v3 v4 v5 v6 y0 y1 y2 σ) σ 1960 [some (.inr (.inl v0)), some (.inr (.inl v1)), some (.inr (.inl v2)), some (.inr (.inl v3)), some (.inr (.inl v4)), some (.inl v5), some (.inl v6), none, none] [.inl y2, .inl y1, .inr (.inl y0)] := by
  unfold sL_law_1960
  refine kX8_sold F hk (z_row hL_law_19 34 rfl) wd_1430 (by decide) (Nat.le_of_ble_eq_true rfl) (fun x247 σ248 => ?_)
  refine z_run hk hL_law_19 35 2 (pc' := 1966) (lv' := [some (.inr (.inl v0)), some (.inr (.inl v1)), some (.inr (.inl v2)), some (.inr (.inl v3)), some (.inr (.inl v4)), some (.inl v5), some (.inl v6), some (.inl x247), none]) (st' := [.inr (.inl v2)]) rfl ?_
  refine kX8_thrown F hk (z_row hL_law_19 37 rfl) wd_1112 (by decide) (Nat.le_of_ble_eq_true rfl) (fun x249 => ?_)
  refine z_run hk hL_law_19 38 1 (pc' := 1971) (lv' := [some (.inr (.inl v0)), some (.inr (.inl v1)), some (.inr (.inl v2)), some (.inr (.inl v3)), some (.inr (.inl v4)), some (.inl v5), some (.inl v6), some (.inl x247), none]) (st' := [.inl v6, .inl x249]) rfl ?_
  refine z_ceq hk (z_row hL_law_19 39 rfl) (tgt := 1976) rfl ?_ ?_
  · refine z_run hk hL_law_19 42 1 (pc' := 1978) (lv' := [some (.inr (.inl v0)), some (.inr (.inl v1)), some (.inr (.inl v2)), some (.inr (.inl v3)), some (.inr (.inl v4)), some (.inl v5), some (.inl v6), some (.inl x247), none]) (st' := [.inl v6]) rfl ?_
    refine z_ne hk (z_row hL_law_19 43 rfl) (tgt := 1993) rfl ?_ ?_
    · refine z_mask [true, true, true, true, true, true, false, false, false] rfl ?_
      exact gsL_law_1993 F n hk he r28 hr28 v0 v1 v2 v3 v4 v5 σ248
    · refine z_run hk hL_law_19 44 2 (pc' := 1983) (lv' := [some (.inr (.inl v0)), some (.inr (.inl v1)), some (.inr (.inl v2)), some (.inr (.inl v3)), some (.inr (.inl v4)), some (.inl v5), some (.inl v6), some (.inl x247), none]) (st' := [.inl 0, .inr (.inl v3)]) rfl ?_
      refine z_aL hk (z_row hL_law_19 46 rfl) (fun x250 => ?_)
      refine z_run hk hL_law_19 47 3 (pc' := 1988) (lv' := [some (.inr (.inl v0)), some (.inr (.inl v1)), some (.inr (.inl v2)), some (.inr (.inl v3)), some (.inr (.inl v4)), some (.inl v5), some (.inl v6), some (.inl x247), none]) (st' := [.inl (lg_cmp (x250.toInt64) (x247.toInt64))]) rfl ?_
      refine z_eq hk (z_row hL_law_19 50 rfl) (tgt := 1993) rfl ?_ ?_
      · refine z_mask [true, true, true, true, true, true, false, false, false] rfl ?_
        exact gsL_law_1993 F n hk he r28 hr28 v0 v1 v2 v3 v4 v5 σ248
      · refine z_run hk hL_law_19 51 1 (pc' := 1992) (lv' := [some (.inr (.inl v0)), some (.inr (.inl v1)), some (.inr (.inl v2)), some (.inr (.inl v3)), some (.inr (.inl v4)), some (.inl v5), some (.inl v6), some (.inl x247), none]) (st' := [.inl 0]) rfl ?_
        exact z_zret (fin := zfW) (o := (0, σ248)) hk he (z_row hL_law_19 52 rfl) rfl
  · refine z_run hk hL_law_19 40 1 (pc' := 1975) (lv' := [some (.inr (.inl v0)), some (.inr (.inl v1)), some (.inr (.inl v2)), some (.inr (.inl v3)), some (.inr (.inl v4)), some (.inl v5), some (.inl v6), some (.inl x247), none]) (st' := [.inl 0]) rfl ?_
    exact z_zret (fin := zfW) (o := (0, σ248)) hk he (z_row hL_law_19 41 rfl) rfl
theorem gsL_law_1933 (F : zFx E) (n : Nat) (hk : zk E K "LotSalesLaw" cL_law 9 13) (he : zend E K (some .boolean) (cMe K).name) (r28 : Nat → Nat → Nat → Nat → Nat → Int32 → zW → Option (Int32 × zW)) (hr28 : ∀ (v0 : Nat) (v1 : Nat) (v2 : Nat) (v3 : Nat) (v4 : Nat) (v5 : Int32) (σ : zW), zG E K zfW (r28 v0 v1 v2 v3 v4 v5 σ) σ 28 [some (.inr (.inl v0)), some (.inr (.inl v1)), some (.inr (.inl v2)), some (.inr (.inl v3)), some (.inr (.inl v4)), some (.inl v5), none, none, none] []) (v0 : Nat) (v1 : Nat) (v2 : Nat) (v3 : Nat) (v4 : Nat) (v5 : Int32) (y0 : Nat) (y1 : Int32) (y2 : Int32) (σ : zW) : zG E K zfW (sL_law_1933 n r28 v0 v1 v2 v3 v4 v5 y0 y1 y2 σ) σ 1933 [some (.inr (.inl v0)), some (.inr (.inl v1)), some (.inr (.inl v2)), some (.inr (.inl v3)), some (.inr (.inl v4)), some (.inl v5), none, none, none] [.inl y2, .inl y1, .inr (.inl y0)] := by
  unfold sL_law_1933
  refine z_run hk hL_law_19 16 1 (pc' := 1934) (lv' := [some (.inr (.inl v0)), some (.inr (.inl v1)), some (.inr (.inl v2)), some (.inr (.inl v3)), some (.inr (.inl v4)), some (.inl v5), none, none, none]) (st' := [.inr (.inl v3), .inl y2, .inl y1, .inr (.inl y0)]) rfl ?_
  refine kL_sold F hk (z_row hL_law_19 17 rfl) wd_918 (by decide) (Nat.le_of_ble_eq_true rfl) (fun x251 σ252 => ?_)
  refine z_run hk hL_law_19 18 6 (pc' := 1945) (lv' := [some (.inr (.inl v0)), some (.inr (.inl v1)), some (.inr (.inl v2)), some (.inr (.inl v3)), some (.inr (.inl v4)), some (.inl v5), some (.inl x251), none, none]) (st' := [.inl (v5 + 1), .inr (.inl v0), .inr (.inl v2)]) rfl ?_
  refine z_aI hk (z_row hL_law_19 24 rfl) (fun x253 => ?_)
  refine z_run hk hL_law_19 25 4 (pc' := 1951) (lv' := [some (.inr (.inl v0)), some (.inr (.inl v1)), some (.inr (.inl v2)), some (.inr (.inl v3)), some (.inr (.inl v4)), some (.inl v5), some (.inl x251), none, none]) (st' := [.inl (v5 + 2), .inr (.inl v0), .inl x253, .inr (.inl v2)]) rfl ?_
  refine z_aI hk (z_row hL_law_19 29 rfl) (fun x254 => ?_)
  refine z_eq hk (z_row hL_law_19 30 rfl) (tgt := 1959) rfl ?_ ?_
  · refine z_run hk hL_law_19 33 1 (pc' := 1960) (lv' := [some (.inr (.inl v0)), some (.inr (.inl v1)), some (.inr (.inl v2)), some (.inr (.inl v3)), some (.inr (.inl v4)), some (.inl v5), some (.inl x251), none, none]) (st' := [.inl 0, .inl x253, .inr (.inl v2)]) rfl ?_
    exact gsL_law_1960 F n hk he r28 hr28 v0 v1 v2 v3 v4 v5 x251 v2 x253 0 σ252
  · refine z_run hk hL_law_19 31 1 (pc' := 1956) (lv' := [some (.inr (.inl v0)), some (.inr (.inl v1)), some (.inr (.inl v2)), some (.inr (.inl v3)), some (.inr (.inl v4)), some (.inl v5), some (.inl x251), none, none]) (st' := [.inl 1, .inl x253, .inr (.inl v2)]) rfl ?_
    refine z_goto hk (z_row hL_law_19 32 rfl) (tgt := 1960) rfl ?_
    exact gsL_law_1960 F n hk he r28 hr28 v0 v1 v2 v3 v4 v5 x251 v2 x253 1 σ252
theorem gsL_law_1912 (F : zFx E) (n : Nat) (hk : zk E K "LotSalesLaw" cL_law 9 13) (he : zend E K (some .boolean) (cMe K).name) (r28 : Nat → Nat → Nat → Nat → Nat → Int32 → zW → Option (Int32 × zW)) (hr28 : ∀ (v0 : Nat) (v1 : Nat) (v2 : Nat) (v3 : Nat) (v4 : Nat) (v5 : Int32) (σ : zW), zG E K zfW (r28 v0 v1 v2 v3 v4 v5 σ) σ 28 [some (.inr (.inl v0)), some (.inr (.inl v1)), some (.inr (.inl v2)), some (.inr (.inl v3)), some (.inr (.inl v4)), some (.inl v5), none, none, none] []) (v0 : Nat) (v1 : Nat) (v2 : Nat) (v3 : Nat) (v4 : Nat) (v5 : Int32) (σ : zW) : zG E K zfW (sL_law_1912 n r28 v0 v1 v2 v3 v4 v5 σ) σ 1912 [some (.inr (.inl v0)), some (.inr (.inl v1)), some (.inr (.inl v2)), some (.inr (.inl v3)), some (.inr (.inl v4)), some (.inl v5), none, none, none] [] := by
  unfold sL_law_1912
  refine z_run hk hL_law_19 1 5 (pc' := 1918) (lv' := [some (.inr (.inl v0)), some (.inr (.inl v1)), some (.inr (.inl v2)), some (.inr (.inl v3)), some (.inr (.inl v4)), some (.inl v5), none, none, none]) (st' := [.inl (v5 + 1), .inr (.inl v0), .inr (.inl v1)]) rfl ?_
  refine z_aI hk (z_row hL_law_19 6 rfl) (fun x255 => ?_)
  refine z_run hk hL_law_19 7 4 (pc' := 1924) (lv' := [some (.inr (.inl v0)), some (.inr (.inl v1)), some (.inr (.inl v2)), some (.inr (.inl v3)), some (.inr (.inl v4)), some (.inl v5), none, none, none]) (st' := [.inl (v5 + 2), .inr (.inl v0), .inl x255, .inr (.inl v1)]) rfl ?_
  refine z_aI hk (z_row hL_law_19 11 rfl) (fun x256 => ?_)
  refine z_eq hk (z_row hL_law_19 12 rfl) (tgt := 1932) rfl ?_ ?_
  · refine z_run hk hL_law_19 15 1 (pc' := 1933) (lv' := [some (.inr (.inl v0)), some (.inr (.inl v1)), some (.inr (.inl v2)), some (.inr (.inl v3)), some (.inr (.inl v4)), some (.inl v5), none, none, none]) (st' := [.inl 0, .inl x255, .inr (.inl v1)]) rfl ?_
    exact gsL_law_1933 F n hk he r28 hr28 v0 v1 v2 v3 v4 v5 v1 x255 0 σ
  · refine z_run hk hL_law_19 13 1 (pc' := 1929) (lv' := [some (.inr (.inl v0)), some (.inr (.inl v1)), some (.inr (.inl v2)), some (.inr (.inl v3)), some (.inr (.inl v4)), some (.inl v5), none, none, none]) (st' := [.inl 1, .inl x255, .inr (.inl v1)]) rfl ?_
    refine z_goto hk (z_row hL_law_19 14 rfl) (tgt := 1933) rfl ?_
    exact gsL_law_1933 F n hk he r28 hr28 v0 v1 v2 v3 v4 v5 v1 x255 1 σ
theorem gsL_law_2049 (F : zFx E) (n : Nat) (hk : zk E K "LotSalesLaw" cL_law 9 13) (he : zend E K (some .boolean) (cMe K).name) (r28 : Nat → Nat → Nat → Nat → Nat → Int32 → zW → Option (Int32 × zW)) (hr28 : ∀ (v0 : Nat) (v1 : Nat) (v2 : Nat) (v3 : Nat) (v4 : Nat) (v5 : Int32) (σ : zW), zG E K zfW (r28 v0 v1 v2 v3 v4 v5 σ) σ 28 [some (.inr (.inl v0)), some (.inr (.inl v1)), some (.inr (.inl v2)), some (.inr (.inl v3)), some (.inr (.inl v4)), some (.inl v5), none, none, none] []) (v0 : Nat) (v1 : Nat) (v2 : Nat) (v3 : Nat) (v4 : Nat) (v5 : Int32) (σ : zW) : zG E K zfW (sL_law_2049 n r28 v0 v1 v2 v3 v4 v5 σ) σ 2049 [some (.inr (.inl v0)), some (.inr (.inl v1)), some (.inr (.inl v2)), some (.inr (.inl v3)), some (.inr (.inl v4)), some (.inl v5), none, none, none] [] := by
  unfold sL_law_2049
  refine z_goto hk (z_row hL_law_20 28 rfl) (tgt := 2620) rfl ?_
  exact gsL_law_2620 F n hk he r28 hr28 v0 v1 v2 v3 v4 v5 σ
theorem gsL_law_1996 (F : zFx E) (n : Nat) (hk : zk E K "LotSalesLaw" cL_law 9 13) (he : zend E K (some .boolean) (cMe K).name) (r28 : Nat → Nat → Nat → Nat → Nat → Int32 → zW → Option (Int32 × zW)) (hr28 : ∀ (v0 : Nat) (v1 : Nat) (v2 : Nat) (v3 : Nat) (v4 : Nat) (v5 : Int32) (σ : zW), zG E K zfW (r28 v0 v1 v2 v3 v4 v5 σ) σ 28 [some (.inr (.inl v0)), some (.inr (.inl v1)), some (.inr (.inl v2)), some (.inr (.inl v3)), some (.inr (.inl v4)), some (.inl v5), none, none, none] []) (v0 : Nat) (v1 : Nat) (v2 : Nat) (v3 : Nat) (v4 : Nat) (v5 : Int32) (σ : zW) : zG E K zfW (sL_law_1996 n r28 v0 v1 v2 v3 v4 v5 σ) σ 1996 [some (.inr (.inl v0)), some (.inr (.inl v1)), some (.inr (.inl v2)), some (.inr (.inl v3)), some (.inr (.inl v4)), some (.inl v5), none, none, none] [] := by
  unfold sL_law_1996
  refine z_run hk hL_law_19 54 5 (pc' := 2002) (lv' := [some (.inr (.inl v0)), some (.inr (.inl v1)), some (.inr (.inl v2)), some (.inr (.inl v3)), some (.inr (.inl v4)), some (.inl v5), none, none, none]) (st' := [.inl (v5 + 1), .inr (.inl v0), .inr (.inl v1)]) rfl ?_
  refine z_aI hk (z_row hL_law_19 59 rfl) (fun x257 => ?_)
  refine z_run hk hL_law_20 0 1 (pc' := 2004) (lv' := [some (.inr (.inl v0)), some (.inr (.inl v1)), some (.inr (.inl v2)), some (.inr (.inl v3)), some (.inr (.inl v4)), some (.inl v5), none, none, none]) (st' := [.inr (.inl v3), .inl x257, .inr (.inl v1)]) rfl ?_
  refine kL_premium F hk (z_row hL_law_20 1 rfl) wd_926 (by decide) (Nat.le_of_ble_eq_true rfl) (fun x258 σ259 => ?_)
  refine z_run hk hL_law_20 2 6 (pc' := 2015) (lv' := [some (.inr (.inl v0)), some (.inr (.inl v1)), some (.inr (.inl v2)), some (.inr (.inl v3)), some (.inr (.inl v4)), some (.inl v5), some (.inl x258), none, none]) (st' := [.inl (v5 + 1), .inr (.inl v0), .inr (.inl v2)]) rfl ?_
  refine z_aI hk (z_row hL_law_20 8 rfl) (fun x260 => ?_)
  refine kX8_premium F hk (z_row hL_law_20 9 rfl) wd_1434 (by decide) (Nat.le_of_ble_eq_true rfl) (fun x261 σ262 => ?_)
  refine z_run hk hL_law_20 10 2 (pc' := 2022) (lv' := [some (.inr (.inl v0)), some (.inr (.inl v1)), some (.inr (.inl v2)), some (.inr (.inl v3)), some (.inr (.inl v4)), some (.inl v5), some (.inl x258), some (.inl x261), none]) (st' := [.inr (.inl v2)]) rfl ?_
  refine kX8_thrown F hk (z_row hL_law_20 12 rfl) wd_1112 (by decide) (Nat.le_of_ble_eq_true rfl) (fun x263 => ?_)
  refine z_run hk hL_law_20 13 1 (pc' := 2027) (lv' := [some (.inr (.inl v0)), some (.inr (.inl v1)), some (.inr (.inl v2)), some (.inr (.inl v3)), some (.inr (.inl v4)), some (.inl v5), some (.inl x258), some (.inl x261), none]) (st' := [.inl x258, .inl x263]) rfl ?_
  refine z_ceq hk (z_row hL_law_20 14 rfl) (tgt := 2032) rfl ?_ ?_
  · refine z_run hk hL_law_20 17 1 (pc' := 2034) (lv' := [some (.inr (.inl v0)), some (.inr (.inl v1)), some (.inr (.inl v2)), some (.inr (.inl v3)), some (.inr (.inl v4)), some (.inl v5), some (.inl x258), some (.inl x261), none]) (st' := [.inl x258]) rfl ?_
    refine z_ne hk (z_row hL_law_20 18 rfl) (tgt := 2049) rfl ?_ ?_
    · refine z_mask [true, true, true, true, true, true, false, false, false] rfl ?_
      exact gsL_law_2049 F n hk he r28 hr28 v0 v1 v2 v3 v4 v5 σ262
    · refine z_run hk hL_law_20 19 2 (pc' := 2039) (lv' := [some (.inr (.inl v0)), some (.inr (.inl v1)), some (.inr (.inl v2)), some (.inr (.inl v3)), some (.inr (.inl v4)), some (.inl v5), some (.inl x258), some (.inl x261), none]) (st' := [.inl 0, .inr (.inl v3)]) rfl ?_
      refine z_aL hk (z_row hL_law_20 21 rfl) (fun x264 => ?_)
      refine z_run hk hL_law_20 22 3 (pc' := 2044) (lv' := [some (.inr (.inl v0)), some (.inr (.inl v1)), some (.inr (.inl v2)), some (.inr (.inl v3)), some (.inr (.inl v4)), some (.inl v5), some (.inl x258), some (.inl x261), none]) (st' := [.inl (lg_cmp (x264.toInt64) (x261.toInt64))]) rfl ?_
      refine z_eq hk (z_row hL_law_20 25 rfl) (tgt := 2049) rfl ?_ ?_
      · refine z_mask [true, true, true, true, true, true, false, false, false] rfl ?_
        exact gsL_law_2049 F n hk he r28 hr28 v0 v1 v2 v3 v4 v5 σ262
      · refine z_run hk hL_law_20 26 1 (pc' := 2048) (lv' := [some (.inr (.inl v0)), some (.inr (.inl v1)), some (.inr (.inl v2)), some (.inr (.inl v3)), some (.inr (.inl v4)), some (.inl v5), some (.inl x258), some (.inl x261), none]) (st' := [.inl 0]) rfl ?_
        exact z_zret (fin := zfW) (o := (0, σ262)) hk he (z_row hL_law_20 27 rfl) rfl
  · refine z_run hk hL_law_20 15 1 (pc' := 2031) (lv' := [some (.inr (.inl v0)), some (.inr (.inl v1)), some (.inr (.inl v2)), some (.inr (.inl v3)), some (.inr (.inl v4)), some (.inl v5), some (.inl x258), some (.inl x261), none]) (st' := [.inl 0]) rfl ?_
    exact z_zret (fin := zfW) (o := (0, σ262)) hk he (z_row hL_law_20 16 rfl) rfl
theorem gsL_law_2117 (F : zFx E) (n : Nat) (hk : zk E K "LotSalesLaw" cL_law 9 13) (he : zend E K (some .boolean) (cMe K).name) (r28 : Nat → Nat → Nat → Nat → Nat → Int32 → zW → Option (Int32 × zW)) (hr28 : ∀ (v0 : Nat) (v1 : Nat) (v2 : Nat) (v3 : Nat) (v4 : Nat) (v5 : Int32) (σ : zW), zG E K zfW (r28 v0 v1 v2 v3 v4 v5 σ) σ 28 [some (.inr (.inl v0)), some (.inr (.inl v1)), some (.inr (.inl v2)), some (.inr (.inl v3)), some (.inr (.inl v4)), some (.inl v5), none, none, none] []) (v0 : Nat) (v1 : Nat) (v2 : Nat) (v3 : Nat) (v4 : Nat) (v5 : Int32) (σ : zW) : zG E K zfW (sL_law_2117 n r28 v0 v1 v2 v3 v4 v5 σ) σ 2117 [some (.inr (.inl v0)), some (.inr (.inl v1)), some (.inr (.inl v2)), some (.inr (.inl v3)), some (.inr (.inl v4)), some (.inl v5), none, none, none] [] := by
  unfold sL_law_2117
  refine z_goto hk (z_row hL_law_21 13 rfl) (tgt := 2620) rfl ?_
  exact gsL_law_2620 F n hk he r28 hr28 v0 v1 v2 v3 v4 v5 σ
theorem gsL_law_2052 (F : zFx E) (n : Nat) (hk : zk E K "LotSalesLaw" cL_law 9 13) (he : zend E K (some .boolean) (cMe K).name) (r28 : Nat → Nat → Nat → Nat → Nat → Int32 → zW → Option (Int32 × zW)) (hr28 : ∀ (v0 : Nat) (v1 : Nat) (v2 : Nat) (v3 : Nat) (v4 : Nat) (v5 : Int32) (σ : zW), zG E K zfW (r28 v0 v1 v2 v3 v4 v5 σ) σ 28 [some (.inr (.inl v0)), some (.inr (.inl v1)), some (.inr (.inl v2)), some (.inr (.inl v3)), some (.inr (.inl v4)), some (.inl v5), none, none, none] []) (v0 : Nat) (v1 : Nat) (v2 : Nat) (v3 : Nat) (v4 : Nat) (v5 : Int32) (σ : zW) : zG E K zfW (sL_law_2052 n r28 v0 v1 v2 v3 v4 v5 σ) σ 2052 [some (.inr (.inl v0)), some (.inr (.inl v1)), some (.inr (.inl v2)), some (.inr (.inl v3)), some (.inr (.inl v4)), some (.inl v5), none, none, none] [] := by
  unfold sL_law_2052
  refine z_run hk hL_law_20 29 5 (pc' := 2058) (lv' := [some (.inr (.inl v0)), some (.inr (.inl v1)), some (.inr (.inl v2)), some (.inr (.inl v3)), some (.inr (.inl v4)), some (.inl v5), none, none, none]) (st' := [.inl (v5 + 1), .inr (.inl v0), .inr (.inl v1)]) rfl ?_
  refine z_aI hk (z_row hL_law_20 34 rfl) (fun x265 => ?_)
  refine z_run hk hL_law_20 35 4 (pc' := 2064) (lv' := [some (.inr (.inl v0)), some (.inr (.inl v1)), some (.inr (.inl v2)), some (.inr (.inl v3)), some (.inr (.inl v4)), some (.inl v5), none, none, none]) (st' := [.inl (v5 + 2), .inr (.inl v0), .inl x265, .inr (.inl v1)]) rfl ?_
  refine z_aI hk (z_row hL_law_20 39 rfl) (fun x266 => ?_)
  refine z_run hk hL_law_20 40 1 (pc' := 2066) (lv' := [some (.inr (.inl v0)), some (.inr (.inl v1)), some (.inr (.inl v2)), some (.inr (.inl v3)), some (.inr (.inl v4)), some (.inl v5), none, none, none]) (st' := [.inr (.inl v3), .inl x266, .inl x265, .inr (.inl v1)]) rfl ?_
  refine kL_bidder F hk (z_row hL_law_20 41 rfl) wd_937 (by decide) (Nat.le_of_ble_eq_true rfl) (fun x267 σ268 => ?_)
  refine z_run hk hL_law_20 42 6 (pc' := 2077) (lv' := [some (.inr (.inl v0)), some (.inr (.inl v1)), some (.inr (.inl v2)), some (.inr (.inl v3)), some (.inr (.inl v4)), some (.inl v5), some (.inl x267), none, none]) (st' := [.inl (v5 + 1), .inr (.inl v0), .inr (.inl v2)]) rfl ?_
  refine z_aI hk (z_row hL_law_20 48 rfl) (fun x269 => ?_)
  refine z_run hk hL_law_20 49 4 (pc' := 2083) (lv' := [some (.inr (.inl v0)), some (.inr (.inl v1)), some (.inr (.inl v2)), some (.inr (.inl v3)), some (.inr (.inl v4)), some (.inl v5), some (.inl x267), none, none]) (st' := [.inl (v5 + 2), .inr (.inl v0), .inl x269, .inr (.inl v2)]) rfl ?_
  refine z_aI hk (z_row hL_law_20 53 rfl) (fun x270 => ?_)
  refine kX8_bidder F hk (z_row hL_law_20 54 rfl) wd_1438 (by decide) (Nat.le_of_ble_eq_true rfl) (fun x271 σ272 => ?_)
  refine z_run hk hL_law_20 55 2 (pc' := 2090) (lv' := [some (.inr (.inl v0)), some (.inr (.inl v1)), some (.inr (.inl v2)), some (.inr (.inl v3)), some (.inr (.inl v4)), some (.inl v5), some (.inl x267), some (.inl x271), none]) (st' := [.inr (.inl v2)]) rfl ?_
  refine kX8_thrown F hk (z_row hL_law_20 57 rfl) wd_1112 (by decide) (Nat.le_of_ble_eq_true rfl) (fun x273 => ?_)
  refine z_run hk hL_law_20 58 1 (pc' := 2095) (lv' := [some (.inr (.inl v0)), some (.inr (.inl v1)), some (.inr (.inl v2)), some (.inr (.inl v3)), some (.inr (.inl v4)), some (.inl v5), some (.inl x267), some (.inl x271), none]) (st' := [.inl x267, .inl x273]) rfl ?_
  refine z_ceq hk (z_row hL_law_20 59 rfl) (tgt := 2100) rfl ?_ ?_
  · refine z_run hk hL_law_21 2 1 (pc' := 2102) (lv' := [some (.inr (.inl v0)), some (.inr (.inl v1)), some (.inr (.inl v2)), some (.inr (.inl v3)), some (.inr (.inl v4)), some (.inl v5), some (.inl x267), some (.inl x271), none]) (st' := [.inl x267]) rfl ?_
    refine z_ne hk (z_row hL_law_21 3 rfl) (tgt := 2117) rfl ?_ ?_
    · refine z_mask [true, true, true, true, true, true, false, false, false] rfl ?_
      exact gsL_law_2117 F n hk he r28 hr28 v0 v1 v2 v3 v4 v5 σ272
    · refine z_run hk hL_law_21 4 2 (pc' := 2107) (lv' := [some (.inr (.inl v0)), some (.inr (.inl v1)), some (.inr (.inl v2)), some (.inr (.inl v3)), some (.inr (.inl v4)), some (.inl v5), some (.inl x267), some (.inl x271), none]) (st' := [.inl 0, .inr (.inl v3)]) rfl ?_
      refine z_aL hk (z_row hL_law_21 6 rfl) (fun x274 => ?_)
      refine z_run hk hL_law_21 7 3 (pc' := 2112) (lv' := [some (.inr (.inl v0)), some (.inr (.inl v1)), some (.inr (.inl v2)), some (.inr (.inl v3)), some (.inr (.inl v4)), some (.inl v5), some (.inl x267), some (.inl x271), none]) (st' := [.inl (lg_cmp (x274.toInt64) (x271.toInt64))]) rfl ?_
      refine z_eq hk (z_row hL_law_21 10 rfl) (tgt := 2117) rfl ?_ ?_
      · refine z_mask [true, true, true, true, true, true, false, false, false] rfl ?_
        exact gsL_law_2117 F n hk he r28 hr28 v0 v1 v2 v3 v4 v5 σ272
      · refine z_run hk hL_law_21 11 1 (pc' := 2116) (lv' := [some (.inr (.inl v0)), some (.inr (.inl v1)), some (.inr (.inl v2)), some (.inr (.inl v3)), some (.inr (.inl v4)), some (.inl v5), some (.inl x267), some (.inl x271), none]) (st' := [.inl 0]) rfl ?_
        exact z_zret (fin := zfW) (o := (0, σ272)) hk he (z_row hL_law_21 12 rfl) rfl
  · refine z_run hk hL_law_21 0 1 (pc' := 2099) (lv' := [some (.inr (.inl v0)), some (.inr (.inl v1)), some (.inr (.inl v2)), some (.inr (.inl v3)), some (.inr (.inl v4)), some (.inl v5), some (.inl x267), some (.inl x271), none]) (st' := [.inl 0]) rfl ?_
    exact z_zret (fin := zfW) (o := (0, σ272)) hk he (z_row hL_law_21 1 rfl) rfl
theorem gsL_law_2185 (F : zFx E) (n : Nat) (hk : zk E K "LotSalesLaw" cL_law 9 13) (he : zend E K (some .boolean) (cMe K).name) (r28 : Nat → Nat → Nat → Nat → Nat → Int32 → zW → Option (Int32 × zW)) (hr28 : ∀ (v0 : Nat) (v1 : Nat) (v2 : Nat) (v3 : Nat) (v4 : Nat) (v5 : Int32) (σ : zW), zG E K zfW (r28 v0 v1 v2 v3 v4 v5 σ) σ 28 [some (.inr (.inl v0)), some (.inr (.inl v1)), some (.inr (.inl v2)), some (.inr (.inl v3)), some (.inr (.inl v4)), some (.inl v5), none, none, none] []) (v0 : Nat) (v1 : Nat) (v2 : Nat) (v3 : Nat) (v4 : Nat) (v5 : Int32) (σ : zW) : zG E K zfW (sL_law_2185 n r28 v0 v1 v2 v3 v4 v5 σ) σ 2185 [some (.inr (.inl v0)), some (.inr (.inl v1)), some (.inr (.inl v2)), some (.inr (.inl v3)), some (.inr (.inl v4)), some (.inl v5), none, none, none] [] := by
  unfold sL_law_2185
  refine z_goto hk (z_row hL_law_21 58 rfl) (tgt := 2620) rfl ?_
  exact gsL_law_2620 F n hk he r28 hr28 v0 v1 v2 v3 v4 v5 σ
theorem gsL_law_2120 (F : zFx E) (n : Nat) (hk : zk E K "LotSalesLaw" cL_law 9 13) (he : zend E K (some .boolean) (cMe K).name) (r28 : Nat → Nat → Nat → Nat → Nat → Int32 → zW → Option (Int32 × zW)) (hr28 : ∀ (v0 : Nat) (v1 : Nat) (v2 : Nat) (v3 : Nat) (v4 : Nat) (v5 : Int32) (σ : zW), zG E K zfW (r28 v0 v1 v2 v3 v4 v5 σ) σ 28 [some (.inr (.inl v0)), some (.inr (.inl v1)), some (.inr (.inl v2)), some (.inr (.inl v3)), some (.inr (.inl v4)), some (.inl v5), none, none, none] []) (v0 : Nat) (v1 : Nat) (v2 : Nat) (v3 : Nat) (v4 : Nat) (v5 : Int32) (σ : zW) : zG E K zfW (sL_law_2120 n r28 v0 v1 v2 v3 v4 v5 σ) σ 2120 [some (.inr (.inl v0)), some (.inr (.inl v1)), some (.inr (.inl v2)), some (.inr (.inl v3)), some (.inr (.inl v4)), some (.inl v5), none, none, none] [] := by
  unfold sL_law_2120
  refine z_run hk hL_law_21 14 5 (pc' := 2126) (lv' := [some (.inr (.inl v0)), some (.inr (.inl v1)), some (.inr (.inl v2)), some (.inr (.inl v3)), some (.inr (.inl v4)), some (.inl v5), none, none, none]) (st' := [.inl (v5 + 1), .inr (.inl v0), .inr (.inl v1)]) rfl ?_
  refine z_aI hk (z_row hL_law_21 19 rfl) (fun x275 => ?_)
  refine z_run hk hL_law_21 20 4 (pc' := 2132) (lv' := [some (.inr (.inl v0)), some (.inr (.inl v1)), some (.inr (.inl v2)), some (.inr (.inl v3)), some (.inr (.inl v4)), some (.inl v5), none, none, none]) (st' := [.inl (v5 + 2), .inr (.inl v0), .inl x275, .inr (.inl v1)]) rfl ?_
  refine z_aI hk (z_row hL_law_21 24 rfl) (fun x276 => ?_)
  refine z_run hk hL_law_21 25 1 (pc' := 2134) (lv' := [some (.inr (.inl v0)), some (.inr (.inl v1)), some (.inr (.inl v2)), some (.inr (.inl v3)), some (.inr (.inl v4)), some (.inl v5), none, none, none]) (st' := [.inr (.inl v3), .inl x276, .inl x275, .inr (.inl v1)]) rfl ?_
  refine kL_seller F hk (z_row hL_law_21 26 rfl) wd_957 (by decide) (Nat.le_of_ble_eq_true rfl) (fun x277 σ278 => ?_)
  refine z_run hk hL_law_21 27 6 (pc' := 2145) (lv' := [some (.inr (.inl v0)), some (.inr (.inl v1)), some (.inr (.inl v2)), some (.inr (.inl v3)), some (.inr (.inl v4)), some (.inl v5), some (.inl x277), none, none]) (st' := [.inl (v5 + 1), .inr (.inl v0), .inr (.inl v2)]) rfl ?_
  refine z_aI hk (z_row hL_law_21 33 rfl) (fun x279 => ?_)
  refine z_run hk hL_law_21 34 4 (pc' := 2151) (lv' := [some (.inr (.inl v0)), some (.inr (.inl v1)), some (.inr (.inl v2)), some (.inr (.inl v3)), some (.inr (.inl v4)), some (.inl v5), some (.inl x277), none, none]) (st' := [.inl (v5 + 2), .inr (.inl v0), .inl x279, .inr (.inl v2)]) rfl ?_
  refine z_aI hk (z_row hL_law_21 38 rfl) (fun x280 => ?_)
  refine kX8_seller F hk (z_row hL_law_21 39 rfl) wd_1446 (by decide) (Nat.le_of_ble_eq_true rfl) (fun x281 σ282 => ?_)
  refine z_run hk hL_law_21 40 2 (pc' := 2158) (lv' := [some (.inr (.inl v0)), some (.inr (.inl v1)), some (.inr (.inl v2)), some (.inr (.inl v3)), some (.inr (.inl v4)), some (.inl v5), some (.inl x277), some (.inl x281), none]) (st' := [.inr (.inl v2)]) rfl ?_
  refine kX8_thrown F hk (z_row hL_law_21 42 rfl) wd_1112 (by decide) (Nat.le_of_ble_eq_true rfl) (fun x283 => ?_)
  refine z_run hk hL_law_21 43 1 (pc' := 2163) (lv' := [some (.inr (.inl v0)), some (.inr (.inl v1)), some (.inr (.inl v2)), some (.inr (.inl v3)), some (.inr (.inl v4)), some (.inl v5), some (.inl x277), some (.inl x281), none]) (st' := [.inl x277, .inl x283]) rfl ?_
  refine z_ceq hk (z_row hL_law_21 44 rfl) (tgt := 2168) rfl ?_ ?_
  · refine z_run hk hL_law_21 47 1 (pc' := 2170) (lv' := [some (.inr (.inl v0)), some (.inr (.inl v1)), some (.inr (.inl v2)), some (.inr (.inl v3)), some (.inr (.inl v4)), some (.inl v5), some (.inl x277), some (.inl x281), none]) (st' := [.inl x277]) rfl ?_
    refine z_ne hk (z_row hL_law_21 48 rfl) (tgt := 2185) rfl ?_ ?_
    · refine z_mask [true, true, true, true, true, true, false, false, false] rfl ?_
      exact gsL_law_2185 F n hk he r28 hr28 v0 v1 v2 v3 v4 v5 σ282
    · refine z_run hk hL_law_21 49 2 (pc' := 2175) (lv' := [some (.inr (.inl v0)), some (.inr (.inl v1)), some (.inr (.inl v2)), some (.inr (.inl v3)), some (.inr (.inl v4)), some (.inl v5), some (.inl x277), some (.inl x281), none]) (st' := [.inl 0, .inr (.inl v3)]) rfl ?_
      refine z_aL hk (z_row hL_law_21 51 rfl) (fun x284 => ?_)
      refine z_run hk hL_law_21 52 3 (pc' := 2180) (lv' := [some (.inr (.inl v0)), some (.inr (.inl v1)), some (.inr (.inl v2)), some (.inr (.inl v3)), some (.inr (.inl v4)), some (.inl v5), some (.inl x277), some (.inl x281), none]) (st' := [.inl (lg_cmp (x284.toInt64) (x281.toInt64))]) rfl ?_
      refine z_eq hk (z_row hL_law_21 55 rfl) (tgt := 2185) rfl ?_ ?_
      · refine z_mask [true, true, true, true, true, true, false, false, false] rfl ?_
        exact gsL_law_2185 F n hk he r28 hr28 v0 v1 v2 v3 v4 v5 σ282
      · refine z_run hk hL_law_21 56 1 (pc' := 2184) (lv' := [some (.inr (.inl v0)), some (.inr (.inl v1)), some (.inr (.inl v2)), some (.inr (.inl v3)), some (.inr (.inl v4)), some (.inl v5), some (.inl x277), some (.inl x281), none]) (st' := [.inl 0]) rfl ?_
        exact z_zret (fin := zfW) (o := (0, σ282)) hk he (z_row hL_law_21 57 rfl) rfl
  · refine z_run hk hL_law_21 45 1 (pc' := 2167) (lv' := [some (.inr (.inl v0)), some (.inr (.inl v1)), some (.inr (.inl v2)), some (.inr (.inl v3)), some (.inr (.inl v4)), some (.inl v5), some (.inl x277), some (.inl x281), none]) (st' := [.inl 0]) rfl ?_
    exact z_zret (fin := zfW) (o := (0, σ282)) hk he (z_row hL_law_21 46 rfl) rfl
theorem gsL_law_2241 (F : zFx E) (n : Nat) (hk : zk E K "LotSalesLaw" cL_law 9 13) (he : zend E K (some .boolean) (cMe K).name) (r28 : Nat → Nat → Nat → Nat → Nat → Int32 → zW → Option (Int32 × zW)) (hr28 : ∀ (v0 : Nat) (v1 : Nat) (v2 : Nat) (v3 : Nat) (v4 : Nat) (v5 : Int32) (σ : zW), zG E K zfW (r28 v0 v1 v2 v3 v4 v5 σ) σ 28 [some (.inr (.inl v0)), some (.inr (.inl v1)), some (.inr (.inl v2)), some (.inr (.inl v3)), some (.inr (.inl v4)), some (.inl v5), none, none, none] []) (v0 : Nat) (v1 : Nat) (v2 : Nat) (v3 : Nat) (v4 : Nat) (v5 : Int32) (σ : zW) : zG E K zfW (sL_law_2241 n r28 v0 v1 v2 v3 v4 v5 σ) σ 2241 [some (.inr (.inl v0)), some (.inr (.inl v1)), some (.inr (.inl v2)), some (.inr (.inl v3)), some (.inr (.inl v4)), some (.inl v5), none, none, none] [] := by
  unfold sL_law_2241
  refine z_goto hk (z_row hL_law_22 33 rfl) (tgt := 2620) rfl ?_
  exact gsL_law_2620 F n hk he r28 hr28 v0 v1 v2 v3 v4 v5 σ
theorem gsL_law_2188 (F : zFx E) (n : Nat) (hk : zk E K "LotSalesLaw" cL_law 9 13) (he : zend E K (some .boolean) (cMe K).name) (r28 : Nat → Nat → Nat → Nat → Nat → Int32 → zW → Option (Int32 × zW)) (hr28 : ∀ (v0 : Nat) (v1 : Nat) (v2 : Nat) (v3 : Nat) (v4 : Nat) (v5 : Int32) (σ : zW), zG E K zfW (r28 v0 v1 v2 v3 v4 v5 σ) σ 28 [some (.inr (.inl v0)), some (.inr (.inl v1)), some (.inr (.inl v2)), some (.inr (.inl v3)), some (.inr (.inl v4)), some (.inl v5), none, none, none] []) (v0 : Nat) (v1 : Nat) (v2 : Nat) (v3 : Nat) (v4 : Nat) (v5 : Int32) (σ : zW) : zG E K zfW (sL_law_2188 n r28 v0 v1 v2 v3 v4 v5 σ) σ 2188 [some (.inr (.inl v0)), some (.inr (.inl v1)), some (.inr (.inl v2)), some (.inr (.inl v3)), some (.inr (.inl v4)), some (.inl v5), none, none, none] [] := by
  unfold sL_law_2188
  refine z_run hk hL_law_21 59 1 (pc' := 2189) (lv' := [some (.inr (.inl v0)), some (.inr (.inl v1)), some (.inr (.inl v2)), some (.inr (.inl v3)), some (.inr (.inl v4)), some (.inl v5), none, none, none]) (st' := [.inr (.inl v1)]) rfl ?_
  refine z_run hk hL_law_22 0 4 (pc' := 2194) (lv' := [some (.inr (.inl v0)), some (.inr (.inl v1)), some (.inr (.inl v2)), some (.inr (.inl v3)), some (.inr (.inl v4)), some (.inl v5), none, none, none]) (st' := [.inl (v5 + 1), .inr (.inl v0), .inr (.inl v1)]) rfl ?_
  refine z_aI hk (z_row hL_law_22 4 rfl) (fun x285 => ?_)
  refine z_run hk hL_law_22 5 1 (pc' := 2196) (lv' := [some (.inr (.inl v0)), some (.inr (.inl v1)), some (.inr (.inl v2)), some (.inr (.inl v3)), some (.inr (.inl v4)), some (.inl v5), none, none, none]) (st' := [.inr (.inl v3), .inl x285, .inr (.inl v1)]) rfl ?_
  refine kL_house F hk (z_row hL_law_22 6 rfl) wd_987 (by decide) (Nat.le_of_ble_eq_true rfl) (fun x286 σ287 => ?_)
  refine z_run hk hL_law_22 7 6 (pc' := 2207) (lv' := [some (.inr (.inl v0)), some (.inr (.inl v1)), some (.inr (.inl v2)), some (.inr (.inl v3)), some (.inr (.inl v4)), some (.inl v5), some (.inl x286), none, none]) (st' := [.inl (v5 + 1), .inr (.inl v0), .inr (.inl v2)]) rfl ?_
  refine z_aI hk (z_row hL_law_22 13 rfl) (fun x288 => ?_)
  refine kX8_house F hk (z_row hL_law_22 14 rfl) wd_1461 (by decide) (Nat.le_of_ble_eq_true rfl) (fun x289 σ290 => ?_)
  refine z_run hk hL_law_22 15 2 (pc' := 2214) (lv' := [some (.inr (.inl v0)), some (.inr (.inl v1)), some (.inr (.inl v2)), some (.inr (.inl v3)), some (.inr (.inl v4)), some (.inl v5), some (.inl x286), some (.inl x289), none]) (st' := [.inr (.inl v2)]) rfl ?_
  refine kX8_thrown F hk (z_row hL_law_22 17 rfl) wd_1112 (by decide) (Nat.le_of_ble_eq_true rfl) (fun x291 => ?_)
  refine z_run hk hL_law_22 18 1 (pc' := 2219) (lv' := [some (.inr (.inl v0)), some (.inr (.inl v1)), some (.inr (.inl v2)), some (.inr (.inl v3)), some (.inr (.inl v4)), some (.inl v5), some (.inl x286), some (.inl x289), none]) (st' := [.inl x286, .inl x291]) rfl ?_
  refine z_ceq hk (z_row hL_law_22 19 rfl) (tgt := 2224) rfl ?_ ?_
  · refine z_run hk hL_law_22 22 1 (pc' := 2226) (lv' := [some (.inr (.inl v0)), some (.inr (.inl v1)), some (.inr (.inl v2)), some (.inr (.inl v3)), some (.inr (.inl v4)), some (.inl v5), some (.inl x286), some (.inl x289), none]) (st' := [.inl x286]) rfl ?_
    refine z_ne hk (z_row hL_law_22 23 rfl) (tgt := 2241) rfl ?_ ?_
    · refine z_mask [true, true, true, true, true, true, false, false, false] rfl ?_
      exact gsL_law_2241 F n hk he r28 hr28 v0 v1 v2 v3 v4 v5 σ290
    · refine z_run hk hL_law_22 24 2 (pc' := 2231) (lv' := [some (.inr (.inl v0)), some (.inr (.inl v1)), some (.inr (.inl v2)), some (.inr (.inl v3)), some (.inr (.inl v4)), some (.inl v5), some (.inl x286), some (.inl x289), none]) (st' := [.inl 0, .inr (.inl v3)]) rfl ?_
      refine z_aL hk (z_row hL_law_22 26 rfl) (fun x292 => ?_)
      refine z_run hk hL_law_22 27 3 (pc' := 2236) (lv' := [some (.inr (.inl v0)), some (.inr (.inl v1)), some (.inr (.inl v2)), some (.inr (.inl v3)), some (.inr (.inl v4)), some (.inl v5), some (.inl x286), some (.inl x289), none]) (st' := [.inl (lg_cmp (x292.toInt64) (x289.toInt64))]) rfl ?_
      refine z_eq hk (z_row hL_law_22 30 rfl) (tgt := 2241) rfl ?_ ?_
      · refine z_mask [true, true, true, true, true, true, false, false, false] rfl ?_
        exact gsL_law_2241 F n hk he r28 hr28 v0 v1 v2 v3 v4 v5 σ290
      · refine z_run hk hL_law_22 31 1 (pc' := 2240) (lv' := [some (.inr (.inl v0)), some (.inr (.inl v1)), some (.inr (.inl v2)), some (.inr (.inl v3)), some (.inr (.inl v4)), some (.inl v5), some (.inl x286), some (.inl x289), none]) (st' := [.inl 0]) rfl ?_
        exact z_zret (fin := zfW) (o := (0, σ290)) hk he (z_row hL_law_22 32 rfl) rfl
  · refine z_run hk hL_law_22 20 1 (pc' := 2223) (lv' := [some (.inr (.inl v0)), some (.inr (.inl v1)), some (.inr (.inl v2)), some (.inr (.inl v3)), some (.inr (.inl v4)), some (.inl v5), some (.inl x286), some (.inl x289), none]) (st' := [.inl 0]) rfl ?_
    exact z_zret (fin := zfW) (o := (0, σ290)) hk he (z_row hL_law_22 21 rfl) rfl
theorem gsL_law_2304 (F : zFx E) (n : Nat) (hk : zk E K "LotSalesLaw" cL_law 9 13) (he : zend E K (some .boolean) (cMe K).name) (σ : zW) : zG E K zfW (sL_law_2304 n σ) σ 2304 [none, none, none, none, none, none, none, none, none] [] := by
  unfold sL_law_2304
  refine z_run hk hL_law_23 7 1 (pc' := 2305) (lv' := [none, none, none, none, none, none, none, none, none]) (st' := [.inl 0]) rfl ?_
  exact z_zret (fin := zfW) (o := (0, σ)) hk he (z_row hL_law_23 8 rfl) rfl
theorem gsL_law_2306 (F : zFx E) (n : Nat) (hk : zk E K "LotSalesLaw" cL_law 9 13) (he : zend E K (some .boolean) (cMe K).name) (r28 : Nat → Nat → Nat → Nat → Nat → Int32 → zW → Option (Int32 × zW)) (hr28 : ∀ (v0 : Nat) (v1 : Nat) (v2 : Nat) (v3 : Nat) (v4 : Nat) (v5 : Int32) (σ : zW), zG E K zfW (r28 v0 v1 v2 v3 v4 v5 σ) σ 28 [some (.inr (.inl v0)), some (.inr (.inl v1)), some (.inr (.inl v2)), some (.inr (.inl v3)), some (.inr (.inl v4)), some (.inl v5), none, none, none] []) (v0 : Nat) (v1 : Nat) (v2 : Nat) (v3 : Nat) (v4 : Nat) (v5 : Int32) (σ : zW) : zG E K zfW (sL_law_2306 n r28 v0 v1 v2 v3 v4 v5 σ) σ 2306 [some (.inr (.inl v0)), some (.inr (.inl v1)), some (.inr (.inl v2)), some (.inr (.inl v3)), some (.inr (.inl v4)), some (.inl v5), none, none, none] [] := by
  unfold sL_law_2306
  refine z_goto hk (z_row hL_law_23 9 rfl) (tgt := 2620) rfl ?_
  exact gsL_law_2620 F n hk he r28 hr28 v0 v1 v2 v3 v4 v5 σ
theorem gsL_law_2244 (F : zFx E) (n : Nat) (hk : zk E K "LotSalesLaw" cL_law 9 13) (he : zend E K (some .boolean) (cMe K).name) (r28 : Nat → Nat → Nat → Nat → Nat → Int32 → zW → Option (Int32 × zW)) (hr28 : ∀ (v0 : Nat) (v1 : Nat) (v2 : Nat) (v3 : Nat) (v4 : Nat) (v5 : Int32) (σ : zW), zG E K zfW (r28 v0 v1 v2 v3 v4 v5 σ) σ 28 [some (.inr (.inl v0)), some (.inr (.inl v1)), some (.inr (.inl v2)), some (.inr (.inl v3)), some (.inr (.inl v4)), some (.inl v5), none, none, none] []) (v0 : Nat) (v1 : Nat) (v2 : Nat) (v3 : Nat) (v4 : Nat) (v5 : Int32) (σ : zW) : zG E K zfW (sL_law_2244 n r28 v0 v1 v2 v3 v4 v5 σ) σ 2244 [some (.inr (.inl v0)), some (.inr (.inl v1)), some (.inr (.inl v2)), some (.inr (.inl v3)), some (.inr (.inl v4)), some (.inl v5), none, none, none] [] := by
  unfold sL_law_2244
  refine z_run hk hL_law_22 34 2 (pc' := 2247) (lv' := [some (.inr (.inl v0)), some (.inr (.inl v1)), some (.inr (.inl v2)), some (.inr (.inl v3)), some (.inr (.inl v4)), some (.inl v5), none, none, none]) (st' := [.inr (.inl v4), .inr (.inl v1)]) rfl ?_
  refine kL_soldShare F hk (z_row hL_law_22 36 rfl) wd_994 (by decide) (Nat.le_of_ble_eq_true rfl) (fun x293 σ294 => ?_)
  refine z_run hk hL_law_22 37 2 (pc' := 2253) (lv' := [some (.inr (.inl v0)), some (.inr (.inl v1)), some (.inr (.inl v2)), some (.inr (.inl v3)), some (.inr (.inl v4)), some (.inl v5), some (.inl x293), none, none]) (st' := [.inr (.inl v2)]) rfl ?_
  refine kX8_soldShare F hk (z_row hL_law_22 39 rfl) wd_1465 (by decide) (Nat.le_of_ble_eq_true rfl) (fun x295 σ296 => ?_)
  refine z_run hk hL_law_22 40 2 (pc' := 2259) (lv' := [some (.inr (.inl v0)), some (.inr (.inl v1)), some (.inr (.inl v2)), some (.inr (.inl v3)), some (.inr (.inl v4)), some (.inl v5), some (.inl x293), some (.inr (.inr (.inr (.inl x295)))), none]) (st' := [.inr (.inl v2)]) rfl ?_
  refine kX8_thrown F hk (z_row hL_law_22 42 rfl) wd_1112 (by decide) (Nat.le_of_ble_eq_true rfl) (fun x297 => ?_)
  refine z_run hk hL_law_22 43 1 (pc' := 2264) (lv' := [some (.inr (.inl v0)), some (.inr (.inl v1)), some (.inr (.inl v2)), some (.inr (.inl v3)), some (.inr (.inl v4)), some (.inl v5), some (.inl x293), some (.inr (.inr (.inr (.inl x295)))), none]) (st' := [.inl x293, .inl x297]) rfl ?_
  refine z_ceq hk (z_row hL_law_22 44 rfl) (tgt := 2269) rfl ?_ ?_
  · refine z_run hk hL_law_22 47 1 (pc' := 2271) (lv' := [some (.inr (.inl v0)), some (.inr (.inl v1)), some (.inr (.inl v2)), some (.inr (.inl v3)), some (.inr (.inl v4)), some (.inl v5), some (.inl x293), some (.inr (.inr (.inr (.inl x295)))), none]) (st' := [.inl x293]) rfl ?_
    refine z_ne hk (z_row hL_law_22 48 rfl) (tgt := 2306) rfl ?_ ?_
    · refine z_mask [true, true, true, true, true, true, false, false, false] rfl ?_
      exact gsL_law_2306 F n hk he r28 hr28 v0 v1 v2 v3 v4 v5 σ296
    · refine z_run hk hL_law_22 49 2 (pc' := 2277) (lv' := [some (.inr (.inl v0)), some (.inr (.inl v1)), some (.inr (.inl v2)), some (.inr (.inl v3)), some (.inr (.inl v4)), some (.inl v5), some (.inl x293), some (.inr (.inr (.inr (.inl x295)))), none]) (st' := [.inl 0, .inr (.inl v4)]) rfl ?_
      refine z_aD hk (z_row hL_law_22 51 rfl) (fun x298 => ?_)
      refine z_run hk hL_law_22 52 2 (pc' := 2281) (lv' := [some (.inr (.inl v0)), some (.inr (.inl v1)), some (.inr (.inl v2)), some (.inr (.inl v3)), some (.inr (.inl v4)), some (.inl v5), some (.inl x293), some (.inr (.inr (.inr (.inl x295)))), none]) (st' := [.inl (Op.cmpValue (FP.dcmp x298 x295) .l)]) rfl ?_
      refine z_eq hk (z_row hL_law_22 54 rfl) (tgt := 2306) rfl ?_ ?_
      · refine z_mask [true, true, true, true, true, true, false, false, false] rfl ?_
        exact gsL_law_2306 F n hk he r28 hr28 v0 v1 v2 v3 v4 v5 σ296
      · refine z_run hk hL_law_22 55 2 (pc' := 2287) (lv' := [some (.inr (.inl v0)), some (.inr (.inl v1)), some (.inr (.inl v2)), some (.inr (.inl v3)), some (.inr (.inl v4)), some (.inl v5), some (.inl x293), some (.inr (.inr (.inr (.inl x295)))), none]) (st' := [.inl 0, .inr (.inl v4)]) rfl ?_
        refine z_aD hk (z_row hL_law_22 57 rfl) (fun x299 => ?_)
        refine z_run hk hL_law_22 58 2 (pc' := 2291) (lv' := [some (.inr (.inl v0)), some (.inr (.inl v1)), some (.inr (.inl v2)), some (.inr (.inl v3)), some (.inr (.inl v4)), some (.inl v5), some (.inl x293), some (.inr (.inr (.inr (.inl x295)))), none]) (st' := [.inl 0, .inr (.inl v4), .inr (.inr (.inr (.inl x299)))]) rfl ?_
        refine z_aD hk (z_row hL_law_23 0 rfl) (fun x300 => ?_)
        refine z_run hk hL_law_23 1 1 (pc' := 2293) (lv' := [some (.inr (.inl v0)), some (.inr (.inl v1)), some (.inr (.inl v2)), some (.inr (.inl v3)), some (.inr (.inl v4)), some (.inl v5), some (.inl x293), some (.inr (.inr (.inr (.inl x295)))), none]) (st' := [.inl (Op.cmpValue (FP.dcmp x299 x300) .l)]) rfl ?_
        refine z_eq hk (z_row hL_law_23 2 rfl) (tgt := 2304) rfl ?_ ?_
        · refine z_mask [false, false, false, false, false, false, false, false, false] rfl ?_
          exact gsL_law_2304 F n hk he σ296
        · refine z_run hk hL_law_23 3 3 (pc' := 2301) (lv' := [some (.inr (.inl v0)), some (.inr (.inl v1)), some (.inr (.inl v2)), some (.inr (.inl v3)), some (.inr (.inl v4)), some (.inl v5), some (.inl x293), some (.inr (.inr (.inr (.inl x295)))), none]) (st' := [.inl (Op.cmpValue (FP.dcmp x295 x295) .l)]) rfl ?_
          refine z_ne hk (z_row hL_law_23 6 rfl) (tgt := 2306) rfl ?_ ?_
          · refine z_mask [true, true, true, true, true, true, false, false, false] rfl ?_
            exact gsL_law_2306 F n hk he r28 hr28 v0 v1 v2 v3 v4 v5 σ296
          · refine z_mask [false, false, false, false, false, false, false, false, false] rfl ?_
            exact gsL_law_2304 F n hk he σ296
  · refine z_run hk hL_law_22 45 1 (pc' := 2268) (lv' := [some (.inr (.inl v0)), some (.inr (.inl v1)), some (.inr (.inl v2)), some (.inr (.inl v3)), some (.inr (.inl v4)), some (.inl v5), some (.inl x293), some (.inr (.inr (.inr (.inl x295)))), none]) (st' := [.inl 0]) rfl ?_
    exact z_zret (fin := zfW) (o := (0, σ296)) hk he (z_row hL_law_22 46 rfl) rfl
theorem gsL_law_2362 (F : zFx E) (n : Nat) (hk : zk E K "LotSalesLaw" cL_law 9 13) (he : zend E K (some .boolean) (cMe K).name) (r28 : Nat → Nat → Nat → Nat → Nat → Int32 → zW → Option (Int32 × zW)) (hr28 : ∀ (v0 : Nat) (v1 : Nat) (v2 : Nat) (v3 : Nat) (v4 : Nat) (v5 : Int32) (σ : zW), zG E K zfW (r28 v0 v1 v2 v3 v4 v5 σ) σ 28 [some (.inr (.inl v0)), some (.inr (.inl v1)), some (.inr (.inl v2)), some (.inr (.inl v3)), some (.inr (.inl v4)), some (.inl v5), none, none, none] []) (v0 : Nat) (v1 : Nat) (v2 : Nat) (v3 : Nat) (v4 : Nat) (v5 : Int32) (σ : zW) : zG E K zfW (sL_law_2362 n r28 v0 v1 v2 v3 v4 v5 σ) σ 2362 [some (.inr (.inl v0)), some (.inr (.inl v1)), some (.inr (.inl v2)), some (.inr (.inl v3)), some (.inr (.inl v4)), some (.inl v5), none, none, none] [] := by
  unfold sL_law_2362
  refine z_goto hk (z_row hL_law_23 44 rfl) (tgt := 2620) rfl ?_
  exact gsL_law_2620 F n hk he r28 hr28 v0 v1 v2 v3 v4 v5 σ
theorem gsL_law_2309 (F : zFx E) (n : Nat) (hk : zk E K "LotSalesLaw" cL_law 9 13) (he : zend E K (some .boolean) (cMe K).name) (r28 : Nat → Nat → Nat → Nat → Nat → Int32 → zW → Option (Int32 × zW)) (hr28 : ∀ (v0 : Nat) (v1 : Nat) (v2 : Nat) (v3 : Nat) (v4 : Nat) (v5 : Int32) (σ : zW), zG E K zfW (r28 v0 v1 v2 v3 v4 v5 σ) σ 28 [some (.inr (.inl v0)), some (.inr (.inl v1)), some (.inr (.inl v2)), some (.inr (.inl v3)), some (.inr (.inl v4)), some (.inl v5), none, none, none] []) (v0 : Nat) (v1 : Nat) (v2 : Nat) (v3 : Nat) (v4 : Nat) (v5 : Int32) (σ : zW) : zG E K zfW (sL_law_2309 n r28 v0 v1 v2 v3 v4 v5 σ) σ 2309 [some (.inr (.inl v0)), some (.inr (.inl v1)), some (.inr (.inl v2)), some (.inr (.inl v3)), some (.inr (.inl v4)), some (.inl v5), none, none, none] [] := by
  unfold sL_law_2309
  refine z_run hk hL_law_23 10 5 (pc' := 2315) (lv' := [some (.inr (.inl v0)), some (.inr (.inl v1)), some (.inr (.inl v2)), some (.inr (.inl v3)), some (.inr (.inl v4)), some (.inl v5), none, none, none]) (st' := [.inl (v5 + 1), .inr (.inl v0), .inr (.inl v1)]) rfl ?_
  refine z_aI hk (z_row hL_law_23 15 rfl) (fun x301 => ?_)
  refine z_run hk hL_law_23 16 1 (pc' := 2317) (lv' := [some (.inr (.inl v0)), some (.inr (.inl v1)), some (.inr (.inl v2)), some (.inr (.inl v3)), some (.inr (.inl v4)), some (.inl v5), none, none, none]) (st' := [.inr (.inl v3), .inl x301, .inr (.inl v1)]) rfl ?_
  refine kL_events F hk (z_row hL_law_23 17 rfl) wd_1022 (by decide) (Nat.le_of_ble_eq_true rfl) (fun x302 σ303 => ?_)
  refine z_run hk hL_law_23 18 6 (pc' := 2328) (lv' := [some (.inr (.inl v0)), some (.inr (.inl v1)), some (.inr (.inl v2)), some (.inr (.inl v3)), some (.inr (.inl v4)), some (.inl v5), some (.inl x302), none, none]) (st' := [.inl (v5 + 1), .inr (.inl v0), .inr (.inl v2)]) rfl ?_
  refine z_aI hk (z_row hL_law_23 24 rfl) (fun x304 => ?_)
  refine kX8_events F hk (z_row hL_law_23 25 rfl) wd_1473 (by decide) (Nat.le_of_ble_eq_true rfl) (fun x305 σ306 => ?_)
  refine z_run hk hL_law_23 26 2 (pc' := 2335) (lv' := [some (.inr (.inl v0)), some (.inr (.inl v1)), some (.inr (.inl v2)), some (.inr (.inl v3)), some (.inr (.inl v4)), some (.inl v5), some (.inl x302), some (.inl x305), none]) (st' := [.inr (.inl v2)]) rfl ?_
  refine kX8_thrown F hk (z_row hL_law_23 28 rfl) wd_1112 (by decide) (Nat.le_of_ble_eq_true rfl) (fun x307 => ?_)
  refine z_run hk hL_law_23 29 1 (pc' := 2340) (lv' := [some (.inr (.inl v0)), some (.inr (.inl v1)), some (.inr (.inl v2)), some (.inr (.inl v3)), some (.inr (.inl v4)), some (.inl v5), some (.inl x302), some (.inl x305), none]) (st' := [.inl x302, .inl x307]) rfl ?_
  refine z_ceq hk (z_row hL_law_23 30 rfl) (tgt := 2345) rfl ?_ ?_
  · refine z_run hk hL_law_23 33 1 (pc' := 2347) (lv' := [some (.inr (.inl v0)), some (.inr (.inl v1)), some (.inr (.inl v2)), some (.inr (.inl v3)), some (.inr (.inl v4)), some (.inl v5), some (.inl x302), some (.inl x305), none]) (st' := [.inl x302]) rfl ?_
    refine z_ne hk (z_row hL_law_23 34 rfl) (tgt := 2362) rfl ?_ ?_
    · refine z_mask [true, true, true, true, true, true, false, false, false] rfl ?_
      exact gsL_law_2362 F n hk he r28 hr28 v0 v1 v2 v3 v4 v5 σ306
    · refine z_run hk hL_law_23 35 2 (pc' := 2352) (lv' := [some (.inr (.inl v0)), some (.inr (.inl v1)), some (.inr (.inl v2)), some (.inr (.inl v3)), some (.inr (.inl v4)), some (.inl v5), some (.inl x302), some (.inl x305), none]) (st' := [.inl 0, .inr (.inl v3)]) rfl ?_
      refine z_aL hk (z_row hL_law_23 37 rfl) (fun x308 => ?_)
      refine z_run hk hL_law_23 38 3 (pc' := 2357) (lv' := [some (.inr (.inl v0)), some (.inr (.inl v1)), some (.inr (.inl v2)), some (.inr (.inl v3)), some (.inr (.inl v4)), some (.inl v5), some (.inl x302), some (.inl x305), none]) (st' := [.inl (lg_cmp (x308.toInt64) (x305.toInt64))]) rfl ?_
      refine z_eq hk (z_row hL_law_23 41 rfl) (tgt := 2362) rfl ?_ ?_
      · refine z_mask [true, true, true, true, true, true, false, false, false] rfl ?_
        exact gsL_law_2362 F n hk he r28 hr28 v0 v1 v2 v3 v4 v5 σ306
      · refine z_run hk hL_law_23 42 1 (pc' := 2361) (lv' := [some (.inr (.inl v0)), some (.inr (.inl v1)), some (.inr (.inl v2)), some (.inr (.inl v3)), some (.inr (.inl v4)), some (.inl v5), some (.inl x302), some (.inl x305), none]) (st' := [.inl 0]) rfl ?_
        exact z_zret (fin := zfW) (o := (0, σ306)) hk he (z_row hL_law_23 43 rfl) rfl
  · refine z_run hk hL_law_23 31 1 (pc' := 2344) (lv' := [some (.inr (.inl v0)), some (.inr (.inl v1)), some (.inr (.inl v2)), some (.inr (.inl v3)), some (.inr (.inl v4)), some (.inl v5), some (.inl x302), some (.inl x305), none]) (st' := [.inl 0]) rfl ?_
    exact z_zret (fin := zfW) (o := (0, σ306)) hk he (z_row hL_law_23 32 rfl) rfl
theorem gsL_law_2430 (F : zFx E) (n : Nat) (hk : zk E K "LotSalesLaw" cL_law 9 13) (he : zend E K (some .boolean) (cMe K).name) (r28 : Nat → Nat → Nat → Nat → Nat → Int32 → zW → Option (Int32 × zW)) (hr28 : ∀ (v0 : Nat) (v1 : Nat) (v2 : Nat) (v3 : Nat) (v4 : Nat) (v5 : Int32) (σ : zW), zG E K zfW (r28 v0 v1 v2 v3 v4 v5 σ) σ 28 [some (.inr (.inl v0)), some (.inr (.inl v1)), some (.inr (.inl v2)), some (.inr (.inl v3)), some (.inr (.inl v4)), some (.inl v5), none, none, none] []) (v0 : Nat) (v1 : Nat) (v2 : Nat) (v3 : Nat) (v4 : Nat) (v5 : Int32) (σ : zW) : zG E K zfW (sL_law_2430 n r28 v0 v1 v2 v3 v4 v5 σ) σ 2430 [some (.inr (.inl v0)), some (.inr (.inl v1)), some (.inr (.inl v2)), some (.inr (.inl v3)), some (.inr (.inl v4)), some (.inl v5), none, none, none] [] := by
  unfold sL_law_2430
  refine z_goto hk (z_row hL_law_24 29 rfl) (tgt := 2620) rfl ?_
  exact gsL_law_2620 F n hk he r28 hr28 v0 v1 v2 v3 v4 v5 σ
theorem gsL_law_2365 (F : zFx E) (n : Nat) (hk : zk E K "LotSalesLaw" cL_law 9 13) (he : zend E K (some .boolean) (cMe K).name) (r28 : Nat → Nat → Nat → Nat → Nat → Int32 → zW → Option (Int32 × zW)) (hr28 : ∀ (v0 : Nat) (v1 : Nat) (v2 : Nat) (v3 : Nat) (v4 : Nat) (v5 : Int32) (σ : zW), zG E K zfW (r28 v0 v1 v2 v3 v4 v5 σ) σ 28 [some (.inr (.inl v0)), some (.inr (.inl v1)), some (.inr (.inl v2)), some (.inr (.inl v3)), some (.inr (.inl v4)), some (.inl v5), none, none, none] []) (v0 : Nat) (v1 : Nat) (v2 : Nat) (v3 : Nat) (v4 : Nat) (v5 : Int32) (σ : zW) : zG E K zfW (sL_law_2365 n r28 v0 v1 v2 v3 v4 v5 σ) σ 2365 [some (.inr (.inl v0)), some (.inr (.inl v1)), some (.inr (.inl v2)), some (.inr (.inl v3)), some (.inr (.inl v4)), some (.inl v5), none, none, none] [] := by
  unfold sL_law_2365
  refine z_run hk hL_law_23 45 5 (pc' := 2371) (lv' := [some (.inr (.inl v0)), some (.inr (.inl v1)), some (.inr (.inl v2)), some (.inr (.inl v3)), some (.inr (.inl v4)), some (.inl v5), none, none, none]) (st' := [.inl (v5 + 1), .inr (.inl v0), .inr (.inl v1)]) rfl ?_
  refine z_aI hk (z_row hL_law_23 50 rfl) (fun x309 => ?_)
  refine z_run hk hL_law_23 51 4 (pc' := 2377) (lv' := [some (.inr (.inl v0)), some (.inr (.inl v1)), some (.inr (.inl v2)), some (.inr (.inl v3)), some (.inr (.inl v4)), some (.inl v5), none, none, none]) (st' := [.inl (v5 + 2), .inr (.inl v0), .inl x309, .inr (.inl v1)]) rfl ?_
  refine z_aI hk (z_row hL_law_23 55 rfl) (fun x310 => ?_)
  refine z_run hk hL_law_23 56 1 (pc' := 2379) (lv' := [some (.inr (.inl v0)), some (.inr (.inl v1)), some (.inr (.inl v2)), some (.inr (.inl v3)), some (.inr (.inl v4)), some (.inl v5), none, none, none]) (st' := [.inr (.inl v3), .inl x310, .inl x309, .inr (.inl v1)]) rfl ?_
  refine kL_event F hk (z_row hL_law_23 57 rfl) wd_1029 (by decide) (Nat.le_of_ble_eq_true rfl) (fun x311 σ312 => ?_)
  refine z_run hk hL_law_23 58 2 (pc' := 2385) (lv' := [some (.inr (.inl v0)), some (.inr (.inl v1)), some (.inr (.inl v2)), some (.inr (.inl v3)), some (.inr (.inl v4)), some (.inl v5), some (.inl x311), none, none]) (st' := [.inr (.inl v2)]) rfl ?_
  refine z_run hk hL_law_24 0 4 (pc' := 2390) (lv' := [some (.inr (.inl v0)), some (.inr (.inl v1)), some (.inr (.inl v2)), some (.inr (.inl v3)), some (.inr (.inl v4)), some (.inl v5), some (.inl x311), none, none]) (st' := [.inl (v5 + 1), .inr (.inl v0), .inr (.inl v2)]) rfl ?_
  refine z_aI hk (z_row hL_law_24 4 rfl) (fun x313 => ?_)
  refine z_run hk hL_law_24 5 4 (pc' := 2396) (lv' := [some (.inr (.inl v0)), some (.inr (.inl v1)), some (.inr (.inl v2)), some (.inr (.inl v3)), some (.inr (.inl v4)), some (.inl v5), some (.inl x311), none, none]) (st' := [.inl (v5 + 2), .inr (.inl v0), .inl x313, .inr (.inl v2)]) rfl ?_
  refine z_aI hk (z_row hL_law_24 9 rfl) (fun x314 => ?_)
  refine kX8_event F hk (z_row hL_law_24 10 rfl) wd_1477 (by decide) (Nat.le_of_ble_eq_true rfl) (fun x315 σ316 => ?_)
  refine z_run hk hL_law_24 11 2 (pc' := 2403) (lv' := [some (.inr (.inl v0)), some (.inr (.inl v1)), some (.inr (.inl v2)), some (.inr (.inl v3)), some (.inr (.inl v4)), some (.inl v5), some (.inl x311), some (.inl x315), none]) (st' := [.inr (.inl v2)]) rfl ?_
  refine kX8_thrown F hk (z_row hL_law_24 13 rfl) wd_1112 (by decide) (Nat.le_of_ble_eq_true rfl) (fun x317 => ?_)
  refine z_run hk hL_law_24 14 1 (pc' := 2408) (lv' := [some (.inr (.inl v0)), some (.inr (.inl v1)), some (.inr (.inl v2)), some (.inr (.inl v3)), some (.inr (.inl v4)), some (.inl v5), some (.inl x311), some (.inl x315), none]) (st' := [.inl x311, .inl x317]) rfl ?_
  refine z_ceq hk (z_row hL_law_24 15 rfl) (tgt := 2413) rfl ?_ ?_
  · refine z_run hk hL_law_24 18 1 (pc' := 2415) (lv' := [some (.inr (.inl v0)), some (.inr (.inl v1)), some (.inr (.inl v2)), some (.inr (.inl v3)), some (.inr (.inl v4)), some (.inl v5), some (.inl x311), some (.inl x315), none]) (st' := [.inl x311]) rfl ?_
    refine z_ne hk (z_row hL_law_24 19 rfl) (tgt := 2430) rfl ?_ ?_
    · refine z_mask [true, true, true, true, true, true, false, false, false] rfl ?_
      exact gsL_law_2430 F n hk he r28 hr28 v0 v1 v2 v3 v4 v5 σ316
    · refine z_run hk hL_law_24 20 2 (pc' := 2420) (lv' := [some (.inr (.inl v0)), some (.inr (.inl v1)), some (.inr (.inl v2)), some (.inr (.inl v3)), some (.inr (.inl v4)), some (.inl v5), some (.inl x311), some (.inl x315), none]) (st' := [.inl 0, .inr (.inl v3)]) rfl ?_
      refine z_aL hk (z_row hL_law_24 22 rfl) (fun x318 => ?_)
      refine z_run hk hL_law_24 23 3 (pc' := 2425) (lv' := [some (.inr (.inl v0)), some (.inr (.inl v1)), some (.inr (.inl v2)), some (.inr (.inl v3)), some (.inr (.inl v4)), some (.inl v5), some (.inl x311), some (.inl x315), none]) (st' := [.inl (lg_cmp (x318.toInt64) (x315.toInt64))]) rfl ?_
      refine z_eq hk (z_row hL_law_24 26 rfl) (tgt := 2430) rfl ?_ ?_
      · refine z_mask [true, true, true, true, true, true, false, false, false] rfl ?_
        exact gsL_law_2430 F n hk he r28 hr28 v0 v1 v2 v3 v4 v5 σ316
      · refine z_run hk hL_law_24 27 1 (pc' := 2429) (lv' := [some (.inr (.inl v0)), some (.inr (.inl v1)), some (.inr (.inl v2)), some (.inr (.inl v3)), some (.inr (.inl v4)), some (.inl v5), some (.inl x311), some (.inl x315), none]) (st' := [.inl 0]) rfl ?_
        exact z_zret (fin := zfW) (o := (0, σ316)) hk he (z_row hL_law_24 28 rfl) rfl
  · refine z_run hk hL_law_24 16 1 (pc' := 2412) (lv' := [some (.inr (.inl v0)), some (.inr (.inl v1)), some (.inr (.inl v2)), some (.inr (.inl v3)), some (.inr (.inl v4)), some (.inl v5), some (.inl x311), some (.inl x315), none]) (st' := [.inl 0]) rfl ?_
    exact z_zret (fin := zfW) (o := (0, σ316)) hk he (z_row hL_law_24 17 rfl) rfl
theorem gsL_law_2433 (F : zFx E) (n : Nat) (hk : zk E K "LotSalesLaw" cL_law 9 13) (he : zend E K (some .boolean) (cMe K).name) (r28 : Nat → Nat → Nat → Nat → Nat → Int32 → zW → Option (Int32 × zW)) (hr28 : ∀ (v0 : Nat) (v1 : Nat) (v2 : Nat) (v3 : Nat) (v4 : Nat) (v5 : Int32) (σ : zW), zG E K zfW (r28 v0 v1 v2 v3 v4 v5 σ) σ 28 [some (.inr (.inl v0)), some (.inr (.inl v1)), some (.inr (.inl v2)), some (.inr (.inl v3)), some (.inr (.inl v4)), some (.inl v5), none, none, none] []) (v0 : Nat) (v1 : Nat) (v2 : Nat) (v3 : Nat) (v4 : Nat) (v5 : Int32) (σ : zW) : zG E K zfW (sL_law_2433 n r28 v0 v1 v2 v3 v4 v5 σ) σ 2433 [some (.inr (.inl v0)), some (.inr (.inl v1)), some (.inr (.inl v2)), some (.inr (.inl v3)), some (.inr (.inl v4)), some (.inl v5), none, none, none] [] := by
  unfold sL_law_2433
  refine z_run hk hL_law_24 30 1 (pc' := 2434) (lv' := [some (.inr (.inl v0)), some (.inr (.inl v1)), some (.inr (.inl v2)), some (.inr (.inl v3)), some (.inr (.inl v4)), some (.inl v5), none, none, none]) (st' := [.inr (.inl v1)]) rfl ?_
  refine kX7_audit F hk (z_row hL_law_24 31 rfl) wd_290 (by decide) (Nat.le_of_ble_eq_true rfl) (fun x319 => ?_)
  refine z_run hk hL_law_24 32 1 (pc' := 2438) (lv' := [some (.inr (.inl v0)), some (.inr (.inl v1)), some (.inr (.inl v2)), some (.inr (.inl v3)), some (.inr (.inl v4)), some (.inl v5), none, none, none]) (st' := [.inr (.inl v2), .inl x319]) rfl ?_
  refine kX8_audit F hk (z_row hL_law_24 33 rfl) wd_1481 (by decide) (Nat.le_of_ble_eq_true rfl) (fun x320 σ321 => ?_)
  refine z_ceq hk (z_row hL_law_24 34 rfl) (tgt := 2620) rfl ?_ ?_
  · exact gsL_law_2620 F n hk he r28 hr28 v0 v1 v2 v3 v4 v5 σ321
  · refine z_run hk hL_law_24 35 1 (pc' := 2445) (lv' := [some (.inr (.inl v0)), some (.inr (.inl v1)), some (.inr (.inl v2)), some (.inr (.inl v3)), some (.inr (.inl v4)), some (.inl v5), none, none, none]) (st' := [.inl 0]) rfl ?_
    exact z_zret (fin := zfW) (o := (0, σ321)) hk he (z_row hL_law_24 36 rfl) rfl
theorem gsL_law_2446 (F : zFx E) (n : Nat) (hk : zk E K "LotSalesLaw" cL_law 9 13) (he : zend E K (some .boolean) (cMe K).name) (r28 : Nat → Nat → Nat → Nat → Nat → Int32 → zW → Option (Int32 × zW)) (hr28 : ∀ (v0 : Nat) (v1 : Nat) (v2 : Nat) (v3 : Nat) (v4 : Nat) (v5 : Int32) (σ : zW), zG E K zfW (r28 v0 v1 v2 v3 v4 v5 σ) σ 28 [some (.inr (.inl v0)), some (.inr (.inl v1)), some (.inr (.inl v2)), some (.inr (.inl v3)), some (.inr (.inl v4)), some (.inl v5), none, none, none] []) (v0 : Nat) (v1 : Nat) (v2 : Nat) (v3 : Nat) (v4 : Nat) (v5 : Int32) (σ : zW) : zG E K zfW (sL_law_2446 n r28 v0 v1 v2 v3 v4 v5 σ) σ 2446 [some (.inr (.inl v0)), some (.inr (.inl v1)), some (.inr (.inl v2)), some (.inr (.inl v3)), some (.inr (.inl v4)), some (.inl v5), none, none, none] [] := by
  unfold sL_law_2446
  refine z_run hk hL_law_24 37 5 (pc' := 2452) (lv' := [some (.inr (.inl v0)), some (.inr (.inl v1)), some (.inr (.inl v2)), some (.inr (.inl v3)), some (.inr (.inl v4)), some (.inl v5), none, none, none]) (st' := [.inl (v5 + 1), .inr (.inl v0), .inr (.inl v1)]) rfl ?_
  refine z_aI hk (z_row hL_law_24 42 rfl) (fun x322 => ?_)
  refine z_run hk hL_law_24 43 1 (pc' := 2454) (lv' := [some (.inr (.inl v0)), some (.inr (.inl v1)), some (.inr (.inl v2)), some (.inr (.inl v3)), some (.inr (.inl v4)), some (.inl v5), none, none, none]) (st' := [.inl ((x322.toUInt32 % 65536).toInt32), .inr (.inl v1)]) rfl ?_
  refine kL_append F hk (z_row hL_law_24 44 rfl) wd_1037 (by decide) (Nat.le_of_ble_eq_true rfl) (fun x323 σ324 => ?_)
  refine z_run hk hL_law_24 45 6 (pc' := 2465) (lv' := [some (.inr (.inl v0)), some (.inr (.inl v1)), some (.inr (.inl v2)), some (.inr (.inl v3)), some (.inr (.inl v4)), some (.inl v5), some (.inl x323), none, none]) (st' := [.inl (v5 + 1), .inr (.inl v0), .inr (.inl v2)]) rfl ?_
  refine z_aI hk (z_row hL_law_24 51 rfl) (fun x325 => ?_)
  refine z_run hk hL_law_24 52 1 (pc' := 2467) (lv' := [some (.inr (.inl v0)), some (.inr (.inl v1)), some (.inr (.inl v2)), some (.inr (.inl v3)), some (.inr (.inl v4)), some (.inl v5), some (.inl x323), none, none]) (st' := [.inl ((x325.toUInt32 % 65536).toInt32), .inr (.inl v2)]) rfl ?_
  refine kX8_append F hk (z_row hL_law_24 53 rfl) wd_1489 (by decide) (Nat.le_of_ble_eq_true rfl) (fun σ326 => ?_)
  refine z_run hk hL_law_24 54 1 (pc' := 2471) (lv' := [some (.inr (.inl v0)), some (.inr (.inl v1)), some (.inr (.inl v2)), some (.inr (.inl v3)), some (.inr (.inl v4)), some (.inl v5), some (.inl x323), none, none]) (st' := [.inr (.inl v2)]) rfl ?_
  refine kX8_thrown F hk (z_row hL_law_24 55 rfl) wd_1112 (by decide) (Nat.le_of_ble_eq_true rfl) (fun x327 => ?_)
  refine z_run hk hL_law_24 56 1 (pc' := 2476) (lv' := [some (.inr (.inl v0)), some (.inr (.inl v1)), some (.inr (.inl v2)), some (.inr (.inl v3)), some (.inr (.inl v4)), some (.inl v5), some (.inl x323), none, none]) (st' := [.inl x323, .inl x327]) rfl ?_
  refine z_ceq hk (z_row hL_law_24 57 rfl) (tgt := 2481) rfl ?_ ?_
  · refine z_goto hk (z_row hL_law_25 0 rfl) (tgt := 2620) rfl ?_
    refine z_mask [true, true, true, true, true, true, false, false, false] rfl ?_
    exact gsL_law_2620 F n hk he r28 hr28 v0 v1 v2 v3 v4 v5 σ326
  · refine z_run hk hL_law_24 58 1 (pc' := 2480) (lv' := [some (.inr (.inl v0)), some (.inr (.inl v1)), some (.inr (.inl v2)), some (.inr (.inl v3)), some (.inr (.inl v4)), some (.inl v5), some (.inl x323), none, none]) (st' := [.inl 0]) rfl ?_
    exact z_zret (fin := zfW) (o := (0, σ326)) hk he (z_row hL_law_24 59 rfl) rfl
theorem gsL_law_2525 (F : zFx E) (n : Nat) (hk : zk E K "LotSalesLaw" cL_law 9 13) (he : zend E K (some .boolean) (cMe K).name) (r28 : Nat → Nat → Nat → Nat → Nat → Int32 → zW → Option (Int32 × zW)) (hr28 : ∀ (v0 : Nat) (v1 : Nat) (v2 : Nat) (v3 : Nat) (v4 : Nat) (v5 : Int32) (σ : zW), zG E K zfW (r28 v0 v1 v2 v3 v4 v5 σ) σ 28 [some (.inr (.inl v0)), some (.inr (.inl v1)), some (.inr (.inl v2)), some (.inr (.inl v3)), some (.inr (.inl v4)), some (.inl v5), none, none, none] []) (v0 : Nat) (v1 : Nat) (v2 : Nat) (v3 : Nat) (v4 : Nat) (v5 : Int32) (σ : zW) : zG E K zfW (sL_law_2525 n r28 v0 v1 v2 v3 v4 v5 σ) σ 2525 [some (.inr (.inl v0)), some (.inr (.inl v1)), some (.inr (.inl v2)), some (.inr (.inl v3)), some (.inr (.inl v4)), some (.inl v5), none, none, none] [] := by
  unfold sL_law_2525
  refine z_goto hk (z_row hL_law_25 25 rfl) (tgt := 2620) rfl ?_
  exact gsL_law_2620 F n hk he r28 hr28 v0 v1 v2 v3 v4 v5 σ
theorem gsL_law_2484 (F : zFx E) (n : Nat) (hk : zk E K "LotSalesLaw" cL_law 9 13) (he : zend E K (some .boolean) (cMe K).name) (r28 : Nat → Nat → Nat → Nat → Nat → Int32 → zW → Option (Int32 × zW)) (hr28 : ∀ (v0 : Nat) (v1 : Nat) (v2 : Nat) (v3 : Nat) (v4 : Nat) (v5 : Int32) (σ : zW), zG E K zfW (r28 v0 v1 v2 v3 v4 v5 σ) σ 28 [some (.inr (.inl v0)), some (.inr (.inl v1)), some (.inr (.inl v2)), some (.inr (.inl v3)), some (.inr (.inl v4)), some (.inl v5), none, none, none] []) (v0 : Nat) (v1 : Nat) (v2 : Nat) (v3 : Nat) (v4 : Nat) (v5 : Int32) (σ : zW) : zG E K zfW (sL_law_2484 n r28 v0 v1 v2 v3 v4 v5 σ) σ 2484 [some (.inr (.inl v0)), some (.inr (.inl v1)), some (.inr (.inl v2)), some (.inr (.inl v3)), some (.inr (.inl v4)), some (.inl v5), none, none, none] [] := by
  unfold sL_law_2484
  refine z_run hk hL_law_25 1 2 (pc' := 2486) (lv' := [some (.inr (.inl v0)), some (.inr (.inl v1)), some (.inr (.inl v2)), some (.inr (.inl v3)), some (.inr (.inl v4)), some (.inl v5), none, none, none]) (st' := [.inr (.inl v3), .inr (.inl v1)]) rfl ?_
  refine kL_read F hk (z_row hL_law_25 3 rfl) wd_1049 (by decide) (Nat.le_of_ble_eq_true rfl) (fun x328 σ329 => ?_)
  refine z_run hk hL_law_25 4 2 (pc' := 2492) (lv' := [some (.inr (.inl v0)), some (.inr (.inl v1)), some (.inr (.inl v2)), some (.inr (.inl v3)), some (.inr (.inl v4)), some (.inl v5), some (.inl x328), none, none]) (st' := [.inr (.inl v2)]) rfl ?_
  refine kX8_read F hk (z_row hL_law_25 6 rfl) wd_1493 (by decide) (Nat.le_of_ble_eq_true rfl) (fun x330 σ331 => ?_)
  refine z_run hk hL_law_25 7 2 (pc' := 2498) (lv' := [some (.inr (.inl v0)), some (.inr (.inl v1)), some (.inr (.inl v2)), some (.inr (.inl v3)), some (.inr (.inl v4)), some (.inl v5), some (.inl x328), some (.inl x330), none]) (st' := [.inr (.inl v2)]) rfl ?_
  refine kX8_thrown F hk (z_row hL_law_25 9 rfl) wd_1112 (by decide) (Nat.le_of_ble_eq_true rfl) (fun x332 => ?_)
  refine z_run hk hL_law_25 10 1 (pc' := 2503) (lv' := [some (.inr (.inl v0)), some (.inr (.inl v1)), some (.inr (.inl v2)), some (.inr (.inl v3)), some (.inr (.inl v4)), some (.inl v5), some (.inl x328), some (.inl x330), none]) (st' := [.inl x328, .inl x332]) rfl ?_
  refine z_ceq hk (z_row hL_law_25 11 rfl) (tgt := 2508) rfl ?_ ?_
  · refine z_run hk hL_law_25 14 1 (pc' := 2510) (lv' := [some (.inr (.inl v0)), some (.inr (.inl v1)), some (.inr (.inl v2)), some (.inr (.inl v3)), some (.inr (.inl v4)), some (.inl v5), some (.inl x328), some (.inl x330), none]) (st' := [.inl x328]) rfl ?_
    refine z_ne hk (z_row hL_law_25 15 rfl) (tgt := 2525) rfl ?_ ?_
    · refine z_mask [true, true, true, true, true, true, false, false, false] rfl ?_
      exact gsL_law_2525 F n hk he r28 hr28 v0 v1 v2 v3 v4 v5 σ331
    · refine z_run hk hL_law_25 16 2 (pc' := 2515) (lv' := [some (.inr (.inl v0)), some (.inr (.inl v1)), some (.inr (.inl v2)), some (.inr (.inl v3)), some (.inr (.inl v4)), some (.inl v5), some (.inl x328), some (.inl x330), none]) (st' := [.inl 0, .inr (.inl v3)]) rfl ?_
      refine z_aL hk (z_row hL_law_25 18 rfl) (fun x333 => ?_)
      refine z_run hk hL_law_25 19 3 (pc' := 2520) (lv' := [some (.inr (.inl v0)), some (.inr (.inl v1)), some (.inr (.inl v2)), some (.inr (.inl v3)), some (.inr (.inl v4)), some (.inl v5), some (.inl x328), some (.inl x330), none]) (st' := [.inl (lg_cmp (x333.toInt64) (x330.toInt64))]) rfl ?_
      refine z_eq hk (z_row hL_law_25 22 rfl) (tgt := 2525) rfl ?_ ?_
      · refine z_mask [true, true, true, true, true, true, false, false, false] rfl ?_
        exact gsL_law_2525 F n hk he r28 hr28 v0 v1 v2 v3 v4 v5 σ331
      · refine z_run hk hL_law_25 23 1 (pc' := 2524) (lv' := [some (.inr (.inl v0)), some (.inr (.inl v1)), some (.inr (.inl v2)), some (.inr (.inl v3)), some (.inr (.inl v4)), some (.inl v5), some (.inl x328), some (.inl x330), none]) (st' := [.inl 0]) rfl ?_
        exact z_zret (fin := zfW) (o := (0, σ331)) hk he (z_row hL_law_25 24 rfl) rfl
  · refine z_run hk hL_law_25 12 1 (pc' := 2507) (lv' := [some (.inr (.inl v0)), some (.inr (.inl v1)), some (.inr (.inl v2)), some (.inr (.inl v3)), some (.inr (.inl v4)), some (.inl v5), some (.inl x328), some (.inl x330), none]) (st' := [.inl 0]) rfl ?_
    exact z_zret (fin := zfW) (o := (0, σ331)) hk he (z_row hL_law_25 13 rfl) rfl
theorem gsL_law_2528 (F : zFx E) (n : Nat) (hk : zk E K "LotSalesLaw" cL_law 9 13) (he : zend E K (some .boolean) (cMe K).name) (r28 : Nat → Nat → Nat → Nat → Nat → Int32 → zW → Option (Int32 × zW)) (hr28 : ∀ (v0 : Nat) (v1 : Nat) (v2 : Nat) (v3 : Nat) (v4 : Nat) (v5 : Int32) (σ : zW), zG E K zfW (r28 v0 v1 v2 v3 v4 v5 σ) σ 28 [some (.inr (.inl v0)), some (.inr (.inl v1)), some (.inr (.inl v2)), some (.inr (.inl v3)), some (.inr (.inl v4)), some (.inl v5), none, none, none] []) (v0 : Nat) (v1 : Nat) (v2 : Nat) (v3 : Nat) (v4 : Nat) (v5 : Int32) (σ : zW) : zG E K zfW (sL_law_2528 n r28 v0 v1 v2 v3 v4 v5 σ) σ 2528 [some (.inr (.inl v0)), some (.inr (.inl v1)), some (.inr (.inl v2)), some (.inr (.inl v3)), some (.inr (.inl v4)), some (.inl v5), none, none, none] [] := by
  unfold sL_law_2528
  refine z_run hk hL_law_25 26 1 (pc' := 2529) (lv' := [some (.inr (.inl v0)), some (.inr (.inl v1)), some (.inr (.inl v2)), some (.inr (.inl v3)), some (.inr (.inl v4)), some (.inl v5), none, none, none]) (st' := [.inr (.inl v1)]) rfl ?_
  refine kX7_faultPosition F hk (z_row hL_law_25 27 rfl) wd_314 (by decide) (Nat.le_of_ble_eq_true rfl) (fun x334 => ?_)
  refine z_run hk hL_law_25 28 1 (pc' := 2533) (lv' := [some (.inr (.inl v0)), some (.inr (.inl v1)), some (.inr (.inl v2)), some (.inr (.inl v3)), some (.inr (.inl v4)), some (.inl v5), none, none, none]) (st' := [.inr (.inl v2), .inl x334]) rfl ?_
  refine kX8_faultPosition F hk (z_row hL_law_25 29 rfl) wd_1530 (by decide) (Nat.le_of_ble_eq_true rfl) (fun x335 σ336 => ?_)
  refine z_ceq hk (z_row hL_law_25 30 rfl) (tgt := 2620) rfl ?_ ?_
  · exact gsL_law_2620 F n hk he r28 hr28 v0 v1 v2 v3 v4 v5 σ336
  · refine z_run hk hL_law_25 31 1 (pc' := 2540) (lv' := [some (.inr (.inl v0)), some (.inr (.inl v1)), some (.inr (.inl v2)), some (.inr (.inl v3)), some (.inr (.inl v4)), some (.inl v5), none, none, none]) (st' := [.inl 0]) rfl ?_
    exact z_zret (fin := zfW) (o := (0, σ336)) hk he (z_row hL_law_25 32 rfl) rfl
theorem gsL_law_2582 (F : zFx E) (n : Nat) (hk : zk E K "LotSalesLaw" cL_law 9 13) (he : zend E K (some .boolean) (cMe K).name) (r28 : Nat → Nat → Nat → Nat → Nat → Int32 → zW → Option (Int32 × zW)) (hr28 : ∀ (v0 : Nat) (v1 : Nat) (v2 : Nat) (v3 : Nat) (v4 : Nat) (v5 : Int32) (σ : zW), zG E K zfW (r28 v0 v1 v2 v3 v4 v5 σ) σ 28 [some (.inr (.inl v0)), some (.inr (.inl v1)), some (.inr (.inl v2)), some (.inr (.inl v3)), some (.inr (.inl v4)), some (.inl v5), none, none, none] []) (v0 : Nat) (v1 : Nat) (v2 : Nat) (v3 : Nat) (v4 : Nat) (v5 : Int32) (σ : zW) : zG E K zfW (sL_law_2582 n r28 v0 v1 v2 v3 v4 v5 σ) σ 2582 [some (.inr (.inl v0)), some (.inr (.inl v1)), some (.inr (.inl v2)), some (.inr (.inl v3)), some (.inr (.inl v4)), some (.inl v5), none, none, none] [] := by
  unfold sL_law_2582
  refine z_goto hk (z_row hL_law_25 57 rfl) (tgt := 2620) rfl ?_
  exact gsL_law_2620 F n hk he r28 hr28 v0 v1 v2 v3 v4 v5 σ
theorem gsL_law_2541 (F : zFx E) (n : Nat) (hk : zk E K "LotSalesLaw" cL_law 9 13) (he : zend E K (some .boolean) (cMe K).name) (r28 : Nat → Nat → Nat → Nat → Nat → Int32 → zW → Option (Int32 × zW)) (hr28 : ∀ (v0 : Nat) (v1 : Nat) (v2 : Nat) (v3 : Nat) (v4 : Nat) (v5 : Int32) (σ : zW), zG E K zfW (r28 v0 v1 v2 v3 v4 v5 σ) σ 28 [some (.inr (.inl v0)), some (.inr (.inl v1)), some (.inr (.inl v2)), some (.inr (.inl v3)), some (.inr (.inl v4)), some (.inl v5), none, none, none] []) (v0 : Nat) (v1 : Nat) (v2 : Nat) (v3 : Nat) (v4 : Nat) (v5 : Int32) (σ : zW) : zG E K zfW (sL_law_2541 n r28 v0 v1 v2 v3 v4 v5 σ) σ 2541 [some (.inr (.inl v0)), some (.inr (.inl v1)), some (.inr (.inl v2)), some (.inr (.inl v3)), some (.inr (.inl v4)), some (.inl v5), none, none, none] [] := by
  unfold sL_law_2541
  refine z_run hk hL_law_25 33 2 (pc' := 2543) (lv' := [some (.inr (.inl v0)), some (.inr (.inl v1)), some (.inr (.inl v2)), some (.inr (.inl v3)), some (.inr (.inl v4)), some (.inl v5), none, none, none]) (st' := [.inr (.inl v3), .inr (.inl v1)]) rfl ?_
  refine kL_undo F hk (z_row hL_law_25 35 rfl) wd_1088 (by decide) (Nat.le_of_ble_eq_true rfl) (fun x337 σ338 => ?_)
  refine z_run hk hL_law_25 36 2 (pc' := 2549) (lv' := [some (.inr (.inl v0)), some (.inr (.inl v1)), some (.inr (.inl v2)), some (.inr (.inl v3)), some (.inr (.inl v4)), some (.inl v5), some (.inl x337), none, none]) (st' := [.inr (.inl v2)]) rfl ?_
  refine kX8_undo F hk (z_row hL_law_25 38 rfl) wd_1534 (by decide) (Nat.le_of_ble_eq_true rfl) (fun x339 σ340 => ?_)
  refine z_run hk hL_law_25 39 2 (pc' := 2555) (lv' := [some (.inr (.inl v0)), some (.inr (.inl v1)), some (.inr (.inl v2)), some (.inr (.inl v3)), some (.inr (.inl v4)), some (.inl v5), some (.inl x337), some (.inl x339), none]) (st' := [.inr (.inl v2)]) rfl ?_
  refine kX8_thrown F hk (z_row hL_law_25 41 rfl) wd_1112 (by decide) (Nat.le_of_ble_eq_true rfl) (fun x341 => ?_)
  refine z_run hk hL_law_25 42 1 (pc' := 2560) (lv' := [some (.inr (.inl v0)), some (.inr (.inl v1)), some (.inr (.inl v2)), some (.inr (.inl v3)), some (.inr (.inl v4)), some (.inl v5), some (.inl x337), some (.inl x339), none]) (st' := [.inl x337, .inl x341]) rfl ?_
  refine z_ceq hk (z_row hL_law_25 43 rfl) (tgt := 2565) rfl ?_ ?_
  · refine z_run hk hL_law_25 46 1 (pc' := 2567) (lv' := [some (.inr (.inl v0)), some (.inr (.inl v1)), some (.inr (.inl v2)), some (.inr (.inl v3)), some (.inr (.inl v4)), some (.inl v5), some (.inl x337), some (.inl x339), none]) (st' := [.inl x337]) rfl ?_
    refine z_ne hk (z_row hL_law_25 47 rfl) (tgt := 2582) rfl ?_ ?_
    · refine z_mask [true, true, true, true, true, true, false, false, false] rfl ?_
      exact gsL_law_2582 F n hk he r28 hr28 v0 v1 v2 v3 v4 v5 σ340
    · refine z_run hk hL_law_25 48 2 (pc' := 2572) (lv' := [some (.inr (.inl v0)), some (.inr (.inl v1)), some (.inr (.inl v2)), some (.inr (.inl v3)), some (.inr (.inl v4)), some (.inl v5), some (.inl x337), some (.inl x339), none]) (st' := [.inl 0, .inr (.inl v3)]) rfl ?_
      refine z_aL hk (z_row hL_law_25 50 rfl) (fun x342 => ?_)
      refine z_run hk hL_law_25 51 3 (pc' := 2577) (lv' := [some (.inr (.inl v0)), some (.inr (.inl v1)), some (.inr (.inl v2)), some (.inr (.inl v3)), some (.inr (.inl v4)), some (.inl v5), some (.inl x337), some (.inl x339), none]) (st' := [.inl (lg_cmp (x342.toInt64) (x339.toInt64))]) rfl ?_
      refine z_eq hk (z_row hL_law_25 54 rfl) (tgt := 2582) rfl ?_ ?_
      · refine z_mask [true, true, true, true, true, true, false, false, false] rfl ?_
        exact gsL_law_2582 F n hk he r28 hr28 v0 v1 v2 v3 v4 v5 σ340
      · refine z_run hk hL_law_25 55 1 (pc' := 2581) (lv' := [some (.inr (.inl v0)), some (.inr (.inl v1)), some (.inr (.inl v2)), some (.inr (.inl v3)), some (.inr (.inl v4)), some (.inl v5), some (.inl x337), some (.inl x339), none]) (st' := [.inl 0]) rfl ?_
        exact z_zret (fin := zfW) (o := (0, σ340)) hk he (z_row hL_law_25 56 rfl) rfl
  · refine z_run hk hL_law_25 44 1 (pc' := 2564) (lv' := [some (.inr (.inl v0)), some (.inr (.inl v1)), some (.inr (.inl v2)), some (.inr (.inl v3)), some (.inr (.inl v4)), some (.inl v5), some (.inl x337), some (.inl x339), none]) (st' := [.inl 0]) rfl ?_
    exact z_zret (fin := zfW) (o := (0, σ340)) hk he (z_row hL_law_25 45 rfl) rfl
theorem gsL_law_2585 (F : zFx E) (n : Nat) (hk : zk E K "LotSalesLaw" cL_law 9 13) (he : zend E K (some .boolean) (cMe K).name) (r28 : Nat → Nat → Nat → Nat → Nat → Int32 → zW → Option (Int32 × zW)) (hr28 : ∀ (v0 : Nat) (v1 : Nat) (v2 : Nat) (v3 : Nat) (v4 : Nat) (v5 : Int32) (σ : zW), zG E K zfW (r28 v0 v1 v2 v3 v4 v5 σ) σ 28 [some (.inr (.inl v0)), some (.inr (.inl v1)), some (.inr (.inl v2)), some (.inr (.inl v3)), some (.inr (.inl v4)), some (.inl v5), none, none, none] []) (v0 : Nat) (v1 : Nat) (v2 : Nat) (v3 : Nat) (v4 : Nat) (v5 : Int32) (σ : zW) : zG E K zfW (sL_law_2585 n r28 v0 v1 v2 v3 v4 v5 σ) σ 2585 [some (.inr (.inl v0)), some (.inr (.inl v1)), some (.inr (.inl v2)), some (.inr (.inl v3)), some (.inr (.inl v4)), some (.inl v5), none, none, none] [] := by
  unfold sL_law_2585
  refine z_run hk hL_law_25 58 1 (pc' := 2586) (lv' := [some (.inr (.inl v0)), some (.inr (.inl v1)), some (.inr (.inl v2)), some (.inr (.inl v3)), some (.inr (.inl v4)), some (.inl v5), none, none, none]) (st' := [.inr (.inl v1)]) rfl ?_
  refine kX7_save F hk (z_row hL_law_25 59 rfl) wd_318 (by decide) (Nat.le_of_ble_eq_true rfl) (fun σ343 => ?_)
  refine z_run hk hL_law_26 0 1 (pc' := 2590) (lv' := [some (.inr (.inl v0)), some (.inr (.inl v1)), some (.inr (.inl v2)), some (.inr (.inl v3)), some (.inr (.inl v4)), some (.inl v5), none, none, none]) (st' := [.inr (.inl v2)]) rfl ?_
  refine kX8_save F hk (z_row hL_law_26 1 rfl) wd_1538 (by decide) (Nat.le_of_ble_eq_true rfl) (fun σ344 => ?_)
  refine z_goto hk (z_row hL_law_26 2 rfl) (tgt := 2620) rfl ?_
  exact gsL_law_2620 F n hk he r28 hr28 v0 v1 v2 v3 v4 v5 σ344
theorem gsL_law_2596 (F : zFx E) (n : Nat) (hk : zk E K "LotSalesLaw" cL_law 9 13) (he : zend E K (some .boolean) (cMe K).name) (r28 : Nat → Nat → Nat → Nat → Nat → Int32 → zW → Option (Int32 × zW)) (hr28 : ∀ (v0 : Nat) (v1 : Nat) (v2 : Nat) (v3 : Nat) (v4 : Nat) (v5 : Int32) (σ : zW), zG E K zfW (r28 v0 v1 v2 v3 v4 v5 σ) σ 28 [some (.inr (.inl v0)), some (.inr (.inl v1)), some (.inr (.inl v2)), some (.inr (.inl v3)), some (.inr (.inl v4)), some (.inl v5), none, none, none] []) (v0 : Nat) (v1 : Nat) (v2 : Nat) (v3 : Nat) (v4 : Nat) (v5 : Int32) (σ : zW) : zG E K zfW (sL_law_2596 n r28 v0 v1 v2 v3 v4 v5 σ) σ 2596 [some (.inr (.inl v0)), some (.inr (.inl v1)), some (.inr (.inl v2)), some (.inr (.inl v3)), some (.inr (.inl v4)), some (.inl v5), none, none, none] [] := by
  unfold sL_law_2596
  refine z_run hk hL_law_26 3 1 (pc' := 2597) (lv' := [some (.inr (.inl v0)), some (.inr (.inl v1)), some (.inr (.inl v2)), some (.inr (.inl v3)), some (.inr (.inl v4)), some (.inl v5), none, none, none]) (st' := [.inr (.inl v1)]) rfl ?_
  refine kL_restore F hk (z_row hL_law_26 4 rfl) wd_1100 (by decide) (Nat.le_of_ble_eq_true rfl) (fun x345 σ346 => ?_)
  refine z_run hk hL_law_26 5 2 (pc' := 2603) (lv' := [some (.inr (.inl v0)), some (.inr (.inl v1)), some (.inr (.inl v2)), some (.inr (.inl v3)), some (.inr (.inl v4)), some (.inl v5), some (.inl x345), none, none]) (st' := [.inr (.inl v2)]) rfl ?_
  refine kX8_restore F hk (z_row hL_law_26 7 rfl) wd_1542 (by decide) (Nat.le_of_ble_eq_true rfl) (fun σ347 => ?_)
  refine z_run hk hL_law_26 8 1 (pc' := 2607) (lv' := [some (.inr (.inl v0)), some (.inr (.inl v1)), some (.inr (.inl v2)), some (.inr (.inl v3)), some (.inr (.inl v4)), some (.inl v5), some (.inl x345), none, none]) (st' := [.inr (.inl v2)]) rfl ?_
  refine kX8_thrown F hk (z_row hL_law_26 9 rfl) wd_1112 (by decide) (Nat.le_of_ble_eq_true rfl) (fun x348 => ?_)
  refine z_run hk hL_law_26 10 1 (pc' := 2612) (lv' := [some (.inr (.inl v0)), some (.inr (.inl v1)), some (.inr (.inl v2)), some (.inr (.inl v3)), some (.inr (.inl v4)), some (.inl v5), some (.inl x345), none, none]) (st' := [.inl x345, .inl x348]) rfl ?_
  refine z_ceq hk (z_row hL_law_26 11 rfl) (tgt := 2617) rfl ?_ ?_
  · refine z_goto hk (z_row hL_law_26 14 rfl) (tgt := 2620) rfl ?_
    refine z_mask [true, true, true, true, true, true, false, false, false] rfl ?_
    exact gsL_law_2620 F n hk he r28 hr28 v0 v1 v2 v3 v4 v5 σ347
  · refine z_run hk hL_law_26 12 1 (pc' := 2616) (lv' := [some (.inr (.inl v0)), some (.inr (.inl v1)), some (.inr (.inl v2)), some (.inr (.inl v3)), some (.inr (.inl v4)), some (.inl v5), some (.inl x345), none, none]) (st' := [.inl 0]) rfl ?_
    exact z_zret (fin := zfW) (o := (0, σ347)) hk he (z_row hL_law_26 13 rfl) rfl
theorem gsL_law_28 (F : zFx E) (n : Nat) (hk : zk E K "LotSalesLaw" cL_law 9 13) (he : zend E K (some .boolean) (cMe K).name) : ∀ (k : Nat) (v0 : Nat) (v1 : Nat) (v2 : Nat) (v3 : Nat) (v4 : Nat) (v5 : Int32) (σ : zW), zG E K zfW (sL_law_28 n k v0 v1 v2 v3 v4 v5 σ) σ 28 [some (.inr (.inl v0)), some (.inr (.inl v1)), some (.inr (.inl v2)), some (.inr (.inl v3)), some (.inr (.inl v4)), some (.inl v5), none, none, none] [] := by
  intro k
  induction k with
  | zero =>
    intro v0 v1 v2 v3 v4 v5 σ
    intro hX
    exact z_none hX
  | succ k ih =>
    intro v0 v1 v2 v3 v4 v5 σ
    rw [sL_law_28]
    refine z_run hk hL_law_0 16 2 (pc' := 31) (lv' := [some (.inr (.inl v0)), some (.inr (.inl v1)), some (.inr (.inl v2)), some (.inr (.inl v3)), some (.inr (.inl v4)), some (.inl v5), none, none, none]) (st' := [.inr (.inl v0), .inl v5]) rfl ?_
    refine z_len hk (z_row hL_law_0 18 rfl) (fun x349 => ?_)
    refine z_run hk hL_law_0 19 2 (pc' := 34) (lv' := [some (.inr (.inl v0)), some (.inr (.inl v1)), some (.inr (.inl v2)), some (.inr (.inl v3)), some (.inr (.inl v4)), some (.inl v5), none, none, none]) (st' := [.inl (x349 - 5), .inl v5]) rfl ?_
    refine z_cgt hk (z_row hL_law_0 21 rfl) (tgt := 2626) rfl ?_ ?_
    · refine z_run hk hL_law_26 17 1 (pc' := 2627) (lv' := [some (.inr (.inl v0)), some (.inr (.inl v1)), some (.inr (.inl v2)), some (.inr (.inl v3)), some (.inr (.inl v4)), some (.inl v5), none, none, none]) (st' := [.inl 1]) rfl ?_
      exact z_zret (fin := zfW) (o := (1, σ)) hk he (z_row hL_law_26 18 rfl) rfl
    · refine z_run hk hL_law_0 22 2 (pc' := 40) (lv' := [some (.inr (.inl v0)), some (.inr (.inl v1)), some (.inr (.inl v2)), some (.inr (.inl v3)), some (.inr (.inl v4)), some (.inl v5), none, none, none]) (st' := [.inl v5, .inr (.inl v0)]) rfl ?_
      refine z_aI hk (z_row hL_law_0 24 rfl) (fun x350 => ?_)
      refine z_run hk hL_law_0 25 2 (pc' := 44) (lv' := [some (.inr (.inl v0)), some (.inr (.inl v1)), some (.inr (.inl v2)), some (.inr (.inl v3)), some (.inr (.inl v4)), some (.inl v5), none, none, none]) (st' := [.inl (x350 &&& 63)]) rfl ?_
      refine z_tabI hk (z_row hL_law_0 27 rfl) (c := 0) (tgt := 220) (by decide) (by decide) rfl rfl ?_ (fun hn0 => ?_)
      · exact gsL_law_220 F n hk he (sL_law_28 n k) ih v0 v1 v2 v3 v4 v5 σ
      refine z_tabI hk (z_row hL_law_0 27 rfl) (c := 1) (tgt := 300) (by decide) (by decide) rfl rfl ?_ (fun hn1 => ?_)
      · exact gsL_law_300 F n hk he (sL_law_28 n k) ih v0 v1 v2 v3 v4 v5 σ
      refine z_tabI hk (z_row hL_law_0 27 rfl) (c := 2) (tgt := 368) (by decide) (by decide) rfl rfl ?_ (fun hn2 => ?_)
      · exact gsL_law_368 F n hk he (sL_law_28 n k) ih v0 v1 v2 v3 v4 v5 σ
      refine z_tabI hk (z_row hL_law_0 27 rfl) (c := 3) (tgt := 424) (by decide) (by decide) rfl rfl ?_ (fun hn3 => ?_)
      · exact gsL_law_424 F n hk he (sL_law_28 n k) ih v0 v1 v2 v3 v4 v5 σ
      refine z_tabI hk (z_row hL_law_0 27 rfl) (c := 4) (tgt := 504) (by decide) (by decide) rfl rfl ?_ (fun hn4 => ?_)
      · exact gsL_law_504 F n hk he (sL_law_28 n k) ih v0 v1 v2 v3 v4 v5 σ
      refine z_tabI hk (z_row hL_law_0 27 rfl) (c := 5) (tgt := 572) (by decide) (by decide) rfl rfl ?_ (fun hn5 => ?_)
      · exact gsL_law_572 F n hk he (sL_law_28 n k) ih v0 v1 v2 v3 v4 v5 σ
      refine z_tabI hk (z_row hL_law_0 27 rfl) (c := 6) (tgt := 628) (by decide) (by decide) rfl rfl ?_ (fun hn6 => ?_)
      · exact gsL_law_628 F n hk he (sL_law_28 n k) ih v0 v1 v2 v3 v4 v5 σ
      refine z_tabI hk (z_row hL_law_0 27 rfl) (c := 7) (tgt := 684) (by decide) (by decide) rfl rfl ?_ (fun hn7 => ?_)
      · exact gsL_law_684 F n hk he (sL_law_28 n k) ih v0 v1 v2 v3 v4 v5 σ
      refine z_tabI hk (z_row hL_law_0 27 rfl) (c := 8) (tgt := 752) (by decide) (by decide) rfl rfl ?_ (fun hn8 => ?_)
      · exact gsL_law_752 F n hk he (sL_law_28 n k) ih v0 v1 v2 v3 v4 v5 σ
      refine z_tabI hk (z_row hL_law_0 27 rfl) (c := 9) (tgt := 832) (by decide) (by decide) rfl rfl ?_ (fun hn9 => ?_)
      · exact gsL_law_832 F n hk he (sL_law_28 n k) ih v0 v1 v2 v3 v4 v5 σ
      refine z_tabI hk (z_row hL_law_0 27 rfl) (c := 10) (tgt := 900) (by decide) (by decide) rfl rfl ?_ (fun hn10 => ?_)
      · exact gsL_law_900 F n hk he (sL_law_28 n k) ih v0 v1 v2 v3 v4 v5 σ
      refine z_tabI hk (z_row hL_law_0 27 rfl) (c := 11) (tgt := 968) (by decide) (by decide) rfl rfl ?_ (fun hn11 => ?_)
      · exact gsL_law_968 F n hk he (sL_law_28 n k) ih v0 v1 v2 v3 v4 v5 σ
      refine z_tabI hk (z_row hL_law_0 27 rfl) (c := 12) (tgt := 1024) (by decide) (by decide) rfl rfl ?_ (fun hn12 => ?_)
      · exact gsL_law_1024 F n hk he (sL_law_28 n k) ih v0 v1 v2 v3 v4 v5 σ
      refine z_tabI hk (z_row hL_law_0 27 rfl) (c := 13) (tgt := 1080) (by decide) (by decide) rfl rfl ?_ (fun hn13 => ?_)
      · exact gsL_law_1080 F n hk he (sL_law_28 n k) ih v0 v1 v2 v3 v4 v5 σ
      refine z_tabI hk (z_row hL_law_0 27 rfl) (c := 14) (tgt := 1160) (by decide) (by decide) rfl rfl ?_ (fun hn14 => ?_)
      · exact gsL_law_1160 F n hk he (sL_law_28 n k) ih v0 v1 v2 v3 v4 v5 σ
      refine z_tabI hk (z_row hL_law_0 27 rfl) (c := 15) (tgt := 1204) (by decide) (by decide) rfl rfl ?_ (fun hn15 => ?_)
      · exact gsL_law_1204 F n hk he (sL_law_28 n k) ih v0 v1 v2 v3 v4 v5 σ
      refine z_tabI hk (z_row hL_law_0 27 rfl) (c := 16) (tgt := 1312) (by decide) (by decide) rfl rfl ?_ (fun hn16 => ?_)
      · exact gsL_law_1312 F n hk he (sL_law_28 n k) ih v0 v1 v2 v3 v4 v5 σ
      refine z_tabI hk (z_row hL_law_0 27 rfl) (c := 17) (tgt := 1380) (by decide) (by decide) rfl rfl ?_ (fun hn17 => ?_)
      · exact gsL_law_1380 F n hk he (sL_law_28 n k) ih v0 v1 v2 v3 v4 v5 σ
      refine z_tabI hk (z_row hL_law_0 27 rfl) (c := 18) (tgt := 1460) (by decide) (by decide) rfl rfl ?_ (fun hn18 => ?_)
      · exact gsL_law_1460 F n hk he (sL_law_28 n k) ih v0 v1 v2 v3 v4 v5 σ
      refine z_tabI hk (z_row hL_law_0 27 rfl) (c := 19) (tgt := 1540) (by decide) (by decide) rfl rfl ?_ (fun hn19 => ?_)
      · exact gsL_law_1540 F n hk he (sL_law_28 n k) ih v0 v1 v2 v3 v4 v5 σ
      refine z_tabI hk (z_row hL_law_0 27 rfl) (c := 20) (tgt := 1596) (by decide) (by decide) rfl rfl ?_ (fun hn20 => ?_)
      · exact gsL_law_1596 F n hk he (sL_law_28 n k) ih v0 v1 v2 v3 v4 v5 σ
      refine z_tabI hk (z_row hL_law_0 27 rfl) (c := 21) (tgt := 1652) (by decide) (by decide) rfl rfl ?_ (fun hn21 => ?_)
      · exact gsL_law_1652 F n hk he (sL_law_28 n k) ih v0 v1 v2 v3 v4 v5 σ
      refine z_tabI hk (z_row hL_law_0 27 rfl) (c := 22) (tgt := 1720) (by decide) (by decide) rfl rfl ?_ (fun hn22 => ?_)
      · exact gsL_law_1720 F n hk he (sL_law_28 n k) ih v0 v1 v2 v3 v4 v5 σ
      refine z_tabI hk (z_row hL_law_0 27 rfl) (c := 23) (tgt := 1788) (by decide) (by decide) rfl rfl ?_ (fun hn23 => ?_)
      · exact gsL_law_1788 F n hk he (sL_law_28 n k) ih v0 v1 v2 v3 v4 v5 σ
      refine z_tabI hk (z_row hL_law_0 27 rfl) (c := 24) (tgt := 1856) (by decide) (by decide) rfl rfl ?_ (fun hn24 => ?_)
      · exact gsL_law_1856 F n hk he (sL_law_28 n k) ih v0 v1 v2 v3 v4 v5 σ
      refine z_tabI hk (z_row hL_law_0 27 rfl) (c := 25) (tgt := 1912) (by decide) (by decide) rfl rfl ?_ (fun hn25 => ?_)
      · exact gsL_law_1912 F n hk he (sL_law_28 n k) ih v0 v1 v2 v3 v4 v5 σ
      refine z_tabI hk (z_row hL_law_0 27 rfl) (c := 26) (tgt := 1996) (by decide) (by decide) rfl rfl ?_ (fun hn26 => ?_)
      · exact gsL_law_1996 F n hk he (sL_law_28 n k) ih v0 v1 v2 v3 v4 v5 σ
      refine z_tabI hk (z_row hL_law_0 27 rfl) (c := 27) (tgt := 2052) (by decide) (by decide) rfl rfl ?_ (fun hn27 => ?_)
      · exact gsL_law_2052 F n hk he (sL_law_28 n k) ih v0 v1 v2 v3 v4 v5 σ
      refine z_tabI hk (z_row hL_law_0 27 rfl) (c := 28) (tgt := 2120) (by decide) (by decide) rfl rfl ?_ (fun hn28 => ?_)
      · exact gsL_law_2120 F n hk he (sL_law_28 n k) ih v0 v1 v2 v3 v4 v5 σ
      refine z_tabI hk (z_row hL_law_0 27 rfl) (c := 29) (tgt := 2188) (by decide) (by decide) rfl rfl ?_ (fun hn29 => ?_)
      · exact gsL_law_2188 F n hk he (sL_law_28 n k) ih v0 v1 v2 v3 v4 v5 σ
      refine z_tabI hk (z_row hL_law_0 27 rfl) (c := 30) (tgt := 2244) (by decide) (by decide) rfl rfl ?_ (fun hn30 => ?_)
      · exact gsL_law_2244 F n hk he (sL_law_28 n k) ih v0 v1 v2 v3 v4 v5 σ
      refine z_tabI hk (z_row hL_law_0 27 rfl) (c := 31) (tgt := 2309) (by decide) (by decide) rfl rfl ?_ (fun hn31 => ?_)
      · exact gsL_law_2309 F n hk he (sL_law_28 n k) ih v0 v1 v2 v3 v4 v5 σ
      refine z_tabI hk (z_row hL_law_0 27 rfl) (c := 32) (tgt := 2365) (by decide) (by decide) rfl rfl ?_ (fun hn32 => ?_)
      · exact gsL_law_2365 F n hk he (sL_law_28 n k) ih v0 v1 v2 v3 v4 v5 σ
      refine z_tabI hk (z_row hL_law_0 27 rfl) (c := 33) (tgt := 2433) (by decide) (by decide) rfl rfl ?_ (fun hn33 => ?_)
      · exact gsL_law_2433 F n hk he (sL_law_28 n k) ih v0 v1 v2 v3 v4 v5 σ
      refine z_tabI hk (z_row hL_law_0 27 rfl) (c := 34) (tgt := 2446) (by decide) (by decide) rfl rfl ?_ (fun hn34 => ?_)
      · exact gsL_law_2446 F n hk he (sL_law_28 n k) ih v0 v1 v2 v3 v4 v5 σ
      refine z_tabI hk (z_row hL_law_0 27 rfl) (c := 35) (tgt := 2484) (by decide) (by decide) rfl rfl ?_ (fun hn35 => ?_)
      · exact gsL_law_2484 F n hk he (sL_law_28 n k) ih v0 v1 v2 v3 v4 v5 σ
      refine z_tabI hk (z_row hL_law_0 27 rfl) (c := 36) (tgt := 2528) (by decide) (by decide) rfl rfl ?_ (fun hn36 => ?_)
      · exact gsL_law_2528 F n hk he (sL_law_28 n k) ih v0 v1 v2 v3 v4 v5 σ
      refine z_tabI hk (z_row hL_law_0 27 rfl) (c := 37) (tgt := 2541) (by decide) (by decide) rfl rfl ?_ (fun hn37 => ?_)
      · exact gsL_law_2541 F n hk he (sL_law_28 n k) ih v0 v1 v2 v3 v4 v5 σ
      refine z_tabI hk (z_row hL_law_0 27 rfl) (c := 38) (tgt := 2585) (by decide) (by decide) rfl rfl ?_ (fun hn38 => ?_)
      · exact gsL_law_2585 F n hk he (sL_law_28 n k) ih v0 v1 v2 v3 v4 v5 σ
      refine z_tabI hk (z_row hL_law_0 27 rfl) (c := 39) (tgt := 2596) (by decide) (by decide) rfl rfl ?_ (fun hn39 => ?_)
      · exact gsL_law_2596 F n hk he (sL_law_28 n k) ih v0 v1 v2 v3 v4 v5 σ
      have hi0 := z_ne_toInt hn0 (n := 0) (by decide)
      have hi1 := z_ne_toInt hn1 (n := 1) (by decide)
      have hi2 := z_ne_toInt hn2 (n := 2) (by decide)
      have hi3 := z_ne_toInt hn3 (n := 3) (by decide)
      have hi4 := z_ne_toInt hn4 (n := 4) (by decide)
      have hi5 := z_ne_toInt hn5 (n := 5) (by decide)
      have hi6 := z_ne_toInt hn6 (n := 6) (by decide)
      have hi7 := z_ne_toInt hn7 (n := 7) (by decide)
      have hi8 := z_ne_toInt hn8 (n := 8) (by decide)
      have hi9 := z_ne_toInt hn9 (n := 9) (by decide)
      have hi10 := z_ne_toInt hn10 (n := 10) (by decide)
      have hi11 := z_ne_toInt hn11 (n := 11) (by decide)
      have hi12 := z_ne_toInt hn12 (n := 12) (by decide)
      have hi13 := z_ne_toInt hn13 (n := 13) (by decide)
      have hi14 := z_ne_toInt hn14 (n := 14) (by decide)
      have hi15 := z_ne_toInt hn15 (n := 15) (by decide)
      have hi16 := z_ne_toInt hn16 (n := 16) (by decide)
      have hi17 := z_ne_toInt hn17 (n := 17) (by decide)
      have hi18 := z_ne_toInt hn18 (n := 18) (by decide)
      have hi19 := z_ne_toInt hn19 (n := 19) (by decide)
      have hi20 := z_ne_toInt hn20 (n := 20) (by decide)
      have hi21 := z_ne_toInt hn21 (n := 21) (by decide)
      have hi22 := z_ne_toInt hn22 (n := 22) (by decide)
      have hi23 := z_ne_toInt hn23 (n := 23) (by decide)
      have hi24 := z_ne_toInt hn24 (n := 24) (by decide)
      have hi25 := z_ne_toInt hn25 (n := 25) (by decide)
      have hi26 := z_ne_toInt hn26 (n := 26) (by decide)
      have hi27 := z_ne_toInt hn27 (n := 27) (by decide)
      have hi28 := z_ne_toInt hn28 (n := 28) (by decide)
      have hi29 := z_ne_toInt hn29 (n := 29) (by decide)
      have hi30 := z_ne_toInt hn30 (n := 30) (by decide)
      have hi31 := z_ne_toInt hn31 (n := 31) (by decide)
      have hi32 := z_ne_toInt hn32 (n := 32) (by decide)
      have hi33 := z_ne_toInt hn33 (n := 33) (by decide)
      have hi34 := z_ne_toInt hn34 (n := 34) (by decide)
      have hi35 := z_ne_toInt hn35 (n := 35) (by decide)
      have hi36 := z_ne_toInt hn36 (n := 36) (by decide)
      have hi37 := z_ne_toInt hn37 (n := 37) (by decide)
      have hi38 := z_ne_toInt hn38 (n := 38) (by decide)
      have hi39 := z_ne_toInt hn39 (n := 39) (by decide)
      refine z_tabO hk (z_row hL_law_0 27 rfl) (tgt := 2620) (by omega) rfl ?_
      exact gsL_law_2620 F n hk he (sL_law_28 n k) ih v0 v1 v2 v3 v4 v5 σ
theorem bL_law (F : zFx E) (n : Nat) (a0 : Nat) (σ : zW) (hk : zk E K "LotSalesLaw" cL_law 9 13) (he : zend E K (some .boolean) (cMe K).name) : zG E K zfW (fL_law n a0 σ) σ 0 [some (.inr (.inl a0)), none, none, none, none, none, none, none, none] [] := by
  unfold fL_law
  refine z_new hk (z_row hL_law_0 0 rfl) (ci := 7) rfl wd_23 wd_24 wd_1 (fun q351 σ352 => ?_)
  refine z_run hk hL_law_0 1 1 (pc' := 4) (lv' := [some (.inr (.inl a0)), none, none, none, none, none, none, none, none]) (st' := [.inr (.inl q351), .inr (.inl q351)]) rfl ?_
  refine kX7_init F hk (z_row hL_law_0 2 rfl) wd_25 (by decide) (Nat.le_of_ble_eq_true rfl) (fun σ353 => ?_)
  refine z_run hk hL_law_0 3 1 (pc' := 8) (lv' := [some (.inr (.inl a0)), some (.inr (.inl q351)), none, none, none, none, none, none, none]) (st' := []) rfl ?_
  refine z_new hk (z_row hL_law_0 4 rfl) (ci := 8) rfl wd_1116 wd_1117 wd_10 (fun q354 σ355 => ?_)
  refine z_run hk hL_law_0 5 1 (pc' := 12) (lv' := [some (.inr (.inl a0)), some (.inr (.inl q351)), none, none, none, none, none, none, none]) (st' := [.inr (.inl q354), .inr (.inl q354)]) rfl ?_
  refine kX8_init F hk (z_row hL_law_0 6 rfl) wd_1118 (by decide) (Nat.le_of_ble_eq_true rfl) (fun σ356 => ?_)
  refine z_run hk hL_law_0 7 2 (pc' := 17) (lv' := [some (.inr (.inl a0)), some (.inr (.inl q351)), some (.inr (.inl q354)), none, none, none, none, none, none]) (st' := [.inl 1]) rfl ?_
  refine z_newa hk (κ := 23) (tn := 2) (z_row hL_law_0 9 rfl) wd_1546 rfl rfl (by decide) (by decide) (zhent_l E) (fun q357 σ358 => ?_)
  refine z_run hk hL_law_0 10 2 (pc' := 21) (lv' := [some (.inr (.inl a0)), some (.inr (.inl q351)), some (.inr (.inl q354)), some (.inr (.inl q357)), none, none, none, none, none]) (st' := [.inl 1]) rfl ?_
  refine z_newa hk (κ := 24) (tn := 3) (z_row hL_law_0 12 rfl) wd_1547 rfl rfl (by decide) (by decide) (zhent_d E) (fun q359 σ360 => ?_)
  refine z_run hk hL_law_0 13 3 (pc' := 28) (lv' := [some (.inr (.inl a0)), some (.inr (.inl q351)), some (.inr (.inl q354)), some (.inr (.inl q357)), some (.inr (.inl q359)), some (.inl 0), none, none, none]) (st' := []) rfl ?_
  exact gsL_law_28 F n hk he n a0 q351 q354 q357 q359 0 σ360
end
