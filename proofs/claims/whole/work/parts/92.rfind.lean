section
variable {τ : zW} {T : Nat → Int32} {len c n : Nat}
theorem r_nb {x : Int32} : fX8_numbersOf n x τ = some (Int32.ofNat (nb x)) := by
  by_cases h1 : x = 97
  · subst h1; rfl
  · by_cases h2 : x = 98
    · subst h2; rfl
    · by_cases h3 : x = 99
      · subst h3; rfl
      · by_cases h4 : x = 104
        · subst h4; rfl
        · by_cases h5 : x = 111
          · subst h5; rfl
          · by_cases h6 : x = 119
            · subst h6; rfl
            · unfold fX8_numbersOf nb
              rw [if_neg h1, if_neg h2, if_neg h3, if_neg h4, if_neg h5, if_neg h6, if_neg h5, if_neg h4, if_neg h6, if_neg h3, if_neg h1, if_neg h2]
              rfl
theorem nn60 {x : Nat} (hx : x ≤ 60) : Int32.ofNat x ≠ -1 := fun z => by
  have h1 : (0 : Int32) ≤ Int32.ofNat x := io_ge0 (by omega)
  rw [z] at h1
  exact absurd h1 (by decide)
theorem ix4 {k : Nat} : 4 * Int32.ofNat k = Int32.ofNat (4 * k) := ixm (c := 4)
def RC (τ τ' : zW) (T : Nat → Int32) (len p k : Nat) : Prop := Rk τ τ' ∧ zI τ' 125 15 = (if (pc T len p).1 = true then -1 else Int32.ofNat (pc T len p).2.1) ∧ zI τ' 125 14 = Int32.ofNat (pc T len p).2.1 ∧ (∀ j, j < 4 * k → zI τ' 130 j = zI τ 130 j) ∧ ((pc T len p).1 = true → zI τ' 125 17 = Int32.ofNat (k + 1) ∧ zI τ' 130 (4 * k) = T p ∧ ∀ j, j < nb (T p) → zI τ' 130 (4 * k + 1 + j) = (pc T len p).2.2 j)
theorem r_command (h : RT τ T len) (hn : 1000 < n) {p k : Nat} (hp : zI τ 125 14 = Int32.ofNat p) (h15 : zI τ 125 15 = -1) (h17 : zI τ 125 17 = Int32.ofNat k) (hpl : p ≤ len) (hk : 3 * k ≤ p) : wp (fX8_command n 125 τ) (fun τ' => RC τ τ' T len p k) := by
  have h60 := h.2.2.2.1
  unfold fX8_command
  refine wpE (zck_e h.1.1.kM) ?_
  refine wpE (zb_e (r_sign h hp hpl)) ?_
  refine wpE (zgI_e h.1.1.kM h15) ?_
  refine wpE (if_pos rfl) ?_
  refine wpE (zb_e r_nb) ?_
  have h3 := nb_le (x := sg T len p)
  unfold sX8_command_21
  by_cases g : nb (sg T len p) = 0
  · have e : pc T len p = (false, p, fun _ => 0) := if_pos g
    refine wpE (if_pos (by rw [g]; rfl)) ?_
    refine wpE (zck_e h.1.1.kM) ?_
    refine wpE (zb_e (r_fault h hp h15)) ?_
    unfold RC
    rw [e]
    exact wp_some ⟨Rk.s15, by rw [zI_st, if_pos ⟨rfl, rfl⟩]; rfl, by rw [zI_st, if_neg (by omega)]; exact hp, fun j hj => by rw [zI_st_ne (by decide)], fun z => by cases z⟩
  · obtain ⟨g1, g2⟩ := sg_pos g
    have e : pc T len p = pa T len (nb (sg T len p)) 0 (p + 1) (fun _ => 0) := if_neg g
    refine wpE (if_neg (fun z => g (by rw [io_z (by omega)] at z; exact z))) ?_
    refine wpE (zgI_e h.1.1.kM h17) ?_
    refine wpE (zgR_e h.1.1.kM h.1.2.2.2.2.1) ?_
    rw [ix4]
    refine wpE (zsN_e h.1.2.2.2.2.2.1 h.1.2.2.2.2.2.2 (show 4 * k < 120 by omega) (by decide) rfl) ?_
    have h1 : RT (stI τ 130 (4 * k) (sg T len p)) T len := Rk.sZ.rt h
    have e5 : zI (stI τ 130 (4 * k) (sg T len p)) 125 = zI τ 125 := zI_st_ne (by decide)
    refine wpE (zgI_e h1.1.1.kM ((congrFun e5 14).trans hp)) ?_
    refine wpE (zpI_e h1.1.1.kM io_succ) ?_
    have k2 : Rk τ (stI (stI τ 130 (4 * k) (sg T len p)) 125 14 (Int32.ofNat (p + 1))) := Rk.sZ.tr Rk.s14
    have e6 : zI (stI (stI τ 130 (4 * k) (sg T len p)) 125 14 (Int32.ofNat (p + 1))) 130 = zI (stI τ 130 (4 * k) (sg T len p)) 130 := zI_st_ne (by decide)
    refine wp_mono (r_args hn h3 (show 4 * k + 4 ≤ 120 by omega) (nb (sg T len p)) n 0 (p + 1) (fun _ => 0) _ (k2.rt h) (by rw [zI_st, if_pos ⟨rfl, rfl⟩]) (by rw [zI_st, if_neg (by omega), e5]; exact h15) (by omega) (by omega) (by omega) (fun j hj => absurd hj (Nat.not_lt_zero j))) (fun τ' q => ?_)
    unfold RC
    rw [e, ← g2]
    refine ⟨k2.tr q.1.1, q.1.2.1, q.2.1, fun j hj => ?_, fun t => ⟨?_, ?_, (q.2.2 t).2⟩⟩
    · rw [q.1.2.2 j (by omega), e6, zI_st, if_neg (by omega)]
    · rw [(q.2.2 t).1, zI_st, if_neg (by omega), e5, h17, io_succ]
    · rw [q.1.2.2 (4 * k) (by omega), e6, zI_st, if_pos ⟨rfl, rfl⟩]
/-- what the reading leaves: the fault; else the commands -/
def RF (τ τ' : zW) (T : Nat → Int32) (len m p k : Nat) : Prop := Rk τ τ' ∧ zI τ' 125 15 = (pl T len m p).1 ∧ (∀ j, j < 4 * k → zI τ' 130 j = zI τ 130 j) ∧ ((pl T len m p).1 = -1 → zI τ' 125 17 = Int32.ofNat (k + (pl T len m p).2) ∧ rows T len (zI τ' 130) (pl T len m p).2 k p)
theorem r_find {Q : Int32 × zW → Prop} (hn : 1000 < n) : ∀ (m f p k : Nat) (τ : zW), RT τ T len → zI τ 125 14 = Int32.ofNat p → zI τ 125 15 = -1 → zI τ 125 17 = Int32.ofNat k → p ≤ len → p + 3 * m ≥ 63 → 3 * k ≤ p → m < f →
    (∀ τ', RF τ τ' T len m p k → wp (sX8_read_68 n 125 τ') Q) → wp (zck τ 9 125 (zb (fX8_command n 125 τ) fun σ14 => sX8_read_37 n f 125 σ14)) Q
  | m, 0, _, _, _, _, _, _, _, _, _, _, hf, _ => absurd hf (by omega)
  | 0, f + 1, p, k, τ, h, hp, h15, h17, hpl, hm, hk, hf, hQ => by have := h.2.2.2.1; omega
  | m + 1, f + 1, p, k, τ, h, hp, h15, h17, hpl, hm, hk, hf, hQ => by
    have h60 := h.2.2.2.1
    have b := pc_b (T := T) hpl
    refine wpE (zck_e h.1.1.kM) ?_
    obtain ⟨τ1, e1, w1, w2, w3, w4, w5⟩ := r_command (n := n) h hn hp h15 h17 hpl hk
    refine wpE (zb_e e1) ?_
    have h1 := w1.rt h
    rw [sX8_read_37]
    refine wpE (zck_e h1.1.1.kM) ?_
    by_cases g1 : (pc T len p).1 = false
    · have e : pl T len (m + 1) p = (Int32.ofNat (pc T len p).2.1, 0) := if_pos g1
      rw [if_neg (by rw [g1]; decide)] at w2
      have ne := nn60 (x := (pc T len p).2.1) (by omega)
      refine wpE (zb2_e (r_goesF h1 w3 w2 ne)) ?_
      refine wpE (if_pos rfl) ?_
      have h2 : RT (stI τ1 125 14 (Int32.ofNat (pc T len p).2.1)) T len := Rk.s14.rt h1
      have f15 : zI (stI τ1 125 14 (Int32.ofNat (pc T len p).2.1)) 125 15 = Int32.ofNat (pc T len p).2.1 := by rw [zI_st, if_neg (by omega)]; exact w2
      refine wpE (zgI_e h2.1.1.kM (show _ = Int32.ofNat (pc T len p).2.1 by rw [zI_st, if_pos ⟨rfl, rfl⟩])) ?_
      refine wpE (zgI_e h2.1.1.kM h2.2.1) ?_
      have fin : ∀ τ', Rk (stI τ1 125 14 (Int32.ofNat (pc T len p).2.1)) τ' → zI τ' 125 15 = Int32.ofNat (pc T len p).2.1 → zI τ' 130 = zI τ1 130 → wp (sX8_read_68 n 125 τ') Q := fun τ' q1 q2 q3 => by
        refine hQ τ' ?_
        unfold RF
        rw [e]
        exact ⟨(w1.tr Rk.s14).tr q1, q2, fun j hj => by rw [q3]; exact w4 j hj, fun z => absurd z ne⟩
      by_cases g2 : Int32.ofNat (pc T len p).2.1 < Int32.ofNat len
      · refine wpE (if_pos g2) ?_
        refine wpE (zck_e h2.1.1.kM) ?_
        refine wpE (zb_e (r_faultF h2 f15 ne)) ?_
        exact fin _ Rk.s15 (by rw [zI_st, if_pos ⟨rfl, rfl⟩]) (by rw [zI_st_ne (by decide), zI_st_ne (by decide)])
      · refine wpE (if_neg g2) ?_
        exact fin _ Rk.refl f15 (zI_st_ne (by decide))
    · have t : (pc T len p).1 = true := by cases hh : (pc T len p).1 <;> simp_all
      rw [if_pos t] at w2
      obtain ⟨x1, x2, x3⟩ := w5 t
      have gs := r_goes (n := n) h1 w3 b.2.1 (ch := 59) (by decide) w2
      by_cases g2 : (pc T len p).2.1 = len
      · have e : pl T len (m + 1) p = (-1, 1) := (if_neg g1).trans (if_pos g2)
        refine wpE (zb2_e (gs.2 (fun z => by omega))) ?_
        refine wpE (if_pos rfl) ?_
        have h2 : RT (stI τ1 125 14 (Int32.ofNat (pc T len p).2.1)) T len := Rk.s14.rt h1
        refine wpE (zgI_e h2.1.1.kM (show _ = Int32.ofNat (pc T len p).2.1 by rw [zI_st, if_pos ⟨rfl, rfl⟩])) ?_
        refine wpE (zgI_e h2.1.1.kM h2.2.1) ?_
        refine wpE (if_neg (by rw [g2]; exact Int32.lt_irrefl)) ?_
        refine hQ _ ?_
        have z130 : zI (stI τ1 125 14 (Int32.ofNat (pc T len p).2.1)) 130 = zI τ1 130 := zI_st_ne (by decide)
        unfold RF
        rw [e]
        refine ⟨w1.tr Rk.s14, by rw [zI_st, if_neg (by omega)]; exact w2, fun j hj => by rw [z130]; exact w4 j hj, fun _ => ⟨by rw [zI_st, if_neg (by omega)]; exact x1, ?_⟩⟩
        rw [z130]
        exact ⟨x2, x3, trivial⟩
      · by_cases g3 : T (pc T len p).2.1 = 59
        · have e : pl T len (m + 1) p = ((pl T len m ((pc T len p).2.1 + 1)).1, (pl T len m ((pc T len p).2.1 + 1)).2 + 1) := (if_neg g1).trans ((if_neg g2).trans (if_pos g3))
          have lt : (pc T len p).2.1 < len := by omega
          have b3 := b.2.2 t
          refine wpE (zb2_e (gs.1 ⟨lt, g3⟩)) ?_
          refine wpE (if_neg one_ne) ?_
          have z130 : zI (stI τ1 125 14 (Int32.ofNat ((pc T len p).2.1 + 1))) 130 = zI τ1 130 := zI_st_ne (by decide)
          refine r_find hn m f ((pc T len p).2.1 + 1) (k + 1) _ (Rk.s14.rt h1) (by rw [zI_st, if_pos ⟨rfl, rfl⟩]) (by rw [zI_st, if_neg (by omega)]; exact w2) (by rw [zI_st, if_neg (by omega)]; exact x1) (by omega) (by omega) (by omega) (by omega) (fun τ' q => hQ τ' ?_)
          obtain ⟨q1, q2, q3, q4⟩ := q
          unfold RF
          rw [e]
          refine ⟨(w1.tr Rk.s14).tr q1, q2, fun j hj => by rw [q3 j (by omega), z130]; exact w4 j hj, fun z => ⟨by rw [(q4 z).1]; congr 1; omega, ?_, fun j hj => ?_, (q4 z).2⟩⟩
          · rw [q3 (4 * k) (by omega), z130]; exact x2
          · have := nb_le (x := T p)
            rw [q3 (4 * k + 1 + j) (by omega), z130]; exact x3 j hj
        · have e : pl T len (m + 1) p = (Int32.ofNat (pc T len p).2.1, 0) := (if_neg g1).trans ((if_neg g2).trans (if_neg g3))
          have ne := nn60 (x := (pc T len p).2.1) (by omega)
          refine wpE (zb2_e (gs.2 (fun z => g3 z.2))) ?_
          refine wpE (if_pos rfl) ?_
          have h2 : RT (stI τ1 125 14 (Int32.ofNat (pc T len p).2.1)) T len := Rk.s14.rt h1
          have f14 : zI (stI τ1 125 14 (Int32.ofNat (pc T len p).2.1)) 125 14 = Int32.ofNat (pc T len p).2.1 := by rw [zI_st, if_pos ⟨rfl, rfl⟩]
          have f15 : zI (stI τ1 125 14 (Int32.ofNat (pc T len p).2.1)) 125 15 = -1 := by rw [zI_st, if_neg (by omega)]; exact w2
          refine wpE (zgI_e h2.1.1.kM f14) ?_
          refine wpE (zgI_e h2.1.1.kM h2.2.1) ?_
          have lt : (Int32.ofNat (pc T len p).2.1 < Int32.ofNat len) = ((pc T len p).2.1 < len) := io_lt (by omega) (by omega)
          refine wpE (if_pos (lt.symm ▸ (show (pc T len p).2.1 < len by omega))) ?_
          refine wpE (zck_e h2.1.1.kM) ?_
          refine wpE (zb_e (r_fault h2 f14 f15)) ?_
          refine hQ _ ?_
          unfold RF
          rw [e]
          exact ⟨(w1.tr Rk.s14).tr Rk.s15, by rw [zI_st, if_pos ⟨rfl, rfl⟩], fun j hj => by rw [zI_st_ne (by decide), zI_st_ne (by decide)]; exact w4 j hj, fun z => absurd z ne⟩
end
