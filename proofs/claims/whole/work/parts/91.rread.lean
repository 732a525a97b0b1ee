/-! the reference reads -/
def RT (τ : zW) (T : Nat → Int32) (len : Nat) : Prop := LM τ ∧ zI τ 125 13 = Int32.ofNat len ∧ (∀ j, j < len → zI τ 129 j = T j) ∧ len ≤ 60 ∧ ∀ j, j < len → 0 ≤ T j ∧ T j ≤ 65535
def Rk (τ τ' : zW) : Prop := Fr (fun o => o = 125 ∨ o = 130) τ τ' ∧ ∀ k, k ≠ 14 → k ≠ 15 → k ≠ 17 → zI τ' 125 k = zI τ 125 k
theorem Rk.refl {τ : zW} : Rk τ τ := ⟨Fr.refl, fun _ _ _ _ => rfl⟩
theorem Rk.tr {τ τ1 τ2 : zW} (h : Rk τ τ1) (h2 : Rk τ1 τ2) : Rk τ τ2 := ⟨h.1.trans h2.1, fun k a b d => (h2.2 k a b d).trans (h.2 k a b d)⟩
theorem Rk.rt {τ τ' : zW} {T : Nat → Int32} {len : Nat} (h : Rk τ τ') (hr : RT τ T len) : RT τ' T len :=
  ⟨hr.1.fr h.1, (h.2 13 (by decide) (by decide) (by decide)).trans hr.2.1, fun j hj => by rw [h.1.2 129 (by decide)]; exact hr.2.2.1 j hj, hr.2.2.2⟩
theorem Rk.s14 {τ : zW} {v : Int32} : Rk τ (stI τ 125 14 v) := ⟨Fr.st (Or.inl rfl), fun k a b d => by rw [zI_st, if_neg (fun q => a q.2)]⟩
theorem Rk.s15 {τ : zW} {v : Int32} : Rk τ (stI τ 125 15 v) := ⟨Fr.st (Or.inl rfl), fun k a b d => by rw [zI_st, if_neg (fun q => b q.2)]⟩
theorem Rk.s17 {τ : zW} {v : Int32} : Rk τ (stI τ 125 17 v) := ⟨Fr.st (Or.inl rfl), fun k a b d => by rw [zI_st, if_neg (fun q => d q.2)]⟩
theorem Rk.sZ {τ : zW} {j : Nat} {v : Int32} : Rk τ (stI τ 130 j v) := ⟨Fr.st (Or.inr rfl), fun k a b d => by rw [zI_st_ne (by decide)]⟩
section
variable {τ : zW} {T : Nat → Int32} {len c n : Nat}
theorem r_sign (h : RT τ T len) {p : Nat} (hp : zI τ 125 14 = Int32.ofNat p) (hpl : p ≤ len) : fX8_sign n 125 τ = some (sg T len p) := by
  obtain ⟨L, h13, hT, h60, hb⟩ := h
  have hpp : (Int32.ofNat p < Int32.ofNat len) = (p < len) := io_lt (by omega) (by omega)
  unfold fX8_sign sg
  refine (zgI_e L.1.kM hp).trans ((zgI_e L.1.kM h13).trans ?_)
  by_cases g : p < len
  · rw [if_pos g]
    exact (if_pos (hpp.symm ▸ g)).trans ((zgR_e L.1.kM L.2.2.2.1.1).trans ((zgI_e L.1.kM hp).trans ((zaC_e L.2.2.2.1.2.1 L.2.2.2.1.2.2 (show p < 60 by omega) (by decide) (hT p g)).trans rfl)))
  · rw [if_neg g]
    exact (if_neg (fun z => g (hpp ▸ z))).trans rfl
theorem sg_ch {p : Nat} {ch : Int32} (h : RT τ T len) (hc : ch ≠ -1) : (sg T len p = ch) ↔ (p < len ∧ T p = ch) := by
  unfold sg
  by_cases g : p < len
  · rw [if_pos g]
    exact ⟨fun q => ⟨g, q⟩, fun q => q.2⟩
  · rw [if_neg g]
    exact ⟨fun q => absurd q.symm hc, fun q => absurd q.1 g⟩
theorem goes21 (h : RT τ T len) {p : Nat} (hp : zI τ 125 14 = Int32.ofNat p) : sX8_goes_21 n 125 1 τ = some (1, stI τ 125 14 (Int32.ofNat (p + 1))) ∧ sX8_goes_20 n 125 τ = some (0, stI τ 125 14 (Int32.ofNat p)) := by
  unfold sX8_goes_20 sX8_goes_21 sX8_goes_36
  exact ⟨(zgI_e h.1.1.kM hp).trans ((if_neg one_ne).trans ((zpI_e h.1.1.kM io_succ).trans (if_pos (Or.inr rfl)))), (zgI_e h.1.1.kM hp).trans ((if_pos rfl).trans ((zpI_e h.1.1.kM (Int32.add_zero _)).trans (if_pos (Or.inl rfl))))⟩
theorem r_goes (h : RT τ T len) {p : Nat} (hp : zI τ 125 14 = Int32.ofNat p) (hpl : p ≤ len) {ch : Int32} (hc : ch ≠ -1) (h15 : zI τ 125 15 = -1) : ((p < len ∧ T p = ch) → fX8_goes n 125 ch τ = some (1, stI τ 125 14 (Int32.ofNat (p + 1)))) ∧ (¬ (p < len ∧ T p = ch) → fX8_goes n 125 ch τ = some (0, stI τ 125 14 (Int32.ofNat p))) := by
  have g := goes21 (n := n) h hp
  have s := sg_ch (p := p) h hc
  unfold fX8_goes
  exact ⟨fun q => (zgI_e h.1.1.kM h15).trans ((if_pos rfl).trans ((zck_e h.1.1.kM).trans ((zb_e (r_sign h hp hpl)).trans ((if_pos (s.mpr q)).trans g.1)))), fun q => (zgI_e h.1.1.kM h15).trans ((if_pos rfl).trans ((zck_e h.1.1.kM).trans ((zb_e (r_sign h hp hpl)).trans ((if_neg (fun z => q (s.mp z))).trans g.2))))⟩
theorem r_goesF (h : RT τ T len) {p : Nat} (hp : zI τ 125 14 = Int32.ofNat p) {ch f : Int32} (h15 : zI τ 125 15 = f) (hf : f ≠ -1) : fX8_goes n 125 ch τ = some (0, stI τ 125 14 (Int32.ofNat p)) := by
  unfold fX8_goes
  exact (zgI_e h.1.1.kM h15).trans ((if_neg hf).trans (goes21 (n := n) h hp).2)
theorem r_fault (h : RT τ T len) {p : Nat} (hp : zI τ 125 14 = Int32.ofNat p) (h15 : zI τ 125 15 = -1) : fX8_faultHere n 125 τ = some (stI τ 125 15 (Int32.ofNat p)) := by
  unfold fX8_faultHere sX8_faultHere_20
  exact (zgI_e h.1.1.kM h15).trans ((if_pos rfl).trans ((zgI_e h.1.1.kM hp).trans (zpI_e h.1.1.kM rfl)))
theorem r_faultF (h : RT τ T len) {f : Int32} (h15 : zI τ 125 15 = f) (hf : f ≠ -1) : fX8_faultHere n 125 τ = some (stI τ 125 15 f) := by
  unfold fX8_faultHere sX8_faultHere_20
  exact (zgI_e h.1.1.kM h15).trans ((if_neg hf).trans ((zgI_e h.1.1.kM h15).trans (zpI_e h.1.1.kM rfl)))
theorem dig {p : Nat} : (48 ≤ sg T len p ∧ sg T len p ≤ 57) ↔ (p < len ∧ 48 ≤ T p ∧ T p ≤ 57) := by
  unfold sg
  by_cases g : p < len
  · rw [if_pos g]
    exact ⟨fun q => ⟨g, q⟩, fun q => q.2⟩
  · rw [if_neg g]
    exact ⟨fun q => absurd q.1 (by decide), fun q => absurd q.1 g⟩
/-- what a number leaves -/
def RN (τ τ' : zW) (p : Nat) (f : Int32) : Prop := Rk τ τ' ∧ zI τ' 125 14 = Int32.ofNat p ∧ zI τ' 125 15 = f ∧ zI τ' 125 17 = zI τ 125 17 ∧ zI τ' 130 = zI τ 130
theorem r_num60 (h : RT τ T len) {p d : Nat} {v : Int32} (hp : zI τ 125 14 = Int32.ofNat p) (h15 : zI τ 125 15 = -1) (hd : d ≤ 5) : wp (sX8_number_60 n 125 v (Int32.ofNat d) τ) (fun r => r.1 = v ∧ RN τ r.2 p (if 0 < d then -1 else Int32.ofNat p)) := by
  unfold sX8_number_60 sX8_number_68
  by_cases g : 0 < d
  · rw [if_pos g]
    exact wpE (if_neg (fun z => by rw [io_z (by omega)] at z; omega)) (wp_some ⟨rfl, Rk.refl, hp, h15, rfl, rfl⟩)
  · rw [if_neg g]
    refine wpE (if_pos (by rw [show d = 0 by omega]; rfl)) ?_
    refine wpE (zck_e h.1.1.kM) ?_
    refine wpE (zb_e (r_fault h hp h15)) ?_
    exact wp_some ⟨rfl, Rk.s15, by rw [zI_st, if_neg (by omega)]; exact hp, by rw [zI_st, if_pos ⟨rfl, rfl⟩], by rw [zI_st, if_neg (by omega)], zI_st_ne (by decide)⟩
theorem r_num : ∀ (m k p d : Nat) (v : Int32) (τ : zW), RT τ T len → zI τ 125 14 = Int32.ofNat p → zI τ 125 15 = -1 → p ≤ len → d + m = 5 → m < k →
    wp (sX8_number_4 n k 125 v (Int32.ofNat d) τ) (fun r => r.1 = (pn T len m p v).1 ∧ RN τ r.2 (pn T len m p v).2 (if 0 < d ∨ (pn T len m p v).2 ≠ p then -1 else Int32.ofNat p))
  | m, 0, _, _, _, _, _, _, _, _, _, hk => absurd hk (by omega)
  | 0, k + 1, p, d, v, τ, h, hp, h15, hpl, hd, hk => by
    have hlt : (Int32.ofNat d < 5) = (d < 5) := io_lt (b := 5) (by omega) (by decide)
    rw [sX8_number_4]
    refine wpE (zgI_e h.1.1.kM h15) ?_
    refine wpE (if_pos rfl) ?_
    refine wpE (if_neg (fun z => by have := hlt ▸ z; omega)) ?_
    refine wp_mono (r_num60 h hp h15 (show d ≤ 5 by omega)) (fun r q => ⟨q.1, ?_⟩)
    have q2 := q.2
    rw [if_pos (show 0 < d by omega)] at q2
    rw [if_pos (Or.inl (show 0 < d by omega))]
    exact q2
  | m + 1, k + 1, p, d, v, τ, h, hp, h15, hpl, hd, hk => by
    have h60 := h.2.2.2.1
    have hlt : (Int32.ofNat d < 5) = (d < 5) := io_lt (b := 5) (by omega) (by decide)
    rw [sX8_number_4]
    refine wpE (zgI_e h.1.1.kM h15) ?_
    refine wpE (if_pos rfl) ?_
    refine wpE (if_pos (hlt.symm ▸ (show d < 5 by omega))) ?_
    refine wpE (zck_e h.1.1.kM) ?_
    refine wpE (zb_e (r_sign h hp hpl)) ?_
    by_cases g : p < len ∧ 48 ≤ T p ∧ T p ≤ 57
    · have e : pn T len (m + 1) p v = pn T len m (p + 1) (v * 10 + (T p - 48)) := if_pos g
      have es : sg T len p = T p := if_pos g.1
      have ev : ((10 * v) + sg T len p) - 48 = v * 10 + (T p - 48) := by rw [es]; grind
      refine wpE (zb_e (jn_in (dig.mpr g))) ?_
      refine wpE (if_neg one_ne) ?_
      refine wpE (zck_e h.1.1.kM) ?_
      refine wpE (zb_e (r_sign h hp hpl)) ?_
      refine wpE (zgI_e h.1.1.kM hp) ?_
      refine wpE (zpI_e h.1.1.kM io_succ) ?_
      rw [io_succ, ev, e]
      have b := pn_b (T := T) m (p + 1) (v * 10 + (T p - 48)) (show p + 1 ≤ len by omega)
      refine wp_mono (r_num m k (p + 1) (d + 1) _ _ (Rk.s14.rt h) (by rw [zI_st, if_pos ⟨rfl, rfl⟩]) (by rw [zI_st, if_neg (by omega)]; exact h15) (by omega) (by omega) (by omega)) (fun r q => ⟨q.1, ?_⟩)
      obtain ⟨q1, q2, q3, q4, q5⟩ := q.2
      rw [if_pos (Or.inl (by omega))] at q3
      rw [if_pos (Or.inr (by omega))]
      exact ⟨Rk.s14.tr q1, q2, q3, by rw [q4, zI_st, if_neg (by omega)], by rw [q5, zI_st_ne (by decide)]⟩
    · have e : pn T len (m + 1) p v = (v, p) := if_neg g
      rw [e]
      refine wpE (zb_e (jn_in_x (fun z => g (dig.mp z)))) ?_
      refine wpE (if_pos rfl) ?_
      refine wp_mono (r_num60 h hp h15 (show d ≤ 5 by omega)) (fun r q => ⟨q.1, ?_⟩)
      have q2 := q.2
      by_cases g0 : 0 < d
      · rw [if_pos g0] at q2
        rw [if_pos (Or.inl g0)]
        exact q2
      · rw [if_neg g0] at q2
        rw [if_neg (fun z => by rcases z with z | z; exact g0 z; exact z rfl)]
        exact q2
theorem r_numF (h : RT τ T len) {p : Nat} {f : Int32} (hp : zI τ 125 14 = Int32.ofNat p) (h15 : zI τ 125 15 = f) (hf : f ≠ -1) (hn : 0 < n) : wp (fX8_number n 125 τ) (fun r => RN τ r.2 p f) := by
  obtain ⟨k, rfl⟩ : ∃ k, n = k + 1 := ⟨n - 1, by omega⟩
  unfold fX8_number
  rw [sX8_number_4]
  refine wpE (zgI_e h.1.1.kM h15) ?_
  refine wpE (if_neg hf) ?_
  unfold sX8_number_60 sX8_number_68
  refine wpE (if_pos rfl) ?_
  refine wpE (zck_e h.1.1.kM) ?_
  refine wpE (zb_e (r_faultF h h15 hf)) ?_
  exact wp_some ⟨Rk.s15, by rw [zI_st, if_neg (by omega)]; exact hp, by rw [zI_st, if_pos ⟨rfl, rfl⟩], by rw [zI_st, if_neg (by omega)], zI_st_ne (by decide)⟩
/-- what the numbers of a command leave -/
def RA (τ τ' : zW) (f : Int32) (base : Nat) : Prop := Rk τ τ' ∧ zI τ' 125 15 = f ∧ ∀ j, j < base → zI τ' 130 j = zI τ 130 j
theorem RA.tr {τ τ1 τ2 : zW} {f g : Int32} {base : Nat} (h : RA τ τ1 f base) (h2 : RA τ1 τ2 g base) : RA τ τ2 g base := ⟨h.1.tr h2.1, h2.2.1, fun j hj => (h2.2.2 j hj).trans (h.2.2 j hj)⟩
theorem ix1b {base i : Nat} : (Int32.ofNat base + 1) + Int32.ofNat i = Int32.ofNat (base + 1 + i) := by rw [io_succ, ixl]
/-- after a fault -/
theorem r_argsF (hn : 1000 < n) {K base p : Nat} {f : Int32} (hK : K ≤ 3) (hbase : base + 4 ≤ 120) (hf : f ≠ -1) : ∀ (m k i : Nat) (τ : zW), RT τ T len → zI τ 125 14 = Int32.ofNat p → zI τ 125 15 = f → i + m = K → m < k →
    wp (sX8_command_58 n k 125 (Int32.ofNat K) (Int32.ofNat base) (Int32.ofNat i) τ) (fun τ' => RA τ τ' f (base + 1) ∧ zI τ' 125 14 = Int32.ofNat p)
  | m, 0, _, _, _, _, _, _, hk => absurd hk (by omega)
  | 0, k + 1, i, τ, h, hp, h15, hi, hk => by
    have hlt : (Int32.ofNat i < Int32.ofNat K) = (i < K) := io_lt (by omega) (by omega)
    rw [sX8_command_58]
    refine wpE (if_neg (fun z => by have := hlt ▸ z; omega)) ?_
    refine wpE (zgI_e h.1.1.kM rfl) ?_
    refine wpE (zpI_e h.1.1.kM rfl) ?_
    exact wp_some ⟨⟨Rk.s17, by rw [zI_st, if_neg (by omega)]; exact h15, fun j hj => by rw [zI_st_ne (by decide)]⟩, by rw [zI_st, if_neg (by omega)]; exact hp⟩
  | m + 1, k + 1, i, τ, h, hp, h15, hi, hk => by
    have hlt : (Int32.ofNat i < Int32.ofNat K) = (i < K) := io_lt (by omega) (by omega)
    have hi0 : ((0 : Int32) < Int32.ofNat i) = (0 < i) := io_pos (by omega)
    have rest : ∀ τ1, RA τ τ1 f (base + 1) → zI τ1 125 14 = Int32.ofNat p → wp (sX8_command_82 n (sX8_command_58 n k) 125 (Int32.ofNat K) (Int32.ofNat base) (Int32.ofNat i) τ1) (fun τ' => RA τ τ' f (base + 1) ∧ zI τ' 125 14 = Int32.ofNat p) := fun τ1 a1 p1 => by
      have h1 := a1.1.rt h
      unfold sX8_command_82
      refine wpE (zgR_e h1.1.1.kM h1.1.2.2.2.2.1) ?_
      refine wpE (zck_e h1.1.1.kM) ?_
      obtain ⟨r, er, w1, w2, w3, w4, w5⟩ := r_numF (n := n) h1 p1 a1.2.1 hf (by omega)
      refine wpE (zb2_e (v := r.1) (s := r.2) er) ?_
      have h2 := w1.rt h1
      rw [ix1b, io_succ]
      refine wpE (zsN_e h2.1.2.2.2.2.2.1 h2.1.2.2.2.2.2.2 (show base + 1 + i < 120 by omega) (by decide) rfl) ?_
      have a3 : RA τ (stI r.2 130 (base + 1 + i) r.1) f (base + 1) := ⟨(a1.1.tr w1).tr Rk.sZ, by rw [zI_st_ne (by decide)]; exact w3, fun j hj => by rw [zI_st, if_neg (by omega), w5]; exact a1.2.2 j hj⟩
      refine wp_mono (r_argsF hn hK hbase hf m k (i + 1) _ (a3.1.rt h) (by rw [zI_st_ne (by decide)]; exact w2) a3.2.1 (by omega) (by omega)) (fun τ' q => ⟨a3.tr q.1, q.2⟩)
    rw [sX8_command_58]
    refine wpE (if_pos (hlt.symm ▸ (show i < K by omega))) ?_
    by_cases g0 : 0 < i
    · refine wpE (if_pos (hi0.symm ▸ g0)) ?_
      refine wpE (zck_e h.1.1.kM) ?_
      refine wpE (zb2_e (r_goesF h hp h15 hf)) ?_
      refine wpE (if_pos rfl) ?_
      have h1 : RT (stI τ 125 14 (Int32.ofNat p)) T len := Rk.s14.rt h
      have e15 : zI (stI τ 125 14 (Int32.ofNat p)) 125 15 = f := by rw [zI_st, if_neg (by omega)]; exact h15
      refine wpE (zck_e h1.1.1.kM) ?_
      refine wpE (zb_e (r_faultF h1 e15 hf)) ?_
      exact rest _ ⟨Rk.s14.tr Rk.s15, by rw [zI_st, if_pos ⟨rfl, rfl⟩], fun j hj => by rw [zI_st_ne (by decide), zI_st_ne (by decide)]⟩ (by rw [zI_st, if_neg (by omega), zI_st, if_pos ⟨rfl, rfl⟩])
    · refine wpE (if_neg (fun z => g0 (hi0 ▸ z))) ?_
      exact rest τ ⟨Rk.refl, h15, fun _ _ => rfl⟩ hp
theorem r_args (hn : 1000 < n) {K base : Nat} (hK : K ≤ 3) (hbase : base + 4 ≤ 120) : ∀ (m k i p : Nat) (N : Nat → Int32) (τ : zW), RT τ T len → zI τ 125 14 = Int32.ofNat p → zI τ 125 15 = -1 → p ≤ len → i + m = K → m < k → (∀ j, j < i → zI τ 130 (base + 1 + j) = N j) →
    wp (sX8_command_58 n k 125 (Int32.ofNat K) (Int32.ofNat base) (Int32.ofNat i) τ) (fun τ' => RA τ τ' (if (pa T len m i p N).1 = true then -1 else Int32.ofNat (pa T len m i p N).2.1) (base + 1) ∧ zI τ' 125 14 = Int32.ofNat (pa T len m i p N).2.1 ∧ ((pa T len m i p N).1 = true → zI τ' 125 17 = zI τ 125 17 + 1 ∧ ∀ j, j < K → zI τ' 130 (base + 1 + j) = (pa T len m i p N).2.2 j))
  | m, 0, _, _, _, _, _, _, _, _, _, hk, _ => absurd hk (by omega)
  | 0, k + 1, i, p, N, τ, h, hp, h15, hpl, hi, hk, hN => by
    have hlt : (Int32.ofNat i < Int32.ofNat K) = (i < K) := io_lt (by omega) (by omega)
    rw [sX8_command_58]
    refine wpE (if_neg (fun z => by have := hlt ▸ z; omega)) ?_
    refine wpE (zgI_e h.1.1.kM rfl) ?_
    refine wpE (zpI_e h.1.1.kM rfl) ?_
    exact wp_some ⟨⟨Rk.s17, by rw [zI_st, if_neg (by omega)]; exact h15, fun j hj => by rw [zI_st_ne (by decide)]⟩, by rw [zI_st, if_neg (by omega)]; exact hp, fun _ => ⟨by rw [zI_st, if_pos ⟨rfl, rfl⟩], fun j hj => by rw [zI_st_ne (by decide)]; exact hN j (by omega)⟩⟩
  | m + 1, k + 1, i, p, N, τ, h, hp, h15, hpl, hi, hk, hN => by
    have h60 := h.2.2.2.1
    have hlt : (Int32.ofNat i < Int32.ofNat K) = (i < K) := io_lt (by omega) (by omega)
    have hi0 : ((0 : Int32) < Int32.ofNat i) = (0 < i) := io_pos (by omega)
    have nn : ∀ x : Nat, x ≤ 60 → Int32.ofNat x ≠ -1 := fun x hx z => by
      have h1 : (0 : Int32) ≤ Int32.ofNat x := io_ge0 (by omega)
      rw [z] at h1
      exact absurd h1 (by decide)
    have num : ∀ τ1, Rk τ τ1 → zI τ1 130 = zI τ 130 → zI τ1 125 17 = zI τ 125 17 → zI τ1 125 14 = Int32.ofNat (nx1 i p) → zI τ1 125 15 = -1 → nx1 i p ≤ len → ¬ (0 < i ∧ ¬ (p < len ∧ T p = 44)) →
        wp (sX8_command_82 n (sX8_command_58 n k) 125 (Int32.ofNat K) (Int32.ofNat base) (Int32.ofNat i) τ1) (fun τ' => RA τ τ' (if (pa T len (m + 1) i p N).1 = true then -1 else Int32.ofNat (pa T len (m + 1) i p N).2.1) (base + 1) ∧ zI τ' 125 14 = Int32.ofNat (pa T len (m + 1) i p N).2.1 ∧ ((pa T len (m + 1) i p N).1 = true → zI τ' 125 17 = zI τ 125 17 + 1 ∧ ∀ j, j < K → zI τ' 130 (base + 1 + j) = (pa T len (m + 1) i p N).2.2 j)) := by
      intro τ1 k1 z1 y1 p1 f1 pl1 g
      have h1 := k1.rt h
      unfold sX8_command_82
      refine wpE (zgR_e h1.1.1.kM h1.1.2.2.2.2.1) ?_
      refine wpE (zck_e h1.1.1.kM) ?_
      obtain ⟨r, er, u, w1, w2, w3, w4, w5⟩ := r_num (n := n) 5 n (nx1 i p) 0 0 τ1 h1 p1 f1 pl1 (by omega) (by omega)
      have er' : fX8_number n 125 τ1 = some (r.1, r.2) := er
      refine wpE (zb2_e er') ?_
      have h2 := w1.rt h1
      rw [ix1b, io_succ]
      refine wpE (zsN_e h2.1.2.2.2.2.2.1 h2.1.2.2.2.2.2.2 (show base + 1 + i < 120 by omega) (by decide) rfl) ?_
      have k3 : Rk τ (stI r.2 130 (base + 1 + i) r.1) := (k1.tr w1).tr Rk.sZ
      have e14 : zI (stI r.2 130 (base + 1 + i) r.1) 125 = zI r.2 125 := zI_st_ne (by decide)
      have old : ∀ j, j < base + 1 → zI (stI r.2 130 (base + 1 + i) r.1) 130 j = zI τ 130 j := fun j hj => by rw [zI_st, if_neg (by omega), w5, z1]
      have b := pn_b (T := T) (len := len) 5 (nx1 i p) 0 pl1
      by_cases g2 : (pn T len 5 (nx1 i p) 0).2 = nx1 i p
      · have e : pa T len (m + 1) i p N = (false, nx1 i p, N) := (if_neg g).trans (if_pos g2)
        rw [if_neg (fun z => by rcases z with z | z; exact absurd z (Nat.lt_irrefl 0); exact z g2)] at w3
        rw [g2] at w2
        rw [e]
        have ne := nn (nx1 i p) (by omega)
        refine wp_mono (r_argsF hn hK hbase ne m k (i + 1) _ (k3.rt h) ((congrFun e14 14).trans w2) ((congrFun e14 15).trans w3) (by omega) (by omega)) (fun τ' q => ⟨⟨k3.tr q.1.1, q.1.2.1, fun j hj => (q.1.2.2 j hj).trans (old j hj)⟩, q.2, fun z => by cases z⟩)
      · have e : pa T len (m + 1) i p N = pa T len m (i + 1) (pn T len 5 (nx1 i p) 0).2 (up N i (pn T len 5 (nx1 i p) 0).1) := (if_neg g).trans (if_neg g2)
        rw [if_pos (Or.inr g2)] at w3
        rw [e]
        refine wp_mono (r_args hn hK hbase m k (i + 1) _ (up N i (pn T len 5 (nx1 i p) 0).1) _ (k3.rt h) ((congrFun e14 14).trans w2) ((congrFun e14 15).trans w3) b.2 (by omega) (by omega) (fun j hj => ?_)) (fun τ' q => ⟨⟨k3.tr q.1.1, q.1.2.1, fun j hj => (q.1.2.2 j hj).trans (old j hj)⟩, q.2.1, fun z => ⟨?_, (q.2.2 z).2⟩⟩)
        · rw [zI_st]
          unfold up
          by_cases gj : j = i
          · rw [if_pos ⟨rfl, by omega⟩, if_pos gj, u]
          · rw [if_neg (fun q => gj (by omega)), if_neg gj, w5, z1]
            exact hN j (by omega)
        · rw [(q.2.2 z).1, congrFun e14 17, w4, y1]
    rw [sX8_command_58]
    refine wpE (if_pos (hlt.symm ▸ (show i < K by omega))) ?_
    by_cases g0 : 0 < i
    · refine wpE (if_pos (hi0.symm ▸ g0)) ?_
      refine wpE (zck_e h.1.1.kM) ?_
      have gs := r_goes (n := n) h hp hpl (ch := 44) (by decide) h15
      have en : nx1 i p = p + 1 := if_pos g0
      by_cases g : p < len ∧ T p = 44
      · refine wpE (zb2_e (gs.1 g)) ?_
        refine wpE (if_neg one_ne) ?_
        exact num _ Rk.s14 (zI_st_ne (by decide)) (by rw [zI_st, if_neg (by omega)]) (by rw [en, zI_st, if_pos ⟨rfl, rfl⟩]) (by rw [zI_st, if_neg (by omega)]; exact h15) (by rw [en]; omega) (fun z => z.2 g)
      · have e : pa T len (m + 1) i p N = (false, p, N) := if_pos ⟨g0, g⟩
        rw [e]
        refine wpE (zb2_e (gs.2 g)) ?_
        refine wpE (if_pos rfl) ?_
        have h1 : RT (stI τ 125 14 (Int32.ofNat p)) T len := Rk.s14.rt h
        have e15 : zI (stI τ 125 14 (Int32.ofNat p)) 125 15 = -1 := by rw [zI_st, if_neg (by omega)]; exact h15
        have e14 : zI (stI τ 125 14 (Int32.ofNat p)) 125 14 = Int32.ofNat p := by rw [zI_st, if_pos ⟨rfl, rfl⟩]
        refine wpE (zck_e h1.1.1.kM) ?_
        refine wpE (zb_e (r_fault h1 e14 e15)) ?_
        have h2 : RT (stI (stI τ 125 14 (Int32.ofNat p)) 125 15 (Int32.ofNat p)) T len := Rk.s15.rt h1
        have ne := nn p (by omega)
        unfold sX8_command_82
        refine wpE (zgR_e h2.1.1.kM h2.1.2.2.2.2.1) ?_
        refine wpE (zck_e h2.1.1.kM) ?_
        obtain ⟨r, er, w1, w2, w3, w4, w5⟩ := r_numF (n := n) h2 (p := p) (f := Int32.ofNat p) (by rw [zI_st, if_neg (by omega)]; exact e14) (by rw [zI_st, if_pos ⟨rfl, rfl⟩]) ne (by omega)
        refine wpE (zb2_e (v := r.1) (s := r.2) er) ?_
        have h3 := w1.rt h2
        rw [ix1b, io_succ]
        refine wpE (zsN_e h3.1.2.2.2.2.2.1 h3.1.2.2.2.2.2.2 (show base + 1 + i < 120 by omega) (by decide) rfl) ?_
        have k3 : Rk τ (stI r.2 130 (base + 1 + i) r.1) := ((Rk.s14.tr Rk.s15).tr w1).tr Rk.sZ
        have e125 : zI (stI r.2 130 (base + 1 + i) r.1) 125 = zI r.2 125 := zI_st_ne (by decide)
        refine wp_mono (r_argsF hn hK hbase ne m k (i + 1) _ (k3.rt h) ((congrFun e125 14).trans w2) ((congrFun e125 15).trans w3) (by omega) (by omega)) (fun τ' q => ⟨⟨k3.tr q.1.1, q.1.2.1, fun j hj => (q.1.2.2 j hj).trans ?_⟩, q.2, fun z => by cases z⟩)
        rw [zI_st, if_neg (by omega), w5, zI_st_ne (by decide), zI_st_ne (by decide)]
    · refine wpE (if_neg (fun z => g0 (hi0 ▸ z))) ?_
      have en : nx1 i p = p := if_neg g0
      exact num τ Rk.refl rfl rfl (by rw [en]; exact hp) h15 (by rw [en]; exact hpl) (fun z => g0 z.1)
end
