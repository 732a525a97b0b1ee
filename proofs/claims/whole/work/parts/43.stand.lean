/-! THE REFERENCE'S STANDING -/
theorem io_m1 {b : Nat} (h : b < 2147483648) : (Int32.ofNat b = -1) = False := by
  refine eq_false fun q => ?_
  have h1 : (0 : Int32) ≤ Int32.ofNat b := io_ge0 h
  rw [q] at h1
  exact absurd h1 (by decide)
def lmo (L : Nat → Nat) : Option Nat → Nat
  | none => 0
  | some c => L c
theorem Rf.st {σ : zW} {m w o k : Nat} {v : Int32} (h : Rf σ m w) : Rf (stI σ o k v) m w := h
theorem bst_lt {a : Nat → Int32} {i b : Nat} (hl : Lt a i) (h : bst a i = some b) : b < 10 ∧ 0 < lim a i b := by
  have h1 := fb_inv (L := lim a i) (T := tim a i) (N := 10) (lt_dist hl) 10 (Nat.le_refl _)
  unfold bst at h
  unfold fbI at h1
  rw [h] at h1
  exact ⟨h1.1, h1.2.1⟩
theorem oth_none {a : Nat → Int32} {i : Nat} (hl : Lt a i) (h : bst a i = none) : oth a i = 0 := by
  have h1 := fb_inv (L := lim a i) (T := tim a i) (N := 10) (lt_dist hl) 10 (Nat.le_refl _)
  unfold bst at h
  unfold fbI at h1
  rw [h] at h1
  exact h1.1
theorem oth_le {a : Nat → Int32} {i : Nat} (hl : Lt a i) : oth a i ≤ 99999 := by
  have h1 := fb_inv (L := lim a i) (T := tim a i) (N := 10) (lt_dist hl) 10 (Nat.le_refl _)
  have e : oth a i = (fb (lim a i) (tim a i) 10).2 := rfl
  unfold fbI at h1
  rw [← e] at h1
  split at h1
  · omega
  · obtain ⟨-, -, -, -, h5⟩ := h1
    rcases h5 with h5 | ⟨c, h5, -, h6⟩
    · omega
    · have := lim_le hl h5
      omega
section
variable {σ : zW} {m w n i : Nat}
theorem r_st152 (h : Rf σ m w) (hmw : w ≠ m) (ht : Tb (zI σ w)) (hn : 1000 < n) {x y : Nat} (hx : x ≤ 99999) (hy : y ≤ 99999) (h8 : zI σ m 8 = Int32.ofNat x) : sX8_stand_152 n m m (Int32.ofNat y) σ = some (stI (stI σ m 9 (Int32.ofNat y)) m 10 (Int32.ofNat (min x (nxt (zI σ w) y)))) := by
  have e1 : zI (stI σ m 9 (Int32.ofNat y)) w = zI σ w := zI_st_ne hmw
  have hR : Rf (stI σ m 9 (Int32.ofNat y)) m w := h
  have hk : zK (stI σ m 9 (Int32.ofNat y)) m = 9 := h.kM
  have n8 : zI (stI σ m 9 (Int32.ofNat y)) m 8 = Int32.ofNat x := by rw [zI_st, if_neg (by omega), h8]
  have n9 : zI (stI σ m 9 (Int32.ofNat y)) m 9 = Int32.ofNat y := by rw [zI_st, if_pos ⟨rfl, rfl⟩]
  have hst := r_stepAbove hR (by rw [e1]; exact ht) hn hy
  rw [e1] at hst
  have hnx := nxt_le ht hy
  simp only [sX8_stand_152, zpI, h.kM, zgI, zck, hk, n8, n9, hst, zb_some, if_true]
  rw [mni (by omega) (by omega), Nat.min_comm]
theorem r_st149 (h : Rf σ m w) (hmw : w ≠ m) (ht : Tb (zI σ w)) (hn : 1000 < n) {x y z : Nat} (hx : x ≤ 99999) (hy : y ≤ 99999) (hz : z ≤ 99999) (h8 : zI σ m 8 = Int32.ofNat x) : sX8_stand_149 n m m (Int32.ofNat y) (Int32.ofNat z) σ = some (stI (stI σ m 9 (Int32.ofNat (max y z))) m 10 (Int32.ofNat (min x (nxt (zI σ w) (max y z))))) := by
  unfold sX8_stand_149
  rw [mxi (by omega) (by omega)]
  exact r_st152 h hmw ht hn hx (by omega) h8
theorem r_st77 (h : Rf σ m w) (hmw : w ≠ m) (ht : Tb (zI σ w)) (hl : Lt (zI σ w) i) (hn : 1000 < n) (hi : i < 20) {H f : Nat} (hH : H ≤ 99999) (hf : f ≤ 99999) (b : Int32) (nx : Option Nat) (hnx : ∀ c, nx = some c → c < 10) :
    sX8_stand_77 n m (Int32.ofNat i) (Int32.ofNat H) b (Int32.ofNat f) (bco nx) σ = some (stI (stI (stI (stI σ m 7 (if f < H then 10 else b)) m 8 (Int32.ofNat (if f < H then H else f))) m 9 (Int32.ofNat (if f < H then f else max H (lmo (lim (zI σ w) i) nx)))) m 10 (Int32.ofNat (min (if f < H then H else f) (nxt (zI σ w) (if f < H then f else max H (lmo (lim (zI σ w) i) nx)))))) := by
  have one0 : ((1 : Int32) = 0) = False := eq_false (by decide)
  have e7 : ∀ v u : Int32, zI (stI (stI σ m 7 v) m 8 u) w = zI σ w := fun v u => by rw [zI_st_ne hmw, zI_st_ne hmw]
  have hR : ∀ v u : Int32, Rf (stI (stI σ m 7 v) m 8 u) m w := fun v u => h
  have hk1 : ∀ v : Int32, zK (stI σ m 7 v) m = 9 := fun v => h.kM
  have hk2 : ∀ v u : Int32, zK (stI (stI σ m 7 v) m 8 u) m = 9 := fun v u => h.kM
  have e8 : ∀ v u : Int32, zI (stI (stI σ m 7 v) m 8 u) m 8 = u := fun v u => by rw [zI_st, if_pos ⟨rfl, rfl⟩]
  have hT : ∀ v u : Int32, Tb (zI (stI (stI σ m 7 v) m 8 u) w) := fun v u => by rw [e7]; exact ht
  have hL : ∀ v u : Int32, Lt (zI (stI (stI σ m 7 v) m 8 u) w) i := fun v u => by rw [e7]; exact hl
  unfold sX8_stand_77
  by_cases hq : f < H
  · have hq' : Int32.ofNat f < Int32.ofNat H := by rw [io_lt (by omega) (by omega)]; exact hq
    simp only [if_pos hq, if_pos hq', sX8_stand_88, sX8_stand_102, sX8_stand_117, zpI, h.kM, hk1, one0, if_false, if_true]
    rw [r_st152 (hR _ _) hmw (hT _ _) hn hH hf (e8 _ _), e7]
  · have hq' : ¬ Int32.ofNat f < Int32.ofNat H := by rw [io_lt (by omega) (by omega)]; exact hq
    simp only [if_neg hq, if_neg hq', sX8_stand_88, sX8_stand_102, sX8_stand_117, zpI, h.kM, hk1, if_true]
    cases nx with
    | none =>
      have e0 : (bco none = -1) = True := eq_true rfl
      simp only [e0, if_true]
      rw [show (0 : Int32) = Int32.ofNat 0 from rfl, r_st149 (hR _ _) hmw (hT _ _) hn hf hH (by omega) (e8 _ _), e7]
      rfl
    | some c =>
      have hc := hnx c rfl
      have lc := lim_le hl hc
      have e0 : (bco (some c) = -1) = False := io_m1 (by omega)
      have hlm := r_limitOf (hR b (Int32.ofNat f)) (hT _ _) (hL _ _) hn hi hc
      rw [e7] at hlm
      simp only [e0, io_m1 (show c < 2147483648 by omega), if_false, zck, hk2, if_true, show bco (some c) = Int32.ofNat c from rfl, hlm, zb_some]
      rw [r_st149 (hR _ _) hmw (hT _ _) hn hf hH lc (e8 _ _), e7]
      rfl
theorem r_stand (h : Rf σ m w) (hmw : w ≠ m) (ht : Tb (zI σ w)) (hl : Lt (zI σ w) i) (hn : 1000 < n) (hi : i < 20) : fX8_stand n m (Int32.ofNat i) σ = some (stI (stI (stI (stI σ m 7 (sLd (zI σ w) i)) m 8 (Int32.ofNat (sLm (zI σ w) i))) m 9 (Int32.ofNat (sSc (zI σ w) i))) m 10 (Int32.ofNat (sPr (zI σ w) i))) := by
  have hd := lt_dist hl
  have r0 : fX8_ranked n m (Int32.ofNat i) 0 σ = some (bco (bst (zI σ w) i)) := by
    rw [r_ranked h ht hl hn hi 0]
    rw [show rkO (lim (zI σ w) i) (tim (zI σ w) i) 0 0 10 = rnk (lim (zI σ w) i) (tim (zI σ w) i) 0 from rkO_rnk (r := 0) (by decide), rnk0 hd]
    rfl
  have r1 : fX8_ranked n m (Int32.ofNat i) 1 σ = some (bco (rnk (lim (zI σ w) i) (tim (zI σ w) i) 1)) := by
    rw [r_ranked h ht hl hn hi 1]
    rw [show rkO (lim (zI σ w) i) (tim (zI σ w) i) 1 0 10 = rnk (lim (zI σ w) i) (tim (zI σ w) i) 1 from rkO_rnk (r := 1) (by decide)]
  have hH := hou_le hl
  have h77 := fun f b nx hf hnx => r_st77 (f := f) h hmw ht hl hn hi (H := hou (zI σ w) i) (by omega) hf b nx hnx
  unfold fX8_stand
  simp only [zck, h.kM, if_true, r_houseLimit h ht hl hn hi, zb_some, r0]
  cases hb : bst (zI σ w) i with
  | none =>
    have ho := oth_none hl hb
    have e0 : (bco none = -1) = True := eq_true rfl
    have ebs : bsl (zI σ w) i = 0 := by unfold bsl; rw [hb]
    simp only [e0, if_true, sX8_stand_28, sX8_stand_45]
    by_cases hh : hou (zI σ w) i = 0
    · have hz : (Int32.ofNat (hou (zI σ w) i) = 0) = True := by rw [hh]; exact eq_true rfl
      have k1 : ∀ v : Int32, zK (stI σ m 7 v) m = 9 := fun v => h.kM
      have k2 : ∀ v u : Int32, zK (stI (stI σ m 7 v) m 8 u) m = 9 := fun v u => h.kM
      have k3 : ∀ v u x : Int32, zK (stI (stI (stI σ m 7 v) m 8 u) m 9 x) m = 9 := fun v u x => h.kM
      simp only [hz, if_true, zpI, h.kM, k1, k2, k3]
      unfold sPr sLd sLm sSc
      simp only [ebs, hh, ho, hb, Nat.lt_irrefl, if_false, and_self, if_true]
      rfl
    · have hz : (Int32.ofNat (hou (zI σ w) i) = 0) = False := by rw [io_z (by omega)]; exact eq_false hh
      have hlt : 0 < hou (zI σ w) i := by omega
      simp only [hz, if_false]
      rw [show sX8_stand_77 n m (Int32.ofNat i) (Int32.ofNat (hou (zI σ w) i)) (bco none) 0 (-1) σ = _ from h77 0 (bco none) none (by omega) (fun c hc => by cases hc)]
      unfold sPr sLd sLm sSc
      simp only [ebs, hlt, if_true, hh, and_false, if_false]
  | some B =>
    obtain ⟨b1, b2⟩ := bst_lt hl hb
    have lb := lim_le hl b1
    have e0 : (bco (some B) = -1) = False := io_m1 (by omega)
    have ebs : bsl (zI σ w) i = lim (zI σ w) i B := by unfold bsl; rw [hb]
    have hr1 := rnk1 hd (show (fb (lim (zI σ w) i) (tim (zI σ w) i) 10).1 = some B from hb)
    have hlm := r_limitOf h ht hl hn hi b1
    simp only [e0, if_false, show bco (some B) = Int32.ofNat B from rfl, hlm, zb_some, sX8_stand_28, io_m1 (show B < 2147483648 by omega), zck, h.kM, if_true, r1, sX8_stand_45]
    rw [h77 (lim (zI σ w) i B) (Int32.ofNat B) (rnk (lim (zI σ w) i) (tim (zI σ w) i) 1) lb (fun c hc => by
      have := fst1_some _ _ _ hc
      omega)]
    have hmm : lmo (lim (zI σ w) i) (rnk (lim (zI σ w) i) (tim (zI σ w) i) 1) = oth (zI σ w) i := hr1
    unfold sPr sLd sLm sSc
    rw [hmm, ebs, hb]
    simp only [show (some B = none) = False from eq_false (by simp), false_and, if_false]
    rfl
end
