theorem zlv_get {E : zE} : ∀ (lv : zLV) (i : Nat) (q : Nat × Value), q ∈ zlv E i lv → ¬ zget lv (q.1 - i) = none
  | [], _, _, h => by cases h
  | none :: t, i, q, h => by
    have h1 := zlv_le (E := E) t (i + 1) q h
    have h2 := zlv_get t (i + 1) q h
    rw [show q.1 - i = (q.1 - (i + 1)) + 1 by omega]
    exact h2
  | some a :: t, i, q, h => by
    rcases List.mem_cons.mp h with h | h
    · rw [h, show (i, zv E a).1 - i = 0 by simp]
      exact fun h => by cases h
    · have h1 := zlv_le (E := E) t (i + 1) q h
      have h2 := zlv_get t (i + 1) q h
      rw [show q.1 - i = (q.1 - (i + 1)) + 1 by omega]
      exact h2
section ZQ
variable {E : zE} {K : zC} {own : String} {cc : ByteArray} {nL h : Nat} {α : Type} {fin : α → zO} {X : Option α} {σ : zW} {pc pc' : Nat} {lv lv' : zLV} {st st' : List zV}
/-- one of the instructions that touch neither heap nor branch -/
theorem z_p1 (hk : zk E K own cc nL h) {ins : Instr} {len : Nat} (hd : decode cc pc = .ok (ins, len)) (hp : zp1 ins pc lv st = some (pc', lv', st')) (hlen : pc' = pc + len)
    (k : zG E K fin X σ pc' lv' st') : zG E K fin X σ pc lv st := by
  obtain ⟨hx, hb, hml, hown, hlocks, hW, hF, -⟩ := hk
  subst hlen
  unfold zp1 at hp
  split at hp
  -- iconst
  · have e := Option.some.inj hp
    have e1 : _ + 1 = _ := congrArg (·.1) e
    have hlen : len = 1 := by omega
    subst hlen
    cases e
    exact z_lift0 (fun H locs ls kk => lv_iconst hx hb hd (zcst_ofInt _).symm kk) k
  -- bipush
  · split at hp
    · next hz => 
      have e := Option.some.inj hp
      have e1 : _ + 2 = _ := congrArg (·.1) e
      have hlen : len = 2 := by omega
      subst hlen
      cases e
      exact z_lift0 (fun H locs ls kk => lv_bipush hx hb hd (zcst8 hz) kk) k
    · cases hp
  -- sipush
  · split at hp
    · next hz => 
      have e := Option.some.inj hp
      have e1 : _ + 3 = _ := congrArg (·.1) e
      have hlen : len = 3 := by omega
      subst hlen
      cases e
      exact z_lift0 (fun H locs ls kk => lv_sipush hx hb hd (zcst16 hz) kk) k
    · cases hp
  -- iload_n
  · split at hp
    · next hz => 
      have e := Option.some.inj hp
      have e1 : _ + 1 = _ := congrArg (·.1) e
      have hlen : len = 1 := by omega
      subst hlen
      cases e
      exact z_lift rfl (fun H locs ls hh kk => lv_iload_n hx hb hd rfl (z_ld hh hz) (kk ls hh)) k
    · cases hp
  -- iload
  · split at hp
    · next hz => 
      have e := Option.some.inj hp
      have e1 : _ + 2 = _ := congrArg (·.1) e
      have hlen : len = 2 := by omega
      subst hlen
      cases e
      exact z_lift rfl (fun H locs ls hh kk => lv_iload hx hb hd (z_ld hh hz) (kk ls hh)) k
    · cases hp
  -- aload_n
  · split at hp
    · next r hz => 
      have e := Option.some.inj hp
      have e1 : _ + 1 = _ := congrArg (·.1) e
      have hlen : len = 1 := by omega
      subst hlen
      cases e
      refine z_lift rfl (fun H locs ls hh kk => ?_) k
      have hq := z_ld hh hz
      have kk := kk ls hh
      dsimp only [zv, List.map] at hq kk
      rcases zrv_cases E r with e | ⟨a, e⟩
      · rw [e] at hq kk
        exact lv_aload_nN hx hb hd rfl hq kk
      · rw [e] at hq kk
        exact lv_aload_n hx hb hd rfl hq kk
    · cases hp
  -- aload
  · split at hp
    · next r hz => 
      have e := Option.some.inj hp
      have e1 : _ + 2 = _ := congrArg (·.1) e
      have hlen : len = 2 := by omega
      subst hlen
      cases e
      refine z_lift rfl (fun H locs ls hh kk => ?_) k
      have hq := z_ld hh hz
      have kk := kk ls hh
      dsimp only [zv, List.map] at hq kk
      rcases zrv_cases E r with e | ⟨a, e⟩
      · rw [e] at hq kk
        exact lv_aloadN hx hb hd hq kk
      · rw [e] at hq kk
        exact lv_aload hx hb hd hq kk
    · cases hp
  -- dload
  · split at hp
    · next hz => 
      have e := Option.some.inj hp
      have e1 : _ + 2 = _ := congrArg (·.1) e
      have hlen : len = 2 := by omega
      subst hlen
      cases e
      exact z_lift rfl (fun H locs ls hh kk => lv_dload hx hb hd (z_ld hh hz) (kk ls hh)) k
    · cases hp
  -- istore_n
  · split at hp
    · next lw hz => 
      have e := Option.some.inj hp
      have e1 : _ + 1 = _ := congrArg (·.1) e
      have hlen : len = 1 := by omega
      subst hlen
      cases e
      obtain ⟨g1, g2, -⟩ := zset_mem (E := E) _ _ 0 _ _ hz
      intro hX w1 w2 w3 H locs ls hR ho hh
      exact lv_istore_n hx hb hd rfl hh (by omega) rfl (fun ls' hh' => k hX w1 w2 (by rw [g1]; exact w3) H locs ls' hR ho (zhas_set hz hh'))
    · cases hp
  -- istore
  · split at hp
    · next lw hz => 
      have e := Option.some.inj hp
      have e1 : _ + 2 = _ := congrArg (·.1) e
      have hlen : len = 2 := by omega
      subst hlen
      cases e
      obtain ⟨g1, g2, -⟩ := zset_mem (E := E) _ _ 0 _ _ hz
      intro hX w1 w2 w3 H locs ls hR ho hh
      exact lv_istore hx hb hd hh (by omega) rfl (fun ls' hh' => k hX w1 w2 (by rw [g1]; exact w3) H locs ls' hR ho (zhas_set hz hh'))
    · cases hp
  -- astore_n
  · split at hp
    · next lw hz => 
      have e := Option.some.inj hp
      have e1 : _ + 1 = _ := congrArg (·.1) e
      have hlen : len = 1 := by omega
      subst hlen
      cases e
      obtain ⟨g1, g2, -⟩ := zset_mem (E := E) _ _ 0 _ _ hz
      intro hX w1 w2 w3 H locs ls hR ho hh
      have kk : ∀ ls' : Array Slot, _ → _ := fun ls' hh' => k hX w1 w2 (by rw [g1]; exact w3) H locs ls' hR ho (zhas_set hz hh')
      dsimp only [zv, List.map] at kk ⊢
      rcases zrv_cases E _ with e | ⟨a, e⟩
      · rw [e] at kk ⊢
        exact lv_astore_nN hx hb hd rfl hh (by omega) rfl kk
      · rw [e] at kk ⊢
        exact lv_astore_n hx hb hd rfl hh (by omega) rfl kk
    · cases hp
  -- astore
  · split at hp
    · next lw hz => 
      have e := Option.some.inj hp
      have e1 : _ + 2 = _ := congrArg (·.1) e
      have hlen : len = 2 := by omega
      subst hlen
      cases e
      obtain ⟨g1, g2, -⟩ := zset_mem (E := E) _ _ 0 _ _ hz
      intro hX w1 w2 w3 H locs ls hR ho hh
      have kk : ∀ ls' : Array Slot, _ → _ := fun ls' hh' => k hX w1 w2 (by rw [g1]; exact w3) H locs ls' hR ho (zhas_set hz hh')
      dsimp only [zv, List.map] at kk ⊢
      rcases zrv_cases E _ with e | ⟨a, e⟩
      · rw [e] at kk ⊢
        exact lv_astoreN hx hb hd hh (by omega) rfl kk
      · rw [e] at kk ⊢
        exact lv_astore hx hb hd hh (by omega) rfl kk
    · cases hp
  -- astore_n opaque
  · split at hp
    · next lw hz => 
      have e := Option.some.inj hp
      have e1 : _ + 1 = _ := congrArg (·.1) e
      have hlen : len = 1 := by omega
      subst hlen
      cases e
      obtain ⟨g1, g2, -⟩ := zset_mem (E := E) _ _ 0 _ _ hz
      intro hX w1 w2 w3 H locs ls hR ho hh
      exact lv_astore_n hx hb hd rfl hh (by omega) rfl (fun ls' hh' => k hX w1 w2 (by rw [g1]; exact w3) H locs ls' hR ho (zhas_set hz hh'))
    · cases hp
  -- astore opaque
  · split at hp
    · next lw hz => 
      have e := Option.some.inj hp
      have e1 : _ + 2 = _ := congrArg (·.1) e
      have hlen : len = 2 := by omega
      subst hlen
      cases e
      obtain ⟨g1, g2, -⟩ := zset_mem (E := E) _ _ 0 _ _ hz
      intro hX w1 w2 w3 H locs ls hR ho hh
      exact lv_astore hx hb hd hh (by omega) rfl (fun ls' hh' => k hX w1 w2 (by rw [g1]; exact w3) H locs ls' hR ho (zhas_set hz hh'))
    · cases hp
  -- iinc
  · split at hp
    · next x hg => 
      split at hp
      · next lw hz => 
        have e := Option.some.inj hp
        have e1 : _ + 3 = _ := congrArg (·.1) e
        have hlen : len = 3 := by omega
        subst hlen
        cases e
        obtain ⟨g1, g2, -⟩ := zset_mem (E := E) _ _ 0 _ _ hz
        intro hX w1 w2 w3 H locs ls hR ho hh
        have hm := zlv_at (E := E) lv 0 _ _ hg
        rw [Nat.zero_add] at hm
        obtain ⟨j, hj⟩ := List.getElem?_of_mem hm
        exact lv_iinc hx hb hd hh hj (by rw [← zcst_ofInt]) (by omega) rfl (fun ls' hh' => k hX w1 w2 (by rw [g1]; exact w3) H locs ls' hR ho (zhas_set hz hh'))
      · cases hp
    · cases hp
  -- iadd
  · have e := Option.some.inj hp
    have e1 : _ + 1 = _ := congrArg (·.1) e
    have hlen : len = 1 := by omega
    subst hlen
    cases e
    exact z_lift0 (fun H locs ls kk => lv_iadd hx hb hd kk) k
  -- isub
  · have e := Option.some.inj hp
    have e1 : _ + 1 = _ := congrArg (·.1) e
    have hlen : len = 1 := by omega
    subst hlen
    cases e
    exact z_lift0 (fun H locs ls kk => lv_isub hx hb hd kk) k
  -- imul
  · have e := Option.some.inj hp
    have e1 : _ + 1 = _ := congrArg (·.1) e
    have hlen : len = 1 := by omega
    subst hlen
    cases e
    exact z_lift0 (fun H locs ls kk => lv_imul hx hb hd kk) k
  -- iand
  · have e := Option.some.inj hp
    have e1 : _ + 1 = _ := congrArg (·.1) e
    have hlen : len = 1 := by omega
    subst hlen
    cases e
    exact z_lift0 (fun H locs ls kk => lv_iand hx hb hd kk) k
  -- i2l
  · have e := Option.some.inj hp
    have e1 : _ + 1 = _ := congrArg (·.1) e
    have hlen : len = 1 := by omega
    subst hlen
    cases e
    exact z_lift0 (fun H locs ls kk => lv_i2l hx hb hd rfl kk) k
  -- l2i
  · have e := Option.some.inj hp
    have e1 : _ + 1 = _ := congrArg (·.1) e
    have hlen : len = 1 := by omega
    subst hlen
    cases e
    exact z_lift0 (fun H locs ls kk => lv_l2i hx hb hd rfl kk) k
  -- i2c
  · have e := Option.some.inj hp
    have e1 : _ + 1 = _ := congrArg (·.1) e
    have hlen : len = 1 := by omega
    subst hlen
    cases e
    exact z_lift0 (fun H locs ls kk => lv_i2c hx hb hd rfl kk) k
  -- i2d
  · have e := Option.some.inj hp
    have e1 : _ + 1 = _ := congrArg (·.1) e
    have hlen : len = 1 := by omega
    subst hlen
    cases e
    exact z_lift0 (fun H locs ls kk => lv_i2d hx hb hd kk) k
  -- lmul
  · have e := Option.some.inj hp
    have e1 : _ + 1 = _ := congrArg (·.1) e
    have hlen : len = 1 := by omega
    subst hlen
    cases e
    exact z_lift0 (fun H locs ls kk => lv_lmul hx hb hd kk) k
  -- lcmp
  · have e := Option.some.inj hp
    have e1 : _ + 1 = _ := congrArg (·.1) e
    have hlen : len = 1 := by omega
    subst hlen
    cases e
    exact z_lift0 (fun H locs ls kk => W.lcmp hx hb hd kk) k
  -- dcmp
  · have e := Option.some.inj hp
    have e1 : _ + 1 = _ := congrArg (·.1) e
    have hlen : len = 1 := by omega
    subst hlen
    cases e
    exact z_lift0 (fun H locs ls kk => lv_dcmp hx hb hd kk) k
  -- dstore
  · split at hp
    · split at hp
      · next hz1 => 
        split at hp
        · next lw hz => 
          have e := Option.some.inj hp
          have e1 : _ + 2 = _ := congrArg (·.1) e
          have hlen : len = 2 := by omega
          subst hlen
          cases e
          obtain ⟨g1, g2, -⟩ := zset_mem (E := E) _ _ 0 _ _ hz
          obtain ⟨-, g3, -⟩ := zset_mem (E := E) _ _ 0 _ _ hz1
          intro hX w1 w2 w3 H locs ls hR ho hh
          refine lv_dstore hx hb hd hh (by omega) rfl (fun ls' hh' => k hX w1 w2 (by rw [g1]; exact w3) H locs ls' hR ho ⟨hh'.1, hh'.2.1, fun q hq => hh'.2.2 q ?_⟩)
          rcases (zset_mem (E := E) _ _ 0 _ _ hz).2.2 q hq with g | ⟨f1, f2, f3⟩
          · rw [g, Nat.zero_add]; exact List.mem_cons_self
          · refine List.mem_cons_of_mem _ (List.mem_filter.mpr ⟨f1, ?_⟩)
            rw [Nat.zero_add] at f2 f3
            have f4 : q.1 ≠ _ + 1 := fun e => by
              have := zlv_get _ 0 q f1
              rw [Nat.sub_zero, e] at this
              exact this (by assumption)
            simp [f2, f4]
            exact Classical.or_iff_not_imp_left.mpr (fun g => f3 (Classical.not_not.mp g))
        · cases hp
      · cases hp
    · cases hp
  -- dup int
  · have e := Option.some.inj hp
    have e1 : _ + 1 = _ := congrArg (·.1) e
    have hlen : len = 1 := by omega
    subst hlen
    cases e
    exact z_lift0 (fun H locs ls kk => lv_dup hx hb hd rfl kk) k
  -- dup ref
  · have e := Option.some.inj hp
    have e1 : _ + 1 = _ := congrArg (·.1) e
    have hlen : len = 1 := by omega
    subst hlen
    cases e
    refine z_lift0 (fun H locs ls kk => ?_) k
    dsimp only [zv, List.map] at kk ⊢
    rcases zrv_cases E _ with e | ⟨a, e⟩
    · rw [e] at kk ⊢
      exact lv_dup hx hb hd rfl kk
    · rw [e] at kk ⊢
      exact lv_dup hx hb hd rfl kk
  -- dup2 int ref
  · have e := Option.some.inj hp
    have e1 : _ + 1 = _ := congrArg (·.1) e
    have hlen : len = 1 := by omega
    subst hlen
    cases e
    refine z_lift0 (fun H locs ls kk => ?_) k
    dsimp only [zv, List.map] at kk ⊢
    rcases zrv_cases E _ with e | ⟨a, e⟩
    · rw [e] at kk ⊢
      exact lv_dup2_11 hx hb hd rfl rfl kk
    · rw [e] at kk ⊢
      exact lv_dup2_11 hx hb hd rfl rfl kk
  · cases hp
/-- a stretch of them -/
theorem z_run0 (hk : zk E K own cc nL h) : ∀ (l : List jI) (pc : Nat) (lv : zLV) (st : List zV), (∀ r ∈ l, decode cc r.1 = .ok (r.2.1, r.2.2)) → zrun l pc lv st = some (pc', lv', st') → zG E K fin X σ pc' lv' st' → zG E K fin X σ pc lv st
  | [], pc, lv, st, _, hr, k => by
    cases hr
    exact k
  | r :: t, pc, lv, st, hd, hr, k => by
    unfold zrun at hr
    split at hr
    · next h1 =>
      split at hr
      · next q lq sq h2 =>
        split at hr
        · next h3 =>
          have e1 : r.1 = pc := Nat.eq_of_beq_eq_true h1
          have e3 := Nat.eq_of_beq_eq_true h3
          have hd0 := hd r List.mem_cons_self
          rw [e1] at hd0
          exact z_p1 hk hd0 h2 e3 (z_run0 hk t q lq sq (fun r' h' => hd r' (List.mem_cons_of_mem _ h')) hr k)
        · cases hr
      · cases hr
    · cases hr
theorem z_hd {b : ByteArray} {l : List jI} (h : jD b l = true) {r : jI} (hr : r ∈ l) : decode b r.1 = .ok (r.2.1, r.2.2) := by
  have := List.all_eq_true.mp h r hr
  simpa using this
theorem z_run (hk : zk E K own cc nL h) {l : List jI} (hb : jD cc l = true) (i n : Nat) (hr : zrun ((l.drop i).take n) pc lv st = some (pc', lv', st')) (k : zG E K fin X σ pc' lv' st') : zG E K fin X σ pc lv st :=
  z_run0 hk _ pc lv st (fun r h => z_hd hb (List.mem_of_mem_drop (List.mem_of_mem_take h))) hr k
end ZQ
