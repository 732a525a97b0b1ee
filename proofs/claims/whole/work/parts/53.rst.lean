/-! A SALE AFTER A STORE -/
theorem up_self {a : Nat → Int32} {j : Nat} {v : Int32} : up a j v j = v := by
  unfold up
  rw [if_pos rfl]
theorem up_ne {a : Nat → Int32} {j k : Nat} {v : Int32} (h : k ≠ j) : up a j v k = a k := by
  unfold up
  rw [if_neg h]
/-- any store in the Sale: the new numbers are known where the old ones are known at what counts now -/
theorem Rep.stg {σ : zW} {s j0 : Nat} {a : Nat → Int32} {v : Int32} (h : Sh σ s) (hj : j0 < 1992) (hv : ∀ j, Vis (up a j0 v) j → j ≠ j0 → sl σ s j = a j) : Rep (stI σ (s + (slo j0).1) (slo j0).2 v) s (up a j0 v) := by
  refine ⟨h, fun j hjv => ?_⟩
  rw [sl_st hj hjv.1]
  by_cases e : j = j0
  · rw [e, up_self, up_self]
  · rw [up_ne e, up_ne e]
    exact hv j hjv e
/-- a store that leaves the counters -/
theorem Rep.st {σ : zW} {s j0 : Nat} {a : Nat → Int32} {v : Int32} (h : Rep σ s a) (hj : j0 < 1992) (h23 : j0 ≠ 23) (h991 : j0 ≠ 991) : Rep (stI σ (s + (slo j0).1) (slo j0).2 v) s (up a j0 v) := by
  refine Rep.stg h.1 hj fun j hjv _ => h.2 j ?_
  unfold Vis at hjv ⊢
  rwa [up_ne (Ne.symm h23), up_ne (Ne.symm h991)] at hjv
