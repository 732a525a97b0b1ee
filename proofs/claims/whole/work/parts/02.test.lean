theorem tt_len : tables_1.length = 0 := by decide +kernel
theorem tt_len2 : lw_tbl.length = 0 := by decide +kernel
theorem tt_bad : (lw_tbl.filter (fun w => !goodWord w)).length = 0 := by decide +kernel
