theorem tst_len : lw_tbl.length = 0 := by decide +kernel
theorem tst_good : lw_tbl.all goodWord = true := by decide +kernel
theorem tst_good2 : (lw_tbl.filter (fun w => !goodWord w)).map (fun w => toString (repr w)) = [] := by decide +kernel
