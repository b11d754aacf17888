theorem zt_good : (lw_tbl.filter (fun w => !goodWord w)).length = 999 := by decide +kernel
theorem zt_good2 : (lw_tbl).length = 999 := by decide +kernel
