theorem iw_va0 : iw_allF 0 iw_tbl_0 = true := by decide +kernel
theorem iw_va1 : iw_allF 16 iw_tbl_1 = true := by decide +kernel
