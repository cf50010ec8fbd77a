theorem iw_va0 : iw_allF 0 iw_tbl_0 = true := by decide +kernel
theorem iw_va1 : iw_allF 16 iw_tbl_1 = true := by decide +kernel
theorem iw_va2 : iw_allF 32 iw_tbl_2 = true := by decide +kernel
theorem iw_va3 : iw_allF 48 iw_tbl_3 = true := by decide +kernel
theorem iw_va4 : iw_allF 64 iw_tbl_4 = true := by decide +kernel
