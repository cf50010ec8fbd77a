theorem iw_va10 : iw_allF 160 iw_tbl_10 = true := by decide +kernel
theorem iw_va11 : iw_allF 176 iw_tbl_11 = true := by decide +kernel
theorem iw_va12 : iw_allF 192 iw_tbl_12 = true := by decide +kernel
theorem iw_va13 : iw_allF 208 iw_tbl_13 = true := by decide +kernel
