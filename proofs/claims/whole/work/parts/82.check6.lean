theorem iw_va12 : iw_allF 192 iw_tbl_12 = true := by decide +kernel
theorem iw_va13 : iw_allF 208 iw_tbl_13 = true := by decide +kernel
theorem iw_va14 : iw_allF 224 iw_tbl_14 = true := by decide +kernel
