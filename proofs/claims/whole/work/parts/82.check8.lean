theorem iw_va19 : iw_allF 304 iw_tbl_19 = true := by decide +kernel
theorem iw_va20 : iw_allF 320 iw_tbl_20 = true := by decide +kernel
