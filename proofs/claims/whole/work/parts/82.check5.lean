theorem iw_va7 : iw_allF 112 iw_tbl_7 = true := by decide +kernel
theorem iw_va8 : iw_allF 128 iw_tbl_8 = true := by decide +kernel
theorem iw_va9 : iw_allF 144 iw_tbl_9 = true := by decide +kernel
theorem iw_va10 : iw_allF 160 iw_tbl_10 = true := by decide +kernel
theorem iw_va11 : iw_allF 176 iw_tbl_11 = true := by decide +kernel
