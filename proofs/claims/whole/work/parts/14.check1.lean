theorem iw_va5 : iw_allF 80 iw_tbl_5 = true := by decide +kernel
theorem iw_va6 : iw_allF 96 iw_tbl_6 = true := by decide +kernel
theorem iw_va7 : iw_allF 112 iw_tbl_7 = true := by decide +kernel
theorem iw_va8 : iw_allF 128 iw_tbl_8 = true := by decide +kernel
theorem iw_va9 : iw_allF 144 iw_tbl_9 = true := by decide +kernel
