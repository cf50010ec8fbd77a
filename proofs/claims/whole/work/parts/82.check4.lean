theorem iw_va2 : iw_allF 32 iw_tbl_2 = true := by decide +kernel
theorem iw_va3 : iw_allF 48 iw_tbl_3 = true := by decide +kernel
theorem iw_va4 : iw_allF 64 iw_tbl_4 = true := by decide +kernel
theorem iw_va5 : iw_allF 80 iw_tbl_5 = true := by decide +kernel
theorem iw_va6 : iw_allF 96 iw_tbl_6 = true := by decide +kernel
