theorem iw_va15 : iw_allF 240 iw_tbl_15 = true := by decide +kernel
theorem iw_va16 : iw_allF 256 iw_tbl_16 = true := by decide +kernel
theorem iw_va17 : iw_allF 272 iw_tbl_17 = true := by decide +kernel
theorem iw_va18 : iw_allF 288 iw_tbl_18 = true := by decide +kernel
