theorem iw_va14 : iw_allF 224 iw_tbl_14 = true := by decide +kernel
theorem iw_va15 : iw_allF 240 iw_tbl_15 = true := by decide +kernel
theorem iw_va16 : iw_allF 256 iw_tbl_16 = true := by decide +kernel
theorem iw_va17 : iw_allF 272 iw_tbl_17 = true := by decide +kernel
