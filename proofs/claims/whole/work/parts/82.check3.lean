theorem iw_va0r : iw_allF 1 [iw_T1, iw_T2, iw_T3, iw_T4, iw_T5, iw_T6, iw_T7, iw_T8, iw_T9, iw_T10, iw_T11, iw_T12, iw_T13, iw_T14, iw_T15] = true := by decide +kernel
set_option maxRecDepth 20000 in
theorem iw_va0l : iw_allT 0 iw_T0 = true := by
  simp only [iw_allT, iw_T0, List.all_cons, List.all_nil, iw_c0_0, iw_c0_1, iw_c0_2, iw_c0_3, iw_c0_4, iw_c0_5, iw_c0_6, iw_c0_7, iw_c0_8, iw_c0_9, iw_c0_10, iw_c0_11, iw_c0_12, iw_c0_13, iw_c0_14, iw_c0_15, iw_c0_16, iw_c0_17, iw_c0_18, iw_c0_19, iw_c0_20, iw_c0_21, iw_c0_22, iw_c0_23, iw_c0_24, iw_c0_25, iw_c0_26, iw_c0_27, iw_c0_28, iw_c0_29, iw_c0_30, iw_c0_31, iw_c0_32, iw_c0_33, iw_c0_34, iw_c0_35, iw_c0_36, iw_c0_37, iw_c0_38, iw_c0_39, iw_c0_40, iw_c0_41, iw_c0_42, iw_c0_43, iw_c0_44, iw_c0_45, iw_c0_46, iw_c0_47, iw_c0_48, iw_c0_49, iw_c0_50, iw_c0_51, iw_c0_52, iw_c0_53, iw_c0_54, iw_c0_55, iw_c0_56, iw_c0_57, iw_c0_58, iw_c0_59, iw_c0_60, iw_c0_61, iw_c0_62, iw_c0_63, iw_c0_64, iw_c0_65, iw_c0_66, iw_c0_67, iw_c0_68, iw_c0_69, iw_c0_70, iw_c0_71, iw_c0_72, iw_c0_73, iw_c0_74, iw_c0_75, iw_c0_76, iw_c0_77, iw_c0_78, iw_c0_79, iw_c0_80, iw_c0_81, iw_c0_82, iw_c0_83, iw_c0_84, iw_c0_85, iw_c0_86, iw_c0_87, iw_c0_88, iw_c0_89, iw_c0_90, iw_c0_91, iw_c0_92, iw_c0_93, iw_c0_94, iw_c0_95, iw_c0_96, iw_c0_97, iw_c0_98, iw_c0_99, iw_c0_100, iw_c0_101, iw_c0_102, iw_c0_103, iw_c0_104, iw_c0_105, iw_c0_106, Bool.and_self]
theorem iw_va0 : iw_allF 0 iw_tbl_0 = true := by
  show (iw_allT 0 iw_T0 && iw_allF 1 [iw_T1, iw_T2, iw_T3, iw_T4, iw_T5, iw_T6, iw_T7, iw_T8, iw_T9, iw_T10, iw_T11, iw_T12, iw_T13, iw_T14, iw_T15]) = true
  rw [iw_va0l, iw_va0r]
  rfl
theorem iw_va1 : iw_allF 16 iw_tbl_1 = true := by decide +kernel
