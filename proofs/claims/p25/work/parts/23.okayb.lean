theorem okl_42 : kn_okC kn_cl lw_tbl kn_Ns kn_T km_law 42 = true := by decide +kernel
theorem okl_43 : kn_okC kn_cl lw_tbl kn_Ns kn_T km_law 43 = true := by decide +kernel
theorem okl_44 : kn_okC kn_cl lw_tbl kn_Ns kn_T km_law 44 = true := by decide +kernel
theorem okl_45 : kn_okC kn_cl lw_tbl kn_Ns kn_T km_law 45 = true := by decide +kernel
theorem okl_46 : kn_okC kn_cl lw_tbl kn_Ns kn_T km_law 46 = true := by decide +kernel
theorem okl_47 : kn_okC kn_cl lw_tbl kn_Ns kn_T km_law 47 = true := by decide +kernel
theorem okl_48 : kn_okC kn_cl lw_tbl kn_Ns kn_T km_law 48 = true := by decide +kernel
theorem okl_49 : kn_okC kn_cl lw_tbl kn_Ns kn_T km_law 49 = true := by decide +kernel
theorem okl_50 : kn_okC kn_cl lw_tbl kn_Ns kn_T km_law 50 = true := by decide +kernel
theorem okl_51 : kn_okC kn_cl lw_tbl kn_Ns kn_T km_law 51 = true := by decide +kernel
theorem okl_52 : kn_okC kn_cl lw_tbl kn_Ns kn_T km_law 52 = true := by decide +kernel
theorem okl_53 : kn_okC kn_cl lw_tbl kn_Ns kn_T km_law 53 = true := by decide +kernel
theorem okl_54 : kn_okC kn_cl lw_tbl kn_Ns kn_T km_law 54 = true := by decide +kernel
theorem okl_55 : kn_okC kn_cl lw_tbl kn_Ns kn_T km_law 55 = true := by decide +kernel
theorem okl_56 : kn_okC kn_cl lw_tbl kn_Ns kn_T km_law 56 = true := by decide +kernel
theorem okl_57 : kn_okC kn_cl lw_tbl kn_Ns kn_T km_law 57 = true := by decide +kernel
theorem okl_58 : kn_okC kn_cl lw_tbl kn_Ns kn_T km_law 58 = true := by decide +kernel
theorem okl_59 : kn_okC kn_cl lw_tbl kn_Ns kn_T km_law 59 = true := by decide +kernel
theorem okl_60 : kn_okC kn_cl lw_tbl kn_Ns kn_T km_law 60 = true := by decide +kernel
theorem okl_61 : kn_okC kn_cl lw_tbl kn_Ns kn_T km_law 61 = true := by decide +kernel
theorem okl_62 : kn_okC kn_cl lw_tbl kn_Ns kn_T km_law 62 = true := by decide +kernel
theorem okl_63 : kn_okC kn_cl lw_tbl kn_Ns kn_T km_law 63 = true := by decide +kernel
theorem okl_64 : kn_okC kn_cl lw_tbl kn_Ns kn_T km_law 64 = true := by decide +kernel
theorem okl_65 : kn_okC kn_cl lw_tbl kn_Ns kn_T km_law 65 = true := by decide +kernel
theorem okl_66 : kn_okC kn_cl lw_tbl kn_Ns kn_T km_law 66 = true := by decide +kernel
theorem okl_67 : kn_okC kn_cl lw_tbl kn_Ns kn_T km_law 67 = true := by decide +kernel
theorem okl_68 : kn_okC kn_cl lw_tbl kn_Ns kn_T km_law 68 = true := by decide +kernel
theorem okl_69 : kn_okC kn_cl lw_tbl kn_Ns kn_T km_law 69 = true := by decide +kernel
theorem okl_70 : kn_okC kn_cl lw_tbl kn_Ns kn_T km_law 70 = true := by decide +kernel
theorem okl_71 : kn_okC kn_cl lw_tbl kn_Ns kn_T km_law 71 = true := by decide +kernel
theorem okl_72 : kn_okC kn_cl lw_tbl kn_Ns kn_T km_law 72 = true := by decide +kernel
theorem okl_73 : kn_okC kn_cl lw_tbl kn_Ns kn_T km_law 73 = true := by decide +kernel
theorem okl_74 : kn_okC kn_cl lw_tbl kn_Ns kn_T km_law 74 = true := by decide +kernel
theorem okl_75 : kn_okC kn_cl lw_tbl kn_Ns kn_T km_law 75 = true := by decide +kernel
theorem okl_76 : kn_okC kn_cl lw_tbl kn_Ns kn_T km_law 76 = true := by decide +kernel
theorem okl_77 : kn_okC kn_cl lw_tbl kn_Ns kn_T km_law 77 = true := by decide +kernel
theorem okl_78 : kn_okC kn_cl lw_tbl kn_Ns kn_T km_law 78 = true := by decide +kernel
theorem okl_79 : kn_okC kn_cl lw_tbl kn_Ns kn_T km_law 79 = true := by decide +kernel
theorem okl_80 : kn_okC kn_cl lw_tbl kn_Ns kn_T km_law 80 = true := by decide +kernel
theorem okl_81 : kn_okC kn_cl lw_tbl kn_Ns kn_T km_law 81 = true := by decide +kernel
theorem okl_82 : kn_okC kn_cl lw_tbl kn_Ns kn_T km_law 82 = true := by decide +kernel
theorem okl_83 : kn_okC kn_cl lw_tbl kn_Ns kn_T km_law 83 = true := by decide +kernel
theorem ok_law : kn_okM kn_cl lw_tbl kn_Ns kn_T km_law = true := kn_okM_of 84 (by decide +kernel) (fun i hi => match i, hi with
  | 0, _ => okl_0
  | 1, _ => okl_1
  | 2, _ => okl_2
  | 3, _ => okl_3
  | 4, _ => okl_4
  | 5, _ => okl_5
  | 6, _ => okl_6
  | 7, _ => okl_7
  | 8, _ => okl_8
  | 9, _ => okl_9
  | 10, _ => okl_10
  | 11, _ => okl_11
  | 12, _ => okl_12
  | 13, _ => okl_13
  | 14, _ => okl_14
  | 15, _ => okl_15
  | 16, _ => okl_16
  | 17, _ => okl_17
  | 18, _ => okl_18
  | 19, _ => okl_19
  | 20, _ => okl_20
  | 21, _ => okl_21
  | 22, _ => okl_22
  | 23, _ => okl_23
  | 24, _ => okl_24
  | 25, _ => okl_25
  | 26, _ => okl_26
  | 27, _ => okl_27
  | 28, _ => okl_28
  | 29, _ => okl_29
  | 30, _ => okl_30
  | 31, _ => okl_31
  | 32, _ => okl_32
  | 33, _ => okl_33
  | 34, _ => okl_34
  | 35, _ => okl_35
  | 36, _ => okl_36
  | 37, _ => okl_37
  | 38, _ => okl_38
  | 39, _ => okl_39
  | 40, _ => okl_40
  | 41, _ => okl_41
  | 42, _ => okl_42
  | 43, _ => okl_43
  | 44, _ => okl_44
  | 45, _ => okl_45
  | 46, _ => okl_46
  | 47, _ => okl_47
  | 48, _ => okl_48
  | 49, _ => okl_49
  | 50, _ => okl_50
  | 51, _ => okl_51
  | 52, _ => okl_52
  | 53, _ => okl_53
  | 54, _ => okl_54
  | 55, _ => okl_55
  | 56, _ => okl_56
  | 57, _ => okl_57
  | 58, _ => okl_58
  | 59, _ => okl_59
  | 60, _ => okl_60
  | 61, _ => okl_61
  | 62, _ => okl_62
  | 63, _ => okl_63
  | 64, _ => okl_64
  | 65, _ => okl_65
  | 66, _ => okl_66
  | 67, _ => okl_67
  | 68, _ => okl_68
  | 69, _ => okl_69
  | 70, _ => okl_70
  | 71, _ => okl_71
  | 72, _ => okl_72
  | 73, _ => okl_73
  | 74, _ => okl_74
  | 75, _ => okl_75
  | 76, _ => okl_76
  | 77, _ => okl_77
  | 78, _ => okl_78
  | 79, _ => okl_79
  | 80, _ => okl_80
  | 81, _ => okl_81
  | 82, _ => okl_82
  | 83, _ => okl_83
  | i + 84, hi => absurd hi (by omega))
