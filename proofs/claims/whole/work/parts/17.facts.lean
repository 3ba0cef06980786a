/-! facts of the table of shapes, by program; rows of numbers -/
theorem kd_0 : oKd 0 = some 10 := by decide +kernel
theorem rf_0_0 : oRf 0 0 = 1 := by decide +kernel
theorem rf_0_1 : oRf 0 1 = 18 := by decide +kernel
theorem rf_0_3 : oRf 0 3 = 35 := by decide +kernel
theorem rf_0_4 : oRf 0 4 = 51 := by decide +kernel
theorem rf_0_5 : oRf 0 5 = 55 := by decide +kernel
theorem rf_0_6 : oRf 0 6 = 57 := by decide +kernel
theorem rf_0_7 : oRf 0 7 = 60 := by decide +kernel
theorem rf_0_8 : oRf 0 8 = 63 := by decide +kernel
theorem rf_0_9 : oRf 0 9 = 65 := by decide +kernel
theorem rf_0_10 : oRf 0 10 = 67 := by decide +kernel
theorem kd_1 : oKd 1 = some 1 := by decide +kernel
theorem rf_1_0 : oRf 1 0 = 2 := by decide +kernel
theorem rf_1_1 : oRf 1 1 = 4 := by decide +kernel
theorem rf_1_2 : oRf 1 2 = 5 := by decide +kernel
theorem rf_1_3 : oRf 1 3 = 6 := by decide +kernel
theorem rf_1_4 : oRf 1 4 = 9 := by decide +kernel
theorem rf_1_5 : oRf 1 5 = 12 := by decide +kernel
theorem rf_1_6 : oRf 1 6 = 15 := by decide +kernel
theorem kd_2 : oKd 2 = some 4 := by decide +kernel
theorem rf_2_1 : oRf 2 1 = 3 := by decide +kernel
theorem ak_3 : oAk 3 = some 0 := by decide +kernel
theorem ln_3 : oLn 3 = 49 := by decide +kernel
theorem ak_4 : oAk 4 = some 0 := by decide +kernel
theorem ln_4 : oLn 4 = 7 := by decide +kernel
theorem ak_5 : oAk 5 = some 0 := by decide +kernel
theorem ln_5 : oLn 5 = 7 := by decide +kernel
theorem kd_6 : oKd 6 = some 7 := by decide +kernel
theorem rf_6_1 : oRf 6 1 = 7 := by decide +kernel
theorem rf_6_2 : oRf 6 2 = 8 := by decide +kernel
theorem ak_7 : oAk 7 = some 0 := by decide +kernel
theorem ln_7 : oLn 7 = 3 := by decide +kernel
theorem ak_8 : oAk 8 = some 0 := by decide +kernel
theorem ln_8 : oLn 8 = 3 := by decide +kernel
theorem kd_9 : oKd 9 = some 7 := by decide +kernel
theorem rf_9_1 : oRf 9 1 = 10 := by decide +kernel
theorem rf_9_2 : oRf 9 2 = 11 := by decide +kernel
theorem ak_10 : oAk 10 = some 0 := by decide +kernel
theorem ln_10 : oLn 10 = 5 := by decide +kernel
theorem ak_11 : oAk 11 = some 0 := by decide +kernel
theorem ln_11 : oLn 11 = 5 := by decide +kernel
theorem kd_12 : oKd 12 = some 7 := by decide +kernel
theorem rf_12_1 : oRf 12 1 = 13 := by decide +kernel
theorem rf_12_2 : oRf 12 2 = 14 := by decide +kernel
theorem ak_13 : oAk 13 = some 0 := by decide +kernel
theorem ln_13 : oLn 13 = 8 := by decide +kernel
theorem ak_14 : oAk 14 = some 0 := by decide +kernel
theorem ln_14 : oLn 14 = 8 := by decide +kernel
theorem kd_15 : oKd 15 = some 7 := by decide +kernel
theorem rf_15_1 : oRf 15 1 = 16 := by decide +kernel
theorem rf_15_2 : oRf 15 2 = 17 := by decide +kernel
theorem ak_16 : oAk 16 = some 0 := by decide +kernel
theorem ln_16 : oLn 16 = 8 := by decide +kernel
theorem ak_17 : oAk 17 = some 0 := by decide +kernel
theorem ln_17 : oLn 17 = 8 := by decide +kernel
theorem kd_18 : oKd 18 = some 1 := by decide +kernel
theorem rf_18_0 : oRf 18 0 = 19 := by decide +kernel
theorem rf_18_1 : oRf 18 1 = 21 := by decide +kernel
theorem rf_18_2 : oRf 18 2 = 22 := by decide +kernel
theorem rf_18_3 : oRf 18 3 = 23 := by decide +kernel
theorem rf_18_4 : oRf 18 4 = 26 := by decide +kernel
theorem rf_18_5 : oRf 18 5 = 29 := by decide +kernel
theorem rf_18_6 : oRf 18 6 = 32 := by decide +kernel
theorem kd_19 : oKd 19 = some 4 := by decide +kernel
theorem rf_19_1 : oRf 19 1 = 20 := by decide +kernel
theorem ak_20 : oAk 20 = some 0 := by decide +kernel
theorem ln_20 : oLn 20 = 49 := by decide +kernel
theorem ak_21 : oAk 21 = some 0 := by decide +kernel
theorem ln_21 : oLn 21 = 7 := by decide +kernel
theorem ak_22 : oAk 22 = some 0 := by decide +kernel
theorem ln_22 : oLn 22 = 7 := by decide +kernel
theorem kd_23 : oKd 23 = some 7 := by decide +kernel
theorem rf_23_1 : oRf 23 1 = 24 := by decide +kernel
theorem rf_23_2 : oRf 23 2 = 25 := by decide +kernel
theorem ak_24 : oAk 24 = some 0 := by decide +kernel
theorem ln_24 : oLn 24 = 3 := by decide +kernel
theorem ak_25 : oAk 25 = some 0 := by decide +kernel
theorem ln_25 : oLn 25 = 3 := by decide +kernel
theorem kd_26 : oKd 26 = some 7 := by decide +kernel
theorem rf_26_1 : oRf 26 1 = 27 := by decide +kernel
theorem rf_26_2 : oRf 26 2 = 28 := by decide +kernel
theorem ak_27 : oAk 27 = some 0 := by decide +kernel
theorem ln_27 : oLn 27 = 5 := by decide +kernel
theorem ak_28 : oAk 28 = some 0 := by decide +kernel
theorem ln_28 : oLn 28 = 5 := by decide +kernel
theorem kd_29 : oKd 29 = some 7 := by decide +kernel
theorem rf_29_1 : oRf 29 1 = 30 := by decide +kernel
theorem rf_29_2 : oRf 29 2 = 31 := by decide +kernel
theorem ak_30 : oAk 30 = some 0 := by decide +kernel
theorem ln_30 : oLn 30 = 8 := by decide +kernel
theorem ak_31 : oAk 31 = some 0 := by decide +kernel
theorem ln_31 : oLn 31 = 8 := by decide +kernel
theorem kd_32 : oKd 32 = some 7 := by decide +kernel
theorem rf_32_1 : oRf 32 1 = 33 := by decide +kernel
theorem rf_32_2 : oRf 32 2 = 34 := by decide +kernel
theorem ak_33 : oAk 33 = some 0 := by decide +kernel
theorem ln_33 : oLn 33 = 8 := by decide +kernel
theorem ak_34 : oAk 34 = some 0 := by decide +kernel
theorem ln_34 : oLn 34 = 8 := by decide +kernel
theorem kd_35 : oKd 35 = some 9 := by decide +kernel
theorem rf_35_3 : oRf 35 3 = 36 := by decide +kernel
theorem rf_35_4 : oRf 35 4 = 37 := by decide +kernel
theorem rf_35_5 : oRf 35 5 = 38 := by decide +kernel
theorem ak_36 : oAk 36 = some 2 := by decide +kernel
theorem ln_36 : oLn 36 = 100 := by decide +kernel
theorem ak_37 : oAk 37 = some 3 := by decide +kernel
theorem ln_37 : oLn 37 = 12 := by decide +kernel
theorem re_37_0 : oRe 37 0 = 39 := by decide +kernel
theorem re_37_1 : oRe 37 1 = 40 := by decide +kernel
theorem re_37_2 : oRe 37 2 = 41 := by decide +kernel
theorem re_37_3 : oRe 37 3 = 42 := by decide +kernel
theorem re_37_4 : oRe 37 4 = 43 := by decide +kernel
theorem re_37_5 : oRe 37 5 = 44 := by decide +kernel
theorem re_37_6 : oRe 37 6 = 45 := by decide +kernel
theorem re_37_7 : oRe 37 7 = 46 := by decide +kernel
theorem re_37_8 : oRe 37 8 = 47 := by decide +kernel
theorem re_37_9 : oRe 37 9 = 48 := by decide +kernel
theorem re_37_10 : oRe 37 10 = 49 := by decide +kernel
theorem re_37_11 : oRe 37 11 = 50 := by decide +kernel
theorem kd_38 : oKd 38 = some 0 := by decide +kernel
theorem kd_39 : oKd 39 = some 0 := by decide +kernel
theorem kd_40 : oKd 40 = some 0 := by decide +kernel
theorem kd_41 : oKd 41 = some 0 := by decide +kernel
theorem kd_42 : oKd 42 = some 0 := by decide +kernel
theorem kd_43 : oKd 43 = some 0 := by decide +kernel
theorem kd_44 : oKd 44 = some 0 := by decide +kernel
theorem kd_45 : oKd 45 = some 0 := by decide +kernel
theorem kd_46 : oKd 46 = some 0 := by decide +kernel
theorem kd_47 : oKd 47 = some 0 := by decide +kernel
theorem kd_48 : oKd 48 = some 0 := by decide +kernel
theorem kd_49 : oKd 49 = some 0 := by decide +kernel
theorem kd_50 : oKd 50 = some 0 := by decide +kernel
theorem kd_51 : oKd 51 = some 8 := by decide +kernel
theorem rf_51_0 : oRf 51 0 = 52 := by decide +kernel
theorem rf_51_1 : oRf 51 1 = 53 := by decide +kernel
theorem rf_51_2 : oRf 51 2 = 54 := by decide +kernel
theorem ak_52 : oAk 52 = some 0 := by decide +kernel
theorem ln_52 : oLn 52 = 6 := by decide +kernel
theorem ak_53 : oAk 53 = some 0 := by decide +kernel
theorem ln_53 : oLn 53 = 6 := by decide +kernel
theorem ak_54 : oAk 54 = some 1 := by decide +kernel
theorem ln_54 : oLn 54 = 360 := by decide +kernel
theorem kd_55 : oKd 55 = some 4 := by decide +kernel
theorem rf_55_1 : oRf 55 1 = 56 := by decide +kernel
theorem ak_56 : oAk 56 = some 0 := by decide +kernel
theorem ln_56 : oLn 56 = 49 := by decide +kernel
theorem kd_57 : oKd 57 = some 3 := by decide +kernel
theorem rf_57_3 : oRf 57 3 = 58 := by decide +kernel
theorem rf_57_4 : oRf 57 4 = 59 := by decide +kernel
theorem ak_58 : oAk 58 = some 0 := by decide +kernel
theorem ln_58 : oLn 58 = 7 := by decide +kernel
theorem ak_59 : oAk 59 = some 0 := by decide +kernel
theorem ln_59 : oLn 59 = 128 := by decide +kernel
theorem kd_60 : oKd 60 = some 3 := by decide +kernel
theorem rf_60_3 : oRf 60 3 = 61 := by decide +kernel
theorem rf_60_4 : oRf 60 4 = 62 := by decide +kernel
theorem ak_61 : oAk 61 = some 0 := by decide +kernel
theorem ln_61 : oLn 61 = 7 := by decide +kernel
theorem ak_62 : oAk 62 = some 0 := by decide +kernel
theorem ln_62 : oLn 62 = 128 := by decide +kernel
theorem kd_63 : oKd 63 = some 2 := by decide +kernel
theorem rf_63_2 : oRf 63 2 = 64 := by decide +kernel
theorem ak_64 : oAk 64 = some 0 := by decide +kernel
theorem ln_64 : oLn 64 = 7 := by decide +kernel
theorem kd_65 : oKd 65 = some 5 := by decide +kernel
theorem rf_65_5 : oRf 65 5 = 66 := by decide +kernel
theorem ak_66 : oAk 66 = some 0 := by decide +kernel
theorem ln_66 : oLn 66 = 7 := by decide +kernel
theorem kd_67 : oKd 67 = some 6 := by decide +kernel
theorem kd_68 : oKd 68 = some 11 := by decide +kernel
theorem rf_68_0 : oRf 68 0 = 69 := by decide +kernel
theorem rf_68_1 : oRf 68 1 = 70 := by decide +kernel
theorem rf_68_2 : oRf 68 2 = 71 := by decide +kernel
theorem rf_68_4 : oRf 68 4 = 72 := by decide +kernel
theorem rf_68_5 : oRf 68 5 = 73 := by decide +kernel
theorem rf_68_8 : oRf 68 8 = 74 := by decide +kernel
theorem rf_68_12 : oRf 68 12 = 75 := by decide +kernel
theorem rf_68_13 : oRf 68 13 = 76 := by decide +kernel
theorem rf_68_18 : oRf 68 18 = 77 := by decide +kernel
theorem rf_68_19 : oRf 68 19 = 78 := by decide +kernel
theorem rf_68_20 : oRf 68 20 = 79 := by decide +kernel
theorem rf_68_21 : oRf 68 21 = 80 := by decide +kernel
theorem rf_68_22 : oRf 68 22 = 81 := by decide +kernel
theorem rf_68_23 : oRf 68 23 = 88 := by decide +kernel
theorem ak_69 : oAk 69 = some 0 := by decide +kernel
theorem ln_69 : oLn 69 = 116 := by decide +kernel
theorem ak_70 : oAk 70 = some 0 := by decide +kernel
theorem ln_70 : oLn 70 = 116 := by decide +kernel
theorem ak_71 : oAk 71 = some 0 := by decide +kernel
theorem ln_71 : oLn 71 = 116 := by decide +kernel
theorem ak_72 : oAk 72 = some 0 := by decide +kernel
theorem ln_72 : oLn 72 = 100 := by decide +kernel
theorem ak_73 : oAk 73 = some 0 := by decide +kernel
theorem ln_73 : oLn 73 = 12 := by decide +kernel
theorem ak_74 : oAk 74 = some 0 := by decide +kernel
theorem ln_74 : oLn 74 = 14 := by decide +kernel
theorem ak_75 : oAk 75 = some 0 := by decide +kernel
theorem ln_75 : oLn 75 = 7 := by decide +kernel
theorem ak_76 : oAk 76 = some 0 := by decide +kernel
theorem ln_76 : oLn 76 = 7 := by decide +kernel
theorem ak_77 : oAk 77 = some 0 := by decide +kernel
theorem ln_77 : oLn 77 = 7 := by decide +kernel
theorem ak_78 : oAk 78 = some 0 := by decide +kernel
theorem ln_78 : oLn 78 = 7 := by decide +kernel
theorem ak_79 : oAk 79 = some 0 := by decide +kernel
theorem ln_79 : oLn 79 = 6 := by decide +kernel
theorem ak_80 : oAk 80 = some 0 := by decide +kernel
theorem ln_80 : oLn 80 = 6 := by decide +kernel
theorem ak_81 : oAk 81 = some 4 := by decide +kernel
theorem ln_81 : oLn 81 = 6 := by decide +kernel
theorem re_81_0 : oRe 81 0 = 82 := by decide +kernel
theorem re_81_1 : oRe 81 1 = 83 := by decide +kernel
theorem re_81_2 : oRe 81 2 = 84 := by decide +kernel
theorem re_81_3 : oRe 81 3 = 85 := by decide +kernel
theorem re_81_4 : oRe 81 4 = 86 := by decide +kernel
theorem re_81_5 : oRe 81 5 = 87 := by decide +kernel
theorem ak_82 : oAk 82 = some 1 := by decide +kernel
theorem ln_82 : oLn 82 = 60 := by decide +kernel
theorem ak_83 : oAk 83 = some 1 := by decide +kernel
theorem ln_83 : oLn 83 = 60 := by decide +kernel
theorem ak_84 : oAk 84 = some 1 := by decide +kernel
theorem ln_84 : oLn 84 = 60 := by decide +kernel
theorem ak_85 : oAk 85 = some 1 := by decide +kernel
theorem ln_85 : oLn 85 = 60 := by decide +kernel
theorem ak_86 : oAk 86 = some 1 := by decide +kernel
theorem ln_86 : oLn 86 = 60 := by decide +kernel
theorem ak_87 : oAk 87 = some 1 := by decide +kernel
theorem ln_87 : oLn 87 = 60 := by decide +kernel
theorem ak_88 : oAk 88 = some 1 := by decide +kernel
theorem ln_88 : oLn 88 = 60 := by decide +kernel
theorem mk_4 (as : List oV) : oMk 4 as = (0, 0) := by cases as <;> rfl
theorem mk_12 (as : List oV) : oMk 12 as = (0, 0) := by cases as <;> rfl
theorem mk_13 (as : List oV) : oMk 13 as = (0, 0) := by cases as <;> rfl
theorem mk_14 (as : List oV) : oMk 14 as = (0, 0) := by cases as <;> rfl
theorem mk_15 (as : List oV) : oMk 15 as = (0, 0) := by cases as <;> rfl
theorem mk_16 (as : List oV) : oMk 16 as = (0, 0) := by cases as <;> rfl
theorem mk_17 (as : List oV) : oMk 17 as = (0, 0) := by cases as <;> rfl
theorem mk_18 (as : List oV) : oMk 18 as = (0, 0) := by cases as <;> rfl
theorem mk_19 (as : List oV) : oMk 19 as = (0, 0) := by cases as <;> rfl
theorem mk_20 (as : List oV) : oMk 20 as = (0, 0) := by cases as <;> rfl
theorem mk_21 (as : List oV) : oMk 21 as = (0, 0) := by cases as <;> rfl
theorem mk_22 (as : List oV) : oMk 22 as = (0, 0) := by cases as <;> rfl
theorem mk_23 (as : List oV) : oMk 23 as = (0, 0) := by cases as <;> rfl
theorem mk_24 (as : List oV) : oMk 24 as = (0, 0) := by cases as <;> rfl
theorem mk_25 (as : List oV) : oMk 25 as = (0, 0) := by cases as <;> rfl
theorem mk_26 (as : List oV) : oMk 26 as = (0, 0) := by cases as <;> rfl
theorem mk_27 (as : List oV) : oMk 27 as = (0, 0) := by cases as <;> rfl
theorem mk_28 (as : List oV) : oMk 28 as = (0, 0) := by cases as <;> rfl
theorem mk_29 (as : List oV) : oMk 29 as = (0, 0) := by cases as <;> rfl
theorem mk_30 (as : List oV) : oMk 30 as = (0, 0) := by cases as <;> rfl
theorem mk_31 (as : List oV) : oMk 31 as = (0, 0) := by cases as <;> rfl
theorem mk_32 (as : List oV) : oMk 32 as = (0, 0) := by cases as <;> rfl
theorem mk_33 (as : List oV) : oMk 33 as = (0, 0) := by cases as <;> rfl
theorem mk_34 (as : List oV) : oMk 34 as = (0, 0) := by cases as <;> rfl
theorem mk_35 (as : List oV) : oMk 35 as = (0, 0) := by cases as <;> rfl
theorem mk_36 (as : List oV) : oMk 36 as = (0, 0) := by cases as <;> rfl
theorem mk_37 (as : List oV) : oMk 37 as = (0, 0) := by cases as <;> rfl
theorem mk_38 (as : List oV) : oMk 38 as = (0, 0) := by cases as <;> rfl
theorem mk_39 (as : List oV) : oMk 39 as = (0, 0) := by cases as <;> rfl
theorem mk_40 (as : List oV) : oMk 40 as = (0, 0) := by cases as <;> rfl
theorem mk_41 (as : List oV) : oMk 41 as = (0, 0) := by cases as <;> rfl
theorem mk_42 (as : List oV) : oMk 42 as = (0, 0) := by cases as <;> rfl
theorem mk_43 (as : List oV) : oMk 43 as = (0, 0) := by cases as <;> rfl
theorem mk_44 (as : List oV) : oMk 44 as = (0, 0) := by cases as <;> rfl
theorem mk_45 (as : List oV) : oMk 45 as = (0, 0) := by cases as <;> rfl
theorem mk_46 (as : List oV) : oMk 46 as = (0, 0) := by cases as <;> rfl
theorem mk_47 (as : List oV) : oMk 47 as = (0, 0) := by cases as <;> rfl
theorem mk_48 (as : List oV) : oMk 48 as = (0, 0) := by cases as <;> rfl
theorem mk_49 (as : List oV) : oMk 49 as = (0, 0) := by cases as <;> rfl
theorem mk_50 (as : List oV) : oMk 50 as = (0, 0) := by cases as <;> rfl
theorem mk_51 (as : List oV) : oMk 51 as = (0, 0) := by cases as <;> rfl
theorem mk_52 (as : List oV) : oMk 52 as = (0, 0) := by cases as <;> rfl
theorem mk_53 (as : List oV) : oMk 53 as = (0, 0) := by cases as <;> rfl
theorem mk_54 (as : List oV) : oMk 54 as = (0, 0) := by cases as <;> rfl
theorem mk_55 (as : List oV) : oMk 55 as = (0, 0) := by cases as <;> rfl
theorem mk_56 (as : List oV) : oMk 56 as = (0, 0) := by cases as <;> rfl
theorem mk_57 (as : List oV) : oMk 57 as = (0, 0) := by cases as <;> rfl
theorem mk_58 (as : List oV) : oMk 58 as = (0, 0) := by cases as <;> rfl
theorem mk_59 (as : List oV) : oMk 59 as = (0, 0) := by cases as <;> rfl
theorem mk_60 (as : List oV) : oMk 60 as = (0, 0) := by cases as <;> rfl
theorem mk_61 (as : List oV) : oMk 61 as = (0, 0) := by cases as <;> rfl
theorem mk_62 (as : List oV) : oMk 62 as = (0, 0) := by cases as <;> rfl
theorem mk_63 (as : List oV) : oMk 63 as = (0, 0) := by cases as <;> rfl
theorem mk_64 (as : List oV) : oMk 64 as = (0, 0) := by cases as <;> rfl
theorem mk_65 (as : List oV) : oMk 65 as = (0, 0) := by cases as <;> rfl
theorem mk_66 (as : List oV) : oMk 66 as = (0, 0) := by cases as <;> rfl
theorem mk_67 (as : List oV) : oMk 67 as = (0, 0) := by cases as <;> rfl
theorem mk_68 (as : List oV) : oMk 68 as = (0, 0) := by cases as <;> rfl
theorem mk_69 (as : List oV) : oMk 69 as = (0, 0) := by cases as <;> rfl
theorem mk_70 (as : List oV) : oMk 70 as = (0, 0) := by cases as <;> rfl
theorem mk_71 (as : List oV) : oMk 71 as = (0, 0) := by cases as <;> rfl
theorem mk_72 (as : List oV) : oMk 72 as = (0, 0) := by cases as <;> rfl
theorem mk_73 (as : List oV) : oMk 73 as = (0, 0) := by cases as <;> rfl
theorem mk_74 (as : List oV) : oMk 74 as = (0, 0) := by cases as <;> rfl
theorem mk_75 (as : List oV) : oMk 75 as = (0, 0) := by cases as <;> rfl
theorem mk_76 (as : List oV) : oMk 76 as = (0, 0) := by cases as <;> rfl
theorem mk_77 (as : List oV) : oMk 77 as = (0, 0) := by cases as <;> rfl
theorem mk_78 (as : List oV) : oMk 78 as = (0, 0) := by cases as <;> rfl
theorem mk_79 (as : List oV) : oMk 79 as = (0, 0) := by cases as <;> rfl
theorem mk_80 (as : List oV) : oMk 80 as = (0, 0) := by cases as <;> rfl
theorem mk_81 (as : List oV) : oMk 81 as = (0, 0) := by cases as <;> rfl
theorem mk_82 (as : List oV) : oMk 82 as = (0, 0) := by cases as <;> rfl
theorem mk_83 (as : List oV) : oMk 83 as = (0, 0) := by cases as <;> rfl
theorem mk_84 (as : List oV) : oMk 84 as = (0, 0) := by cases as <;> rfl
theorem mk_85 (as : List oV) : oMk 85 as = (0, 0) := by cases as <;> rfl
theorem mk_86 (as : List oV) : oMk 86 as = (0, 0) := by cases as <;> rfl
theorem mk_87 (as : List oV) : oMk 87 as = (0, 0) := by cases as <;> rfl
theorem mk_88 (as : List oV) : oMk 88 as = (0, 0) := by cases as <;> rfl
theorem mk_89 (as : List oV) : oMk 89 as = (0, 0) := by cases as <;> rfl
theorem mk_90 (as : List oV) : oMk 90 as = (0, 0) := by cases as <;> rfl
theorem mk_91 (as : List oV) : oMk 91 as = (0, 0) := by cases as <;> rfl
theorem mk_92 (as : List oV) : oMk 92 as = (0, 0) := by cases as <;> rfl
theorem mk_93 (as : List oV) : oMk 93 as = (0, 0) := by cases as <;> rfl
theorem mk_94 (as : List oV) : oMk 94 as = (0, 0) := by cases as <;> rfl
theorem mk_95 (as : List oV) : oMk 95 as = (0, 0) := by cases as <;> rfl
theorem mk_96 (as : List oV) : oMk 96 as = (0, 0) := by cases as <;> rfl
theorem mk_97 (as : List oV) : oMk 97 as = (0, 0) := by cases as <;> rfl
theorem mk_98 (as : List oV) : oMk 98 as = (0, 0) := by cases as <;> rfl
theorem mk_99 (as : List oV) : oMk 99 as = (0, 0) := by cases as <;> rfl
theorem mk_100 (as : List oV) : oMk 100 as = (0, 0) := by cases as <;> rfl
theorem mk_101 (as : List oV) : oMk 101 as = (0, 0) := by cases as <;> rfl
theorem mk_102 (as : List oV) : oMk 102 as = (0, 0) := by cases as <;> rfl
theorem mk_103 (as : List oV) : oMk 103 as = (0, 0) := by cases as <;> rfl
theorem mk_104 (as : List oV) : oMk 104 as = (0, 0) := by cases as <;> rfl
theorem mk_105 (as : List oV) : oMk 105 as = (0, 0) := by cases as <;> rfl
theorem mk_106 (as : List oV) : oMk 106 as = (0, 0) := by cases as <;> rfl
theorem mk_107 (as : List oV) : oMk 107 as = (0, 0) := by cases as <;> rfl
theorem mk_108 (as : List oV) : oMk 108 as = (0, 0) := by cases as <;> rfl
theorem mk_109 (as : List oV) : oMk 109 as = (0, 0) := by cases as <;> rfl
theorem mk_110 (as : List oV) : oMk 110 as = (0, 0) := by cases as <;> rfl
theorem mk_111 (as : List oV) : oMk 111 as = (0, 0) := by cases as <;> rfl
theorem mk_112 (as : List oV) : oMk 112 as = (0, 0) := by cases as <;> rfl
theorem mk_113 (as : List oV) : oMk 113 as = (0, 0) := by cases as <;> rfl
theorem mk_114 (as : List oV) : oMk 114 as = (0, 0) := by cases as <;> rfl
theorem mk_115 (as : List oV) : oMk 115 as = (0, 0) := by cases as <;> rfl
theorem mk_116 (as : List oV) : oMk 116 as = (0, 0) := by cases as <;> rfl
theorem mk_117 (as : List oV) : oMk 117 as = (0, 0) := by cases as <;> rfl
theorem mk_118 (as : List oV) : oMk 118 as = (0, 0) := by cases as <;> rfl
theorem mk_119 (as : List oV) : oMk 119 as = (0, 0) := by cases as <;> rfl
theorem mk_120 (as : List oV) : oMk 120 as = (0, 0) := by cases as <;> rfl
theorem mk_121 (as : List oV) : oMk 121 as = (0, 0) := by cases as <;> rfl
theorem mk_122 (as : List oV) : oMk 122 as = (0, 0) := by cases as <;> rfl
theorem mk_123 (as : List oV) : oMk 123 as = (0, 0) := by cases as <;> rfl
theorem mk_124 (as : List oV) : oMk 124 as = (0, 0) := by cases as <;> rfl
theorem mk_125 (as : List oV) : oMk 125 as = (0, 0) := by cases as <;> rfl
theorem mk_126 (as : List oV) : oMk 126 as = (0, 0) := by cases as <;> rfl
theorem mk_127 (as : List oV) : oMk 127 as = (0, 0) := by cases as <;> rfl
theorem mk_128 (as : List oV) : oMk 128 as = (0, 0) := by cases as <;> rfl
theorem mk_129 (as : List oV) : oMk 129 as = (0, 0) := by cases as <;> rfl
theorem mk_130 (as : List oV) : oMk 130 as = (0, 0) := by cases as <;> rfl
theorem mk_131 (as : List oV) : oMk 131 as = (0, 0) := by cases as <;> rfl
theorem mk_132 (as : List oV) : oMk 132 as = (0, 0) := by cases as <;> rfl
theorem mk_133 (as : List oV) : oMk 133 as = (0, 0) := by cases as <;> rfl
theorem mk_134 (as : List oV) : oMk 134 as = (0, 0) := by cases as <;> rfl
theorem mk_135 (as : List oV) : oMk 135 as = (0, 0) := by cases as <;> rfl
theorem mk_136 (as : List oV) : oMk 136 as = (0, 0) := by cases as <;> rfl
theorem mk_137 (as : List oV) : oMk 137 as = (0, 0) := by cases as <;> rfl
theorem mk_138 (as : List oV) : oMk 138 as = (0, 0) := by cases as <;> rfl
theorem mk_139 (as : List oV) : oMk 139 as = (0, 0) := by cases as <;> rfl
theorem mk_140 (as : List oV) : oMk 140 as = (0, 0) := by cases as <;> rfl
theorem mk_142 (as : List oV) : oMk 142 as = (0, 0) := by cases as <;> rfl
theorem mk_143 (as : List oV) : oMk 143 as = (0, 0) := by cases as <;> rfl
theorem mk_144 (as : List oV) : oMk 144 as = (0, 0) := by cases as <;> rfl
theorem mk_145 (as : List oV) : oMk 145 as = (0, 0) := by cases as <;> rfl
theorem mk_146 (as : List oV) : oMk 146 as = (0, 0) := by cases as <;> rfl
theorem mk_147 (as : List oV) : oMk 147 as = (0, 0) := by cases as <;> rfl
theorem mk_148 (as : List oV) : oMk 148 as = (0, 0) := by cases as <;> rfl
theorem mk_149 (as : List oV) : oMk 149 as = (0, 0) := by cases as <;> rfl
theorem mk_150 (as : List oV) : oMk 150 as = (0, 0) := by cases as <;> rfl
theorem mk_151 (as : List oV) : oMk 151 as = (0, 0) := by cases as <;> rfl
theorem mk_152 (as : List oV) : oMk 152 as = (0, 0) := by cases as <;> rfl
theorem mk_153 (as : List oV) : oMk 153 as = (0, 0) := by cases as <;> rfl
theorem mk_154 (as : List oV) : oMk 154 as = (0, 0) := by cases as <;> rfl
theorem mk_155 (as : List oV) : oMk 155 as = (0, 0) := by cases as <;> rfl
theorem mk_156 (as : List oV) : oMk 156 as = (0, 0) := by cases as <;> rfl
theorem mk_157 (as : List oV) : oMk 157 as = (0, 0) := by cases as <;> rfl
theorem mk_158 (as : List oV) : oMk 158 as = (0, 0) := by cases as <;> rfl
theorem mk_159 (as : List oV) : oMk 159 as = (0, 0) := by cases as <;> rfl
theorem mk_160 (as : List oV) : oMk 160 as = (0, 0) := by cases as <;> rfl
theorem mk_161 (as : List oV) : oMk 161 as = (0, 0) := by cases as <;> rfl
theorem mk_162 (as : List oV) : oMk 162 as = (0, 0) := by cases as <;> rfl
theorem mk_163 (as : List oV) : oMk 163 as = (0, 0) := by cases as <;> rfl
theorem mk_164 (as : List oV) : oMk 164 as = (0, 0) := by cases as <;> rfl
theorem mk_165 (as : List oV) : oMk 165 as = (0, 0) := by cases as <;> rfl
theorem mk_166 (as : List oV) : oMk 166 as = (0, 0) := by cases as <;> rfl
theorem mk_167 (as : List oV) : oMk 167 as = (0, 0) := by cases as <;> rfl
theorem mk_168 (as : List oV) : oMk 168 as = (0, 0) := by cases as <;> rfl
theorem mk_169 (as : List oV) : oMk 169 as = (0, 0) := by cases as <;> rfl
theorem mk_170 (as : List oV) : oMk 170 as = (0, 0) := by cases as <;> rfl
theorem mk_171 (as : List oV) : oMk 171 as = (0, 0) := by cases as <;> rfl
theorem mk_172 (as : List oV) : oMk 172 as = (0, 0) := by cases as <;> rfl
theorem mk_173 (as : List oV) : oMk 173 as = (0, 0) := by cases as <;> rfl
theorem mk_174 (as : List oV) : oMk 174 as = (0, 0) := by cases as <;> rfl
theorem mk_175 (as : List oV) : oMk 175 as = (0, 0) := by cases as <;> rfl
theorem mk_176 (as : List oV) : oMk 176 as = (0, 0) := by cases as <;> rfl
theorem mk_177 (as : List oV) : oMk 177 as = (0, 0) := by cases as <;> rfl
theorem mk_178 (as : List oV) : oMk 178 as = (0, 0) := by cases as <;> rfl
theorem mk_179 (as : List oV) : oMk 179 as = (0, 0) := by cases as <;> rfl
theorem mk_180 (as : List oV) : oMk 180 as = (0, 0) := by cases as <;> rfl
theorem mk_181 (as : List oV) : oMk 181 as = (0, 0) := by cases as <;> rfl
theorem mk_182 (as : List oV) : oMk 182 as = (0, 0) := by cases as <;> rfl
theorem mk_183 (as : List oV) : oMk 183 as = (0, 0) := by cases as <;> rfl
theorem mk_184 (as : List oV) : oMk 184 as = (0, 0) := by cases as <;> rfl
theorem mk_185 (as : List oV) : oMk 185 as = (0, 0) := by cases as <;> rfl
theorem mk_186 (as : List oV) : oMk 186 as = (0, 0) := by cases as <;> rfl
theorem mk_187 (as : List oV) : oMk 187 as = (0, 0) := by cases as <;> rfl
theorem mk_188 (as : List oV) : oMk 188 as = (0, 0) := by cases as <;> rfl
theorem mk_189 (as : List oV) : oMk 189 as = (0, 0) := by cases as <;> rfl
theorem mk_190 (as : List oV) : oMk 190 as = (0, 0) := by cases as <;> rfl
theorem mk_191 (as : List oV) : oMk 191 as = (0, 0) := by cases as <;> rfl
theorem mk_192 (as : List oV) : oMk 192 as = (0, 0) := by cases as <;> rfl
theorem mk_193 (as : List oV) : oMk 193 as = (0, 0) := by cases as <;> rfl
theorem mk_194 (as : List oV) : oMk 194 as = (0, 0) := by cases as <;> rfl
theorem mk_195 (as : List oV) : oMk 195 as = (0, 0) := by cases as <;> rfl
theorem mk_196 (as : List oV) : oMk 196 as = (0, 0) := by cases as <;> rfl
theorem mk_197 (as : List oV) : oMk 197 as = (0, 0) := by cases as <;> rfl
theorem mk_198 (as : List oV) : oMk 198 as = (0, 0) := by cases as <;> rfl
theorem mk_199 (as : List oV) : oMk 199 as = (0, 0) := by cases as <;> rfl
theorem mk_200 (as : List oV) : oMk 200 as = (0, 0) := by cases as <;> rfl
theorem mk_201 (as : List oV) : oMk 201 as = (0, 0) := by cases as <;> rfl
theorem mk_202 (as : List oV) : oMk 202 as = (0, 0) := by cases as <;> rfl
theorem mk_203 (as : List oV) : oMk 203 as = (0, 0) := by cases as <;> rfl
theorem mk_204 (as : List oV) : oMk 204 as = (0, 0) := by cases as <;> rfl
theorem mk_205 (as : List oV) : oMk 205 as = (0, 0) := by cases as <;> rfl
theorem mk_206 (as : List oV) : oMk 206 as = (0, 0) := by cases as <;> rfl
theorem mk_207 (as : List oV) : oMk 207 as = (0, 0) := by cases as <;> rfl
theorem mk_208 (as : List oV) : oMk 208 as = (0, 0) := by cases as <;> rfl
theorem mk_209 (as : List oV) : oMk 209 as = (0, 0) := by cases as <;> rfl
theorem mk_210 (as : List oV) : oMk 210 as = (0, 0) := by cases as <;> rfl
theorem mk_211 (as : List oV) : oMk 211 as = (0, 0) := by cases as <;> rfl
theorem mk_212 (as : List oV) : oMk 212 as = (0, 0) := by cases as <;> rfl
theorem mk_213 (as : List oV) : oMk 213 as = (0, 0) := by cases as <;> rfl
theorem mk_214 (as : List oV) : oMk 214 as = (0, 0) := by cases as <;> rfl
theorem mk_215 (as : List oV) : oMk 215 as = (0, 0) := by cases as <;> rfl
theorem mk_216 (as : List oV) : oMk 216 as = (0, 0) := by cases as <;> rfl
theorem mk_217 (as : List oV) : oMk 217 as = (0, 0) := by cases as <;> rfl
theorem mk_218 (as : List oV) : oMk 218 as = (0, 0) := by cases as <;> rfl
theorem mk_219 (as : List oV) : oMk 219 as = (0, 0) := by cases as <;> rfl
theorem mk_220 (as : List oV) : oMk 220 as = (0, 0) := by cases as <;> rfl
theorem mk_221 (as : List oV) : oMk 221 as = (0, 0) := by cases as <;> rfl
theorem mk_222 (as : List oV) : oMk 222 as = (0, 0) := by cases as <;> rfl
theorem mk_223 (as : List oV) : oMk 223 as = (0, 0) := by cases as <;> rfl
theorem mk_224 (as : List oV) : oMk 224 as = (0, 0) := by cases as <;> rfl
theorem mk_225 (as : List oV) : oMk 225 as = (0, 0) := by cases as <;> rfl
def oB (p : Prop) [Decidable p] : Int := if p then 1 else 0
theorem oCat_le (v : oV) : oCat v ≤ 2 := by
  unfold oCat
  split <;> decide
theorem oSm0 : oSmall [] = true := by decide
theorem oSm1 {a : oV} : oSmall [a] = true := decide_eq_true (by have := oCat_le a; simp; omega)
theorem oSm2 {a b : oV} : oSmall [a, b] = true := decide_eq_true (by have := oCat_le a; have := oCat_le b; simp; omega)
theorem oSm3 {a b c : oV} : oSmall [a, b, c] = true := decide_eq_true (by have := oCat_le a; have := oCat_le b; have := oCat_le c; simp; omega)
theorem oSm4 {a b c e : oV} : oSmall [a, b, c, e] = true := decide_eq_true (by have := oCat_le a; have := oCat_le b; have := oCat_le c; have := oCat_le e; simp; omega)
theorem oB_t {p : Prop} [Decidable p] (h : p) : oB p = 1 := if_pos h
theorem oB_f {p : Prop} [Decidable p] (h : ¬ p) : oB p = 0 := if_neg h
theorem oB_eq0 (p : Prop) [Decidable p] : (oB p = 0) = ¬ p := by
  unfold oB
  by_cases h : p <;> simp [h]
theorem oB_eq1 (p : Prop) [Decidable p] : (oB p = 1) = p := by
  unfold oB
  by_cases h : p <;> simp [h]
theorem oB_01 (p : Prop) [Decidable p] : oB p = 0 ∨ oB p = 1 := by
  unfold oB
  by_cases h : p <;> simp [h]
theorem oB_congr {p q : Prop} [Decidable p] [Decidable q] (h : p ↔ q) : oB p = oB q := by
  unfold oB
  by_cases hp : p
  · rw [if_pos hp, if_pos (h.mp hp)]
  · rw [if_neg hp, if_neg (fun z => hp (h.mpr z))]
theorem oB_nn (p : Prop) [Decidable p] : 0 ≤ oB p ∧ oB p ≤ 1 := by
  rcases oB_01 p with h | h <;> rw [h] <;> decide
theorem oEnd_i {x z : Int} {σ : oSg} (h : x = z) : oEnd (some (.inl z)) σ (some (.inl x)) (oBld σ) := ⟨by rw [h], rfl⟩
theorem oEnd_j {x z : Int} {σ : oSg} (h : x = z) : oEnd (some (.inr (.inl z))) σ (some (.inr (.inl x))) (oBld σ) := ⟨by rw [h], rfl⟩
theorem oEnd_r {x z : Nat} {σ : oSg} (h : x = z) : oEnd (some (.inr (.inr (.inl z)))) σ (some (.inr (.inr (.inl x)))) (oBld σ) := ⟨by rw [h], rfl⟩
theorem oEnd_v {σ : oSg} : oEnd none σ none (oBld σ) := ⟨rfl, rfl⟩
theorem oEnd_is {x z : Int} {σ τ : oSg} (h : x = z) (hs : τ = σ) : oEnd (some (.inl z)) σ (some (.inl x)) (oBld τ) := ⟨by rw [h], by rw [hs]⟩
theorem oEnd_vs {σ τ : oSg} (hs : τ = σ) : oEnd none σ none (oBld τ) := ⟨rfl, by rw [hs]⟩
theorem oTL_some (w : oV) (S : List oV) : (some w).toList ++ S = w :: S := rfl
theorem oTL_none (S : List oV) : (none : Option oV).toList ++ S = S := rfl
/-- a loop whose states are told by its counter -/
theorem oLoop {d z head : Nat} {Ls : Nat → List oV} {τ : Nat → oSg} {Q : Option oV → (Nat → oC) → Prop} {n : Nat} {X : Prop} (hend : oE d z head (Ls n) [] (τ n) Q = X) (hstep : ∀ q, q < n → oE d z head (Ls q) [] (τ q) Q = oE d z head (Ls (q + 1)) [] (τ (q + 1)) Q) : ∀ q, q ≤ n → oE d z head (Ls q) [] (τ q) Q = X := by
  intro q hq
  obtain ⟨m, hm⟩ : ∃ m, q + m = n := ⟨n - q, by omega⟩
  induction m generalizing q with
  | zero =>
    have : q = n := by omega
    subst this
    exact hend
  | succ m ih => rw [hstep q (by omega)]; exact ih (q + 1) (by omega) (by omega)
/-- .. with a local that the body leaves behind -/
theorem oLoopG {d z head : Nat} {Ls : Nat → oV → List oV} {τ : Nat → oSg} {Q : Option oV → (Nat → oC) → Prop} {n : Nat} {X : Prop} (hend : ∀ g, oCat g = 1 → oE d z head (Ls n g) [] (τ n) Q = X) (hstep : ∀ q g, q < n → oCat g = 1 → ∃ g', oCat g' = 1 ∧ oE d z head (Ls q g) [] (τ q) Q = oE d z head (Ls (q + 1) g') [] (τ (q + 1)) Q) : ∀ q g, q ≤ n → oCat g = 1 → oE d z head (Ls q g) [] (τ q) Q = X := by
  intro q g hq hg
  obtain ⟨m, hm⟩ : ∃ m, q + m = n := ⟨n - q, by omega⟩
  induction m generalizing q g with
  | zero =>
    have : q = n := by omega
    subst this
    exact hend g hg
  | succ m ih =>
    obtain ⟨g', hg', e⟩ := hstep q g (by omega) hg
    rw [e]
    exact ih (q + 1) g' (by omega) hg' (by omega)
theorem oLoopG2 {d z head : Nat} {Ls : Nat → oV → oV → List oV} {τ : Nat → oSg} {Q : Option oV → (Nat → oC) → Prop} {n : Nat} {X : Prop} (hend : ∀ g e, oCat g = 1 → oCat e = 1 → oE d z head (Ls n g e) [] (τ n) Q = X) (hstep : ∀ q g e, q < n → oCat g = 1 → oCat e = 1 → ∃ g' e', oCat g' = 1 ∧ oCat e' = 1 ∧ oE d z head (Ls q g e) [] (τ q) Q = oE d z head (Ls (q + 1) g' e') [] (τ (q + 1)) Q) : ∀ q g e, q ≤ n → oCat g = 1 → oCat e = 1 → oE d z head (Ls q g e) [] (τ q) Q = X := by
  intro q g e hq hg he
  obtain ⟨m, hm⟩ : ∃ m, q + m = n := ⟨n - q, by omega⟩
  induction m generalizing q g e with
  | zero =>
    have : q = n := by omega
    subst this
    exact hend g e hg he
  | succ m ih =>
    obtain ⟨g', e', hg', he', h⟩ := hstep q g e (by omega) hg he
    rw [h]
    exact ih (q + 1) g' e' (by omega) hg' he' (by omega)
/-! numbers -/
theorem nBm {x : Int} {y : Nat} (hy : y = 4294967296) (h1 : -2147483648 ≤ x) (h2 : x < 2147483648) : x.bmod y = x := by
  subst hy
  exact Int.bmod_eq_of_le_mul_two (by omega) (by omega)
theorem nAdd {x y : Int} (h1 : -2147483648 ≤ x + y) (h2 : x + y < 2147483648) : oAdd x y = x + y := by
  unfold oAdd
  rw [Int32.toInt_add, Int32.toInt_ofInt, Int32.toInt_ofInt, Int.bmod_add_bmod, Int.add_bmod_bmod]
  exact nBm rfl (by omega) (by omega)
theorem nSub {x y : Int} (h1 : -2147483648 ≤ x - y) (h2 : x - y < 2147483648) : oSub x y = x - y := by
  unfold oSub
  rw [Int32.toInt_sub, Int32.toInt_ofInt, Int32.toInt_ofInt, Int.bmod_sub_bmod, Int.sub_bmod_bmod]
  exact nBm rfl (by omega) (by omega)
theorem nMul {x y : Int} (h1 : -2147483648 ≤ x * y) (h2 : x * y < 2147483648) : oMul x y = x * y := by
  unfold oMul
  rw [Int32.toInt_mul, Int32.toInt_ofInt, Int32.toInt_ofInt, Int.bmod_mul_bmod, Int.mul_bmod_bmod]
  exact nBm rfl (by omega) (by omega)
theorem nNeg {x : Int} (h1 : -2147483648 < x) (h2 : x < 2147483648) : oNeg x = -x := by
  unfold oNeg
  rw [Int32.toInt_neg, Int32.toInt_ofInt_of_le (by omega) (by omega)]
  exact nBm rfl (by omega) (by omega)

