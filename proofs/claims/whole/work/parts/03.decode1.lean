theorem dX9_spendDay_62 : decode cX9_spendDay 62 = .ok (.invokestatic 89, 3) := by decide +kernel
theorem dX9_spendDay_65 : decode cX9_spendDay 65 = .ok (.istore 5, 2) := by decide +kernel
theorem dX9_spendDay_67 : decode cX9_spendDay 67 = .ok (.iload 5, 2) := by decide +kernel
theorem dX9_spendDay_69 : decode cX9_spendDay 69 = .ok (.bipush 24, 2) := by decide +kernel
theorem dX9_spendDay_71 : decode cX9_spendDay 71 = .ok (.if_icmp .ge 50, 3) := by decide +kernel
theorem dX9_spendDay_74 : decode cX9_spendDay 74 = .ok (.iload 4, 2) := by decide +kernel
theorem dX9_spendDay_76 : decode cX9_spendDay 76 = .ok (.ifCond .le 45, 3) := by decide +kernel
theorem dX9_spendDay_79 : decode cX9_spendDay 79 = .ok (.iload_n 3, 1) := by decide +kernel
theorem dX9_spendDay_80 : decode cX9_spendDay 80 = .ok (.ifCond .le 41, 3) := by decide +kernel
theorem dX9_spendDay_83 : decode cX9_spendDay 83 = .ok (.aload_n 0, 1) := by decide +kernel
theorem dX9_spendDay_84 : decode cX9_spendDay 84 = .ok (.iload 5, 2) := by decide +kernel
theorem dX9_spendDay_86 : decode cX9_spendDay 86 = .ok (.iload 4, 2) := by decide +kernel
theorem dX9_spendDay_88 : decode cX9_spendDay 88 = .ok (.aload_n 0, 1) := by decide +kernel
theorem dX9_spendDay_89 : decode cX9_spendDay 89 = .ok (.getfield 15, 3) := by decide +kernel
theorem dX9_spendDay_92 : decode cX9_spendDay 92 = .ok (.iload_n 1, 1) := by decide +kernel
theorem dX9_spendDay_93 : decode cX9_spendDay 93 = .ok (.iaload, 1) := by decide +kernel
theorem dX9_spendDay_94 : decode cX9_spendDay 94 = .ok (.invokestatic 93, 3) := by decide +kernel
theorem dX9_spendDay_97 : decode cX9_spendDay 97 = .ok (.aload_n 2, 1) := by decide +kernel
theorem dX9_spendDay_98 : decode cX9_spendDay 98 = .ok (.invokevirtual 98, 3) := by decide +kernel
theorem dX9_spendDay_101 : decode cX9_spendDay 101 = .ok (.istore 6, 2) := by decide +kernel
theorem dX9_spendDay_103 : decode cX9_spendDay 103 = .ok (.iload 4, 2) := by decide +kernel
theorem dX9_spendDay_105 : decode cX9_spendDay 105 = .ok (.iload 6, 2) := by decide +kernel
theorem dX9_spendDay_107 : decode cX9_spendDay 107 = .ok (.isub, 1) := by decide +kernel
theorem dX9_spendDay_108 : decode cX9_spendDay 108 = .ok (.istore 4, 2) := by decide +kernel
theorem dX9_spendDay_110 : decode cX9_spendDay 110 = .ok (.iload_n 3, 1) := by decide +kernel
theorem dX9_spendDay_111 : decode cX9_spendDay 111 = .ok (.iload 6, 2) := by decide +kernel
theorem dX9_spendDay_113 : decode cX9_spendDay 113 = .ok (.isub, 1) := by decide +kernel
theorem dX9_spendDay_114 : decode cX9_spendDay 114 = .ok (.istore_n 3, 1) := by decide +kernel
theorem dX9_spendDay_115 : decode cX9_spendDay 115 = .ok (.iinc 5 1, 3) := by decide +kernel
theorem dX9_spendDay_118 : decode cX9_spendDay 118 = .ok (.goto (-51), 3) := by decide +kernel
theorem dX9_spendDay_121 : decode cX9_spendDay 121 = .ok (.return_, 1) := by decide +kernel
theorem dX9_earliest_0 : decode cX9_earliest 0 = .ok (.bipush 24, 2) := by decide +kernel
theorem dX9_earliest_2 : decode cX9_earliest 2 = .ok (.istore_n 1, 1) := by decide +kernel
theorem dX9_earliest_3 : decode cX9_earliest 3 = .ok (.iconst 0, 1) := by decide +kernel
theorem dX9_earliest_4 : decode cX9_earliest 4 = .ok (.istore_n 2, 1) := by decide +kernel
theorem dX9_earliest_5 : decode cX9_earliest 5 = .ok (.iload_n 2, 1) := by decide +kernel
theorem dX9_earliest_6 : decode cX9_earliest 6 = .ok (.iconst 4, 1) := by decide +kernel
theorem dX9_earliest_7 : decode cX9_earliest 7 = .ok (.if_icmp .ge 23, 3) := by decide +kernel
theorem dX9_earliest_10 : decode cX9_earliest 10 = .ok (.iload_n 2, 1) := by decide +kernel
theorem dX9_earliest_11 : decode cX9_earliest 11 = .ok (.aload_n 0, 1) := by decide +kernel
theorem dX9_earliest_12 : decode cX9_earliest 12 = .ok (.arraylength, 1) := by decide +kernel
theorem dX9_earliest_13 : decode cX9_earliest 13 = .ok (.if_icmp .ge 17, 3) := by decide +kernel
theorem dX9_earliest_16 : decode cX9_earliest 16 = .ok (.iload_n 1, 1) := by decide +kernel
theorem dX9_earliest_17 : decode cX9_earliest 17 = .ok (.aload_n 0, 1) := by decide +kernel
theorem dX9_earliest_18 : decode cX9_earliest 18 = .ok (.iload_n 2, 1) := by decide +kernel
theorem dX9_earliest_19 : decode cX9_earliest 19 = .ok (.iaload, 1) := by decide +kernel
theorem dX9_earliest_20 : decode cX9_earliest 20 = .ok (.invokestatic 93, 3) := by decide +kernel
theorem dX9_earliest_23 : decode cX9_earliest 23 = .ok (.istore_n 1, 1) := by decide +kernel
theorem dX9_earliest_24 : decode cX9_earliest 24 = .ok (.iinc 2 1, 3) := by decide +kernel
theorem dX9_earliest_27 : decode cX9_earliest 27 = .ok (.goto (-22), 3) := by decide +kernel
theorem dX9_earliest_30 : decode cX9_earliest 30 = .ok (.iload_n 1, 1) := by decide +kernel
theorem dX9_earliest_31 : decode cX9_earliest 31 = .ok (.ireturn, 1) := by decide +kernel
theorem dX9_spendHour_0 : decode cX9_spendHour 0 = .ok (.iload_n 2, 1) := by decide +kernel
theorem dX9_spendHour_1 : decode cX9_spendHour 1 = .ok (.istore 4, 2) := by decide +kernel
theorem dX9_spendHour_3 : decode cX9_spendHour 3 = .ok (.iconst 0, 1) := by decide +kernel
theorem dX9_spendHour_4 : decode cX9_spendHour 4 = .ok (.istore 5, 2) := by decide +kernel
theorem dX9_spendHour_6 : decode cX9_spendHour 6 = .ok (.iload 5, 2) := by decide +kernel
theorem dX9_spendHour_8 : decode cX9_spendHour 8 = .ok (.aload_n 0, 1) := by decide +kernel
theorem dX9_spendHour_9 : decode cX9_spendHour 9 = .ok (.getfield 68, 3) := by decide +kernel
theorem dX9_spendHour_12 : decode cX9_spendHour 12 = .ok (.if_icmp .ge 89, 3) := by decide +kernel
theorem dX9_spendHour_15 : decode cX9_spendHour 15 = .ok (.aload_n 0, 1) := by decide +kernel
theorem dX9_spendHour_16 : decode cX9_spendHour 16 = .ok (.getfield 39, 3) := by decide +kernel
theorem dX9_spendHour_19 : decode cX9_spendHour 19 = .ok (.iload 5, 2) := by decide +kernel
theorem dX9_spendHour_21 : decode cX9_spendHour 21 = .ok (.iaload, 1) := by decide +kernel
theorem dX9_spendHour_22 : decode cX9_spendHour 22 = .ok (.ifCond .eq 73, 3) := by decide +kernel
theorem dX9_spendHour_25 : decode cX9_spendHour 25 = .ok (.aload_n 3, 1) := by decide +kernel
theorem dX9_spendHour_26 : decode cX9_spendHour 26 = .ok (.aload_n 0, 1) := by decide +kernel
theorem dX9_spendHour_27 : decode cX9_spendHour 27 = .ok (.getfield 33, 3) := by decide +kernel
theorem dX9_spendHour_30 : decode cX9_spendHour 30 = .ok (.iload 5, 2) := by decide +kernel
theorem dX9_spendHour_32 : decode cX9_spendHour 32 = .ok (.iaload, 1) := by decide +kernel
theorem dX9_spendHour_33 : decode cX9_spendHour 33 = .ok (.iaload, 1) := by decide +kernel
theorem dX9_spendHour_34 : decode cX9_spendHour 34 = .ok (.iload_n 1, 1) := by decide +kernel
theorem dX9_spendHour_35 : decode cX9_spendHour 35 = .ok (.if_icmp .le 6, 3) := by decide +kernel
theorem dX9_spendHour_38 : decode cX9_spendHour 38 = .ok (.goto 57, 3) := by decide +kernel
theorem dX9_spendHour_41 : decode cX9_spendHour 41 = .ok (.aload_n 0, 1) := by decide +kernel
theorem dX9_spendHour_42 : decode cX9_spendHour 42 = .ok (.getfield 39, 3) := by decide +kernel
theorem dX9_spendHour_45 : decode cX9_spendHour 45 = .ok (.iload 5, 2) := by decide +kernel
theorem dX9_spendHour_47 : decode cX9_spendHour 47 = .ok (.iaload, 1) := by decide +kernel
theorem dX9_spendHour_48 : decode cX9_spendHour 48 = .ok (.iload 4, 2) := by decide +kernel
theorem dX9_spendHour_50 : decode cX9_spendHour 50 = .ok (.invokestatic 93, 3) := by decide +kernel
theorem dX9_spendHour_53 : decode cX9_spendHour 53 = .ok (.istore 6, 2) := by decide +kernel
theorem dX9_spendHour_55 : decode cX9_spendHour 55 = .ok (.aload_n 0, 1) := by decide +kernel
theorem dX9_spendHour_56 : decode cX9_spendHour 56 = .ok (.getfield 39, 3) := by decide +kernel
theorem dX9_spendHour_59 : decode cX9_spendHour 59 = .ok (.iload 5, 2) := by decide +kernel
theorem dX9_spendHour_61 : decode cX9_spendHour 61 = .ok (.dup2, 1) := by decide +kernel
theorem dX9_spendHour_62 : decode cX9_spendHour 62 = .ok (.iaload, 1) := by decide +kernel
theorem dX9_spendHour_63 : decode cX9_spendHour 63 = .ok (.iload 6, 2) := by decide +kernel
theorem dX9_spendHour_65 : decode cX9_spendHour 65 = .ok (.isub, 1) := by decide +kernel
theorem dX9_spendHour_66 : decode cX9_spendHour 66 = .ok (.iastore, 1) := by decide +kernel
theorem dX9_spendHour_67 : decode cX9_spendHour 67 = .ok (.iload 4, 2) := by decide +kernel
theorem dX9_spendHour_69 : decode cX9_spendHour 69 = .ok (.iload 6, 2) := by decide +kernel
theorem dX9_spendHour_71 : decode cX9_spendHour 71 = .ok (.isub, 1) := by decide +kernel
theorem dX9_spendHour_72 : decode cX9_spendHour 72 = .ok (.istore 4, 2) := by decide +kernel
theorem dX9_spendHour_74 : decode cX9_spendHour 74 = .ok (.aload_n 0, 1) := by decide +kernel
theorem dX9_spendHour_75 : decode cX9_spendHour 75 = .ok (.getfield 39, 3) := by decide +kernel
theorem dX9_spendHour_78 : decode cX9_spendHour 78 = .ok (.iload 5, 2) := by decide +kernel
theorem dX9_spendHour_80 : decode cX9_spendHour 80 = .ok (.iaload, 1) := by decide +kernel
theorem dX9_spendHour_81 : decode cX9_spendHour 81 = .ok (.ifCond .le 6, 3) := by decide +kernel
theorem dX9_spendHour_84 : decode cX9_spendHour 84 = .ok (.goto 17, 3) := by decide +kernel
theorem dX9_spendHour_87 : decode cX9_spendHour 87 = .ok (.aload_n 0, 1) := by decide +kernel
theorem dX9_spendHour_88 : decode cX9_spendHour 88 = .ok (.getfield 42, 3) := by decide +kernel
theorem dX9_spendHour_91 : decode cX9_spendHour 91 = .ok (.iload 5, 2) := by decide +kernel
theorem dX9_spendHour_93 : decode cX9_spendHour 93 = .ok (.iload_n 1, 1) := by decide +kernel
theorem dX9_spendHour_94 : decode cX9_spendHour 94 = .ok (.iastore, 1) := by decide +kernel
theorem dX9_spendHour_95 : decode cX9_spendHour 95 = .ok (.iinc 5 1, 3) := by decide +kernel
theorem dX9_spendHour_98 : decode cX9_spendHour 98 = .ok (.goto (-92), 3) := by decide +kernel
theorem dX9_spendHour_101 : decode cX9_spendHour 101 = .ok (.iload_n 2, 1) := by decide +kernel
theorem dX9_spendHour_102 : decode cX9_spendHour 102 = .ok (.iload 4, 2) := by decide +kernel
theorem dX9_spendHour_104 : decode cX9_spendHour 104 = .ok (.isub, 1) := by decide +kernel
theorem dX9_spendHour_105 : decode cX9_spendHour 105 = .ok (.ireturn, 1) := by decide +kernel
theorem dX9_hourOf_0 : decode cX9_hourOf 0 = .ok (.aload_n 1, 1) := by decide +kernel
theorem dX9_hourOf_1 : decode cX9_hourOf 1 = .ok (.iload_n 2, 1) := by decide +kernel
theorem dX9_hourOf_2 : decode cX9_hourOf 2 = .ok (.iload_n 3, 1) := by decide +kernel
theorem dX9_hourOf_3 : decode cX9_hourOf 3 = .ok (.invokevirtual 83, 3) := by decide +kernel
theorem dX9_hourOf_6 : decode cX9_hourOf 6 = .ok (.ifCond .ne 14, 3) := by decide +kernel
theorem dX9_hourOf_9 : decode cX9_hourOf 9 = .ok (.aload_n 0, 1) := by decide +kernel
theorem dX9_hourOf_10 : decode cX9_hourOf 10 = .ok (.getfield 21, 3) := by decide +kernel
theorem dX9_hourOf_13 : decode cX9_hourOf 13 = .ok (.aload_n 1, 1) := by decide +kernel
theorem dX9_hourOf_14 : decode cX9_hourOf 14 = .ok (.iload_n 2, 1) := by decide +kernel
theorem dX9_hourOf_15 : decode cX9_hourOf 15 = .ok (.invokevirtual 86, 3) := by decide +kernel
theorem dX9_hourOf_18 : decode cX9_hourOf 18 = .ok (.iaload, 1) := by decide +kernel
theorem dX9_hourOf_19 : decode cX9_hourOf 19 = .ok (.ireturn, 1) := by decide +kernel
theorem dX9_hourOf_20 : decode cX9_hourOf 20 = .ok (.aload_n 0, 1) := by decide +kernel
theorem dX9_hourOf_21 : decode cX9_hourOf 21 = .ok (.aload_n 1, 1) := by decide +kernel
theorem dX9_hourOf_22 : decode cX9_hourOf 22 = .ok (.iload_n 2, 1) := by decide +kernel
theorem dX9_hourOf_23 : decode cX9_hourOf 23 = .ok (.invokevirtual 76, 3) := by decide +kernel
theorem dX9_hourOf_26 : decode cX9_hourOf 26 = .ok (.invokevirtual 80, 3) := by decide +kernel
theorem dX9_hourOf_29 : decode cX9_hourOf 29 = .ok (.istore 4, 2) := by decide +kernel
theorem dX9_hourOf_31 : decode cX9_hourOf 31 = .ok (.iload 4, 2) := by decide +kernel
theorem dX9_hourOf_33 : decode cX9_hourOf 33 = .ok (.bipush (-9), 2) := by decide +kernel
theorem dX9_hourOf_35 : decode cX9_hourOf 35 = .ok (.if_icmp .ne 6, 3) := by decide +kernel
theorem dX9_hourOf_38 : decode cX9_hourOf 38 = .ok (.bipush (-9), 2) := by decide +kernel
theorem dX9_hourOf_40 : decode cX9_hourOf 40 = .ok (.ireturn, 1) := by decide +kernel
theorem dX9_hourOf_41 : decode cX9_hourOf 41 = .ok (.aload_n 0, 1) := by decide +kernel
theorem dX9_hourOf_42 : decode cX9_hourOf 42 = .ok (.aload_n 1, 1) := by decide +kernel
theorem dX9_hourOf_43 : decode cX9_hourOf 43 = .ok (.iload 4, 2) := by decide +kernel
theorem dX9_hourOf_45 : decode cX9_hourOf 45 = .ok (.iload_n 3, 1) := by decide +kernel
theorem dX9_hourOf_46 : decode cX9_hourOf 46 = .ok (.invokevirtual 102, 3) := by decide +kernel
theorem dX9_hourOf_49 : decode cX9_hourOf 49 = .ok (.aload_n 0, 1) := by decide +kernel
theorem dX9_hourOf_50 : decode cX9_hourOf 50 = .ok (.iload 4, 2) := by decide +kernel
theorem dX9_hourOf_52 : decode cX9_hourOf 52 = .ok (.aload_n 0, 1) := by decide +kernel
theorem dX9_hourOf_53 : decode cX9_hourOf 53 = .ok (.getfield 21, 3) := by decide +kernel
theorem dX9_hourOf_56 : decode cX9_hourOf 56 = .ok (.invokevirtual 106, 3) := by decide +kernel
theorem dX9_hourOf_59 : decode cX9_hourOf 59 = .ok (.iconst 0, 1) := by decide +kernel
theorem dX9_hourOf_60 : decode cX9_hourOf 60 = .ok (.istore 5, 2) := by decide +kernel
theorem dX9_hourOf_62 : decode cX9_hourOf 62 = .ok (.iload 5, 2) := by decide +kernel
theorem dX9_hourOf_64 : decode cX9_hourOf 64 = .ok (.aload_n 0, 1) := by decide +kernel
theorem dX9_hourOf_65 : decode cX9_hourOf 65 = .ok (.getfield 68, 3) := by decide +kernel
theorem dX9_hourOf_68 : decode cX9_hourOf 68 = .ok (.if_icmp .ge 28, 3) := by decide +kernel
theorem dX9_hourOf_71 : decode cX9_hourOf 71 = .ok (.aload_n 0, 1) := by decide +kernel
theorem dX9_hourOf_72 : decode cX9_hourOf 72 = .ok (.getfield 30, 3) := by decide +kernel
theorem dX9_hourOf_75 : decode cX9_hourOf 75 = .ok (.iload 5, 2) := by decide +kernel
theorem dX9_hourOf_77 : decode cX9_hourOf 77 = .ok (.iaload, 1) := by decide +kernel
theorem dX9_hourOf_78 : decode cX9_hourOf 78 = .ok (.iload_n 2, 1) := by decide +kernel
theorem dX9_hourOf_79 : decode cX9_hourOf 79 = .ok (.if_icmp .ne 11, 3) := by decide +kernel
theorem dX9_hourOf_82 : decode cX9_hourOf 82 = .ok (.aload_n 0, 1) := by decide +kernel
theorem dX9_hourOf_83 : decode cX9_hourOf 83 = .ok (.getfield 42, 3) := by decide +kernel
theorem dX9_hourOf_86 : decode cX9_hourOf 86 = .ok (.iload 5, 2) := by decide +kernel
theorem dX9_hourOf_88 : decode cX9_hourOf 88 = .ok (.iaload, 1) := by decide +kernel
theorem dX9_hourOf_89 : decode cX9_hourOf 89 = .ok (.ireturn, 1) := by decide +kernel
theorem dX9_hourOf_90 : decode cX9_hourOf 90 = .ok (.iinc 5 1, 3) := by decide +kernel
theorem dX9_hourOf_93 : decode cX9_hourOf 93 = .ok (.goto (-31), 3) := by decide +kernel
theorem dX9_hourOf_96 : decode cX9_hourOf 96 = .ok (.bipush (-9), 2) := by decide +kernel
theorem dX9_hourOf_98 : decode cX9_hourOf 98 = .ok (.ireturn, 1) := by decide +kernel
theorem dX9_forgetBest_0 : decode cX9_forgetBest 0 = .ok (.aload_n 0, 1) := by decide +kernel
theorem dX9_forgetBest_1 : decode cX9_forgetBest 1 = .ok (.iconst 0, 1) := by decide +kernel
theorem dX9_forgetBest_2 : decode cX9_forgetBest 2 = .ok (.putfield 58, 3) := by decide +kernel
theorem dX9_forgetBest_5 : decode cX9_forgetBest 5 = .ok (.return_, 1) := by decide +kernel
theorem dX9_findBest_0 : decode cX9_findBest 0 = .ok (.aload_n 0, 1) := by decide +kernel
theorem dX9_findBest_1 : decode cX9_findBest 1 = .ok (.getfield 58, 3) := by decide +kernel
theorem dX9_findBest_4 : decode cX9_findBest 4 = .ok (.ifCond .eq 4, 3) := by decide +kernel
theorem dX9_findBest_7 : decode cX9_findBest 7 = .ok (.return_, 1) := by decide +kernel
theorem dX9_findBest_8 : decode cX9_findBest 8 = .ok (.aload_n 0, 1) := by decide +kernel
theorem dX9_findBest_9 : decode cX9_findBest 9 = .ok (.getfield 48, 3) := by decide +kernel
theorem dX9_findBest_12 : decode cX9_findBest 12 = .ok (.arraylength, 1) := by decide +kernel
theorem dX9_findBest_13 : decode cX9_findBest 13 = .ok (.ifCond .ne 21, 3) := by decide +kernel
theorem dX9_findBest_16 : decode cX9_findBest 16 = .ok (.aload_n 0, 1) := by decide +kernel
theorem dX9_findBest_17 : decode cX9_findBest 17 = .ok (.sipush 4096, 3) := by decide +kernel
theorem dX9_findBest_20 : decode cX9_findBest 20 = .ok (.newarray .int, 2) := by decide +kernel
theorem dX9_findBest_22 : decode cX9_findBest 22 = .ok (.putfield 48, 3) := by decide +kernel
theorem dX9_findBest_25 : decode cX9_findBest 25 = .ok (.aload_n 0, 1) := by decide +kernel
theorem dX9_findBest_26 : decode cX9_findBest 26 = .ok (.sipush 4096, 3) := by decide +kernel
theorem dX9_findBest_29 : decode cX9_findBest 29 = .ok (.newarray .int, 2) := by decide +kernel
theorem dX9_findBest_31 : decode cX9_findBest 31 = .ok (.putfield 51, 3) := by decide +kernel
theorem dX9_findBest_34 : decode cX9_findBest 34 = .ok (.aload_n 0, 1) := by decide +kernel
theorem dX9_findBest_35 : decode cX9_findBest 35 = .ok (.getfield 48, 3) := by decide +kernel
theorem dX9_findBest_38 : decode cX9_findBest 38 = .ok (.iconst 0, 1) := by decide +kernel
theorem dX9_findBest_39 : decode cX9_findBest 39 = .ok (.invokestatic 24, 3) := by decide +kernel
theorem dX9_findBest_42 : decode cX9_findBest 42 = .ok (.aload_n 0, 1) := by decide +kernel
theorem dX9_findBest_43 : decode cX9_findBest 43 = .ok (.aload_n 1, 1) := by decide +kernel
theorem dX9_findBest_44 : decode cX9_findBest 44 = .ok (.iload_n 2, 1) := by decide +kernel
theorem dX9_findBest_45 : decode cX9_findBest 45 = .ok (.invokevirtual 110, 3) := by decide +kernel
theorem dX9_findBest_48 : decode cX9_findBest 48 = .ok (.iconst 0, 1) := by decide +kernel
theorem dX9_findBest_49 : decode cX9_findBest 49 = .ok (.istore_n 3, 1) := by decide +kernel
theorem dX9_findBest_50 : decode cX9_findBest 50 = .ok (.iload_n 3, 1) := by decide +kernel
theorem dX9_findBest_51 : decode cX9_findBest 51 = .ok (.aload_n 0, 1) := by decide +kernel
theorem dX9_findBest_52 : decode cX9_findBest 52 = .ok (.getfield 54, 3) := by decide +kernel
theorem dX9_findBest_55 : decode cX9_findBest 55 = .ok (.if_icmp .ge 21, 3) := by decide +kernel
theorem dX9_findBest_58 : decode cX9_findBest 58 = .ok (.aload_n 0, 1) := by decide +kernel
theorem dX9_findBest_59 : decode cX9_findBest 59 = .ok (.aload_n 1, 1) := by decide +kernel
theorem dX9_findBest_60 : decode cX9_findBest 60 = .ok (.iload_n 3, 1) := by decide +kernel
theorem dX9_findBest_61 : decode cX9_findBest 61 = .ok (.iload_n 2, 1) := by decide +kernel
theorem dX9_findBest_62 : decode cX9_findBest 62 = .ok (.invokevirtual 102, 3) := by decide +kernel
theorem dX9_findBest_65 : decode cX9_findBest 65 = .ok (.aload_n 0, 1) := by decide +kernel
theorem dX9_findBest_66 : decode cX9_findBest 66 = .ok (.iload_n 3, 1) := by decide +kernel
theorem dX9_findBest_67 : decode cX9_findBest 67 = .ok (.invokevirtual 114, 3) := by decide +kernel
theorem dX9_findBest_70 : decode cX9_findBest 70 = .ok (.iinc 3 1, 3) := by decide +kernel
theorem dX9_findBest_73 : decode cX9_findBest 73 = .ok (.goto (-23), 3) := by decide +kernel
theorem dX9_findBest_76 : decode cX9_findBest 76 = .ok (.aload_n 0, 1) := by decide +kernel
theorem dX9_findBest_77 : decode cX9_findBest 77 = .ok (.iconst 0, 1) := by decide +kernel
theorem dX9_findBest_78 : decode cX9_findBest 78 = .ok (.putfield 118, 3) := by decide +kernel
theorem dX9_findBest_81 : decode cX9_findBest 81 = .ok (.iconst 1, 1) := by decide +kernel
theorem dX9_findBest_82 : decode cX9_findBest 82 = .ok (.istore_n 3, 1) := by decide +kernel
theorem dX9_findBest_83 : decode cX9_findBest 83 = .ok (.iload_n 3, 1) := by decide +kernel
theorem dX9_findBest_84 : decode cX9_findBest 84 = .ok (.sipush 4096, 3) := by decide +kernel
theorem dX9_findBest_87 : decode cX9_findBest 87 = .ok (.if_icmp .ge 32, 3) := by decide +kernel
theorem dX9_findBest_90 : decode cX9_findBest 90 = .ok (.aload_n 0, 1) := by decide +kernel
theorem dX9_findBest_91 : decode cX9_findBest 91 = .ok (.getfield 48, 3) := by decide +kernel
theorem dX9_findBest_94 : decode cX9_findBest 94 = .ok (.iload_n 3, 1) := by decide +kernel
theorem dX9_findBest_95 : decode cX9_findBest 95 = .ok (.iaload, 1) := by decide +kernel
theorem dX9_findBest_96 : decode cX9_findBest 96 = .ok (.aload_n 0, 1) := by decide +kernel
theorem dX9_findBest_97 : decode cX9_findBest 97 = .ok (.getfield 48, 3) := by decide +kernel
theorem dX9_findBest_100 : decode cX9_findBest 100 = .ok (.aload_n 0, 1) := by decide +kernel
theorem dX9_findBest_101 : decode cX9_findBest 101 = .ok (.getfield 118, 3) := by decide +kernel
theorem dX9_findBest_104 : decode cX9_findBest 104 = .ok (.iaload, 1) := by decide +kernel
theorem dX9_findBest_105 : decode cX9_findBest 105 = .ok (.if_icmp .ge 8, 3) := by decide +kernel
theorem dX9_findBest_108 : decode cX9_findBest 108 = .ok (.aload_n 0, 1) := by decide +kernel
theorem dX9_findBest_109 : decode cX9_findBest 109 = .ok (.iload_n 3, 1) := by decide +kernel
theorem dX9_findBest_110 : decode cX9_findBest 110 = .ok (.putfield 118, 3) := by decide +kernel
theorem dX9_findBest_113 : decode cX9_findBest 113 = .ok (.iinc 3 1, 3) := by decide +kernel
theorem dX9_findBest_116 : decode cX9_findBest 116 = .ok (.goto (-33), 3) := by decide +kernel
theorem dX9_findBest_119 : decode cX9_findBest 119 = .ok (.aload_n 0, 1) := by decide +kernel
theorem dX9_findBest_120 : decode cX9_findBest 120 = .ok (.iconst 1, 1) := by decide +kernel
theorem dX9_findBest_121 : decode cX9_findBest 121 = .ok (.putfield 58, 3) := by decide +kernel
theorem dX9_findBest_124 : decode cX9_findBest 124 = .ok (.return_, 1) := by decide +kernel
theorem dX9_shiftOf_0 : decode cX9_shiftOf 0 = .ok (.iconst 3, 1) := by decide +kernel
theorem dX9_shiftOf_1 : decode cX9_shiftOf 1 = .ok (.iconst 3, 1) := by decide +kernel
theorem dX9_shiftOf_2 : decode cX9_shiftOf 2 = .ok (.iload_n 0, 1) := by decide +kernel
theorem dX9_shiftOf_3 : decode cX9_shiftOf 3 = .ok (.isub, 1) := by decide +kernel
theorem dX9_shiftOf_4 : decode cX9_shiftOf 4 = .ok (.imul, 1) := by decide +kernel
theorem dX9_shiftOf_5 : decode cX9_shiftOf 5 = .ok (.ireturn, 1) := by decide +kernel
theorem dX9_beginIn_0 : decode cX9_beginIn 0 = .ok (.bipush 6, 2) := by decide +kernel
theorem dX9_beginIn_2 : decode cX9_beginIn 2 = .ok (.iload_n 0, 1) := by decide +kernel
theorem dX9_beginIn_3 : decode cX9_beginIn 3 = .ok (.iload_n 1, 1) := by decide +kernel
theorem dX9_beginIn_4 : decode cX9_beginIn 4 = .ok (.invokestatic 121, 3) := by decide +kernel
theorem dX9_beginIn_7 : decode cX9_beginIn 7 = .ok (.ishr, 1) := by decide +kernel
theorem dX9_beginIn_8 : decode cX9_beginIn 8 = .ok (.bipush 7, 2) := by decide +kernel
theorem dX9_beginIn_10 : decode cX9_beginIn 10 = .ok (.iand, 1) := by decide +kernel
theorem dX9_beginIn_11 : decode cX9_beginIn 11 = .ok (.iadd, 1) := by decide +kernel
theorem dX9_beginIn_12 : decode cX9_beginIn 12 = .ok (.ireturn, 1) := by decide +kernel
theorem dX9_addThoseWithoutLine_0 : decode cX9_addThoseWithoutLine 0 = .ok (.iconst 0, 1) := by decide +kernel
theorem dX9_addThoseWithoutLine_1 : decode cX9_addThoseWithoutLine 1 = .ok (.istore_n 3, 1) := by decide +kernel
theorem dX9_addThoseWithoutLine_2 : decode cX9_addThoseWithoutLine 2 = .ok (.iload_n 3, 1) := by decide +kernel
theorem dX9_addThoseWithoutLine_3 : decode cX9_addThoseWithoutLine 3 = .ok (.aload_n 1, 1) := by decide +kernel
theorem dX9_addThoseWithoutLine_4 : decode cX9_addThoseWithoutLine 4 = .ok (.getfield 71, 3) := by decide +kernel
theorem dX9_addThoseWithoutLine_7 : decode cX9_addThoseWithoutLine 7 = .ok (.if_icmp .ge 92, 3) := by decide +kernel
theorem dX9_addThoseWithoutLine_10 : decode cX9_addThoseWithoutLine 10 = .ok (.aload_n 1, 1) := by decide +kernel
theorem dX9_addThoseWithoutLine_11 : decode cX9_addThoseWithoutLine 11 = .ok (.iload_n 3, 1) := by decide +kernel
theorem dX9_addThoseWithoutLine_12 : decode cX9_addThoseWithoutLine 12 = .ok (.iload_n 2, 1) := by decide +kernel
theorem dX9_addThoseWithoutLine_13 : decode cX9_addThoseWithoutLine 13 = .ok (.invokevirtual 83, 3) := by decide +kernel
theorem dX9_addThoseWithoutLine_16 : decode cX9_addThoseWithoutLine 16 = .ok (.ifCond .le 7, 3) := by decide +kernel
theorem dX9_addThoseWithoutLine_19 : decode cX9_addThoseWithoutLine 19 = .ok (.iconst 1, 1) := by decide +kernel
theorem dX9_addThoseWithoutLine_20 : decode cX9_addThoseWithoutLine 20 = .ok (.goto 4, 3) := by decide +kernel
theorem dX9_addThoseWithoutLine_23 : decode cX9_addThoseWithoutLine 23 = .ok (.iconst 0, 1) := by decide +kernel
theorem dX9_addThoseWithoutLine_24 : decode cX9_addThoseWithoutLine 24 = .ok (.istore 4, 2) := by decide +kernel
theorem dX9_addThoseWithoutLine_26 : decode cX9_addThoseWithoutLine 26 = .ok (.iload 4, 2) := by decide +kernel
theorem dX9_addThoseWithoutLine_28 : decode cX9_addThoseWithoutLine 28 = .ok (.ifCond .eq 13, 3) := by decide +kernel
theorem dX9_addThoseWithoutLine_31 : decode cX9_addThoseWithoutLine 31 = .ok (.aload_n 0, 1) := by decide +kernel
theorem dX9_addThoseWithoutLine_32 : decode cX9_addThoseWithoutLine 32 = .ok (.getfield 54, 3) := by decide +kernel
theorem dX9_addThoseWithoutLine_35 : decode cX9_addThoseWithoutLine 35 = .ok (.ifCond .le 6, 3) := by decide +kernel
theorem dX9_addThoseWithoutLine_38 : decode cX9_addThoseWithoutLine 38 = .ok (.goto 55, 3) := by decide +kernel
theorem dX9_addThoseWithoutLine_41 : decode cX9_addThoseWithoutLine 41 = .ok (.aload_n 1, 1) := by decide +kernel
theorem dX9_addThoseWithoutLine_42 : decode cX9_addThoseWithoutLine 42 = .ok (.iload_n 3, 1) := by decide +kernel
theorem dX9_addThoseWithoutLine_43 : decode cX9_addThoseWithoutLine 43 = .ok (.invokevirtual 86, 3) := by decide +kernel
theorem dX9_addThoseWithoutLine_46 : decode cX9_addThoseWithoutLine 46 = .ok (.istore 5, 2) := by decide +kernel
theorem dX9_addThoseWithoutLine_48 : decode cX9_addThoseWithoutLine 48 = .ok (.iconst 0, 1) := by decide +kernel
theorem dX9_addThoseWithoutLine_49 : decode cX9_addThoseWithoutLine 49 = .ok (.istore 6, 2) := by decide +kernel
theorem dX9_addThoseWithoutLine_51 : decode cX9_addThoseWithoutLine 51 = .ok (.iload 6, 2) := by decide +kernel
theorem dX9_addThoseWithoutLine_53 : decode cX9_addThoseWithoutLine 53 = .ok (.sipush 4096, 3) := by decide +kernel
theorem dX9_addThoseWithoutLine_56 : decode cX9_addThoseWithoutLine 56 = .ok (.if_icmp .ge 37, 3) := by decide +kernel
theorem dX9_addThoseWithoutLine_59 : decode cX9_addThoseWithoutLine 59 = .ok (.aload_n 0, 1) := by decide +kernel
theorem dX9_addThoseWithoutLine_60 : decode cX9_addThoseWithoutLine 60 = .ok (.getfield 48, 3) := by decide +kernel
theorem dX9_addThoseWithoutLine_63 : decode cX9_addThoseWithoutLine 63 = .ok (.iload 6, 2) := by decide +kernel
theorem dX9_addThoseWithoutLine_65 : decode cX9_addThoseWithoutLine 65 = .ok (.dup2, 1) := by decide +kernel
theorem dX9_addThoseWithoutLine_66 : decode cX9_addThoseWithoutLine 66 = .ok (.iaload, 1) := by decide +kernel
theorem dX9_addThoseWithoutLine_67 : decode cX9_addThoseWithoutLine 67 = .ok (.iload 4, 2) := by decide +kernel
theorem dX9_addThoseWithoutLine_69 : decode cX9_addThoseWithoutLine 69 = .ok (.ifCond .eq 9, 3) := by decide +kernel
theorem dX9_addThoseWithoutLine_72 : decode cX9_addThoseWithoutLine 72 = .ok (.sipush 1000, 3) := by decide +kernel
theorem dX9_addThoseWithoutLine_75 : decode cX9_addThoseWithoutLine 75 = .ok (.goto 10, 3) := by decide +kernel
theorem dX9_addThoseWithoutLine_78 : decode cX9_addThoseWithoutLine 78 = .ok (.iload 6, 2) := by decide +kernel
theorem dX9_addThoseWithoutLine_80 : decode cX9_addThoseWithoutLine 80 = .ok (.iload 5, 2) := by decide +kernel
theorem dX9_addThoseWithoutLine_82 : decode cX9_addThoseWithoutLine 82 = .ok (.invokestatic 124, 3) := by decide +kernel
theorem dX9_addThoseWithoutLine_85 : decode cX9_addThoseWithoutLine 85 = .ok (.iadd, 1) := by decide +kernel
theorem dX9_addThoseWithoutLine_86 : decode cX9_addThoseWithoutLine 86 = .ok (.iastore, 1) := by decide +kernel
theorem dX9_addThoseWithoutLine_87 : decode cX9_addThoseWithoutLine 87 = .ok (.iinc 6 1, 3) := by decide +kernel
theorem dX9_addThoseWithoutLine_90 : decode cX9_addThoseWithoutLine 90 = .ok (.goto (-39), 3) := by decide +kernel
theorem dX9_addThoseWithoutLine_93 : decode cX9_addThoseWithoutLine 93 = .ok (.iinc 3 1, 3) := by decide +kernel
theorem dX9_addThoseWithoutLine_96 : decode cX9_addThoseWithoutLine 96 = .ok (.goto (-94), 3) := by decide +kernel
theorem dX9_addThoseWithoutLine_99 : decode cX9_addThoseWithoutLine 99 = .ok (.return_, 1) := by decide +kernel
theorem dX9_addLine_0 : decode cX9_addLine 0 = .ok (.iconst 0, 1) := by decide +kernel
theorem dX9_addLine_1 : decode cX9_addLine 1 = .ok (.istore_n 2, 1) := by decide +kernel
theorem dX9_addLine_2 : decode cX9_addLine 2 = .ok (.iconst 0, 1) := by decide +kernel
theorem dX9_addLine_3 : decode cX9_addLine 3 = .ok (.istore_n 3, 1) := by decide +kernel
theorem dX9_addLine_4 : decode cX9_addLine 4 = .ok (.iload_n 3, 1) := by decide +kernel
theorem dX9_addLine_5 : decode cX9_addLine 5 = .ok (.aload_n 0, 1) := by decide +kernel
theorem dX9_addLine_6 : decode cX9_addLine 6 = .ok (.getfield 68, 3) := by decide +kernel
theorem dX9_addLine_9 : decode cX9_addLine 9 = .ok (.if_icmp .ge 24, 3) := by decide +kernel
theorem dX9_addLine_12 : decode cX9_addLine 12 = .ok (.iload_n 2, 1) := by decide +kernel
theorem dX9_addLine_13 : decode cX9_addLine 13 = .ok (.bipush 7, 2) := by decide +kernel
theorem dX9_addLine_15 : decode cX9_addLine 15 = .ok (.aload_n 0, 1) := by decide +kernel
theorem dX9_addLine_16 : decode cX9_addLine 16 = .ok (.getfield 33, 3) := by decide +kernel
theorem dX9_addLine_19 : decode cX9_addLine 19 = .ok (.iload_n 3, 1) := by decide +kernel
theorem dX9_addLine_20 : decode cX9_addLine 20 = .ok (.iaload, 1) := by decide +kernel
theorem dX9_addLine_21 : decode cX9_addLine 21 = .ok (.invokestatic 121, 3) := by decide +kernel
theorem dX9_addLine_24 : decode cX9_addLine 24 = .ok (.ishl, 1) := by decide +kernel
theorem dX9_addLine_25 : decode cX9_addLine 25 = .ok (.ior, 1) := by decide +kernel
theorem dX9_addLine_26 : decode cX9_addLine 26 = .ok (.istore_n 2, 1) := by decide +kernel
theorem dX9_addLine_27 : decode cX9_addLine 27 = .ok (.iinc 3 1, 3) := by decide +kernel
theorem dX9_addLine_30 : decode cX9_addLine 30 = .ok (.goto (-26), 3) := by decide +kernel
theorem dX9_addLine_33 : decode cX9_addLine 33 = .ok (.iconst 0, 1) := by decide +kernel
theorem dX9_addLine_34 : decode cX9_addLine 34 = .ok (.istore_n 3, 1) := by decide +kernel
theorem dX9_addLine_35 : decode cX9_addLine 35 = .ok (.iload_n 3, 1) := by decide +kernel
theorem dX9_addLine_36 : decode cX9_addLine 36 = .ok (.sipush 4096, 3) := by decide +kernel
theorem dX9_addLine_39 : decode cX9_addLine 39 = .ok (.if_icmp .ge 54, 3) := by decide +kernel
theorem dX9_addLine_42 : decode cX9_addLine 42 = .ok (.aload_n 0, 1) := by decide +kernel
theorem dX9_addLine_43 : decode cX9_addLine 43 = .ok (.getfield 51, 3) := by decide +kernel
theorem dX9_addLine_46 : decode cX9_addLine 46 = .ok (.iload_n 3, 1) := by decide +kernel
theorem dX9_addLine_47 : decode cX9_addLine 47 = .ok (.iload_n 3, 1) := by decide +kernel
theorem dX9_addLine_48 : decode cX9_addLine 48 = .ok (.iload_n 2, 1) := by decide +kernel
theorem dX9_addLine_49 : decode cX9_addLine 49 = .ok (.iand, 1) := by decide +kernel
theorem dX9_addLine_50 : decode cX9_addLine 50 = .ok (.iload_n 3, 1) := by decide +kernel
theorem dX9_addLine_51 : decode cX9_addLine 51 = .ok (.if_icmp .ne 12, 3) := by decide +kernel
theorem dX9_addLine_54 : decode cX9_addLine 54 = .ok (.aload_n 0, 1) := by decide +kernel
theorem dX9_addLine_55 : decode cX9_addLine 55 = .ok (.iload_n 1, 1) := by decide +kernel
theorem dX9_addLine_56 : decode cX9_addLine 56 = .ok (.iload_n 3, 1) := by decide +kernel
theorem dX9_addLine_57 : decode cX9_addLine 57 = .ok (.invokevirtual 127, 3) := by decide +kernel
theorem dX9_addLine_60 : decode cX9_addLine 60 = .ok (.goto 11, 3) := by decide +kernel
theorem dX9_addLine_63 : decode cX9_addLine 63 = .ok (.aload_n 0, 1) := by decide +kernel
theorem dX9_addLine_64 : decode cX9_addLine 64 = .ok (.getfield 51, 3) := by decide +kernel
theorem dX9_addLine_67 : decode cX9_addLine 67 = .ok (.iload_n 3, 1) := by decide +kernel
theorem dX9_addLine_68 : decode cX9_addLine 68 = .ok (.iload_n 2, 1) := by decide +kernel
theorem dX9_addLine_69 : decode cX9_addLine 69 = .ok (.iand, 1) := by decide +kernel
theorem dX9_addLine_70 : decode cX9_addLine 70 = .ok (.iaload, 1) := by decide +kernel
theorem dX9_addLine_71 : decode cX9_addLine 71 = .ok (.iastore, 1) := by decide +kernel
theorem dX9_addLine_72 : decode cX9_addLine 72 = .ok (.aload_n 0, 1) := by decide +kernel
theorem dX9_addLine_73 : decode cX9_addLine 73 = .ok (.getfield 48, 3) := by decide +kernel
theorem dX9_addLine_76 : decode cX9_addLine 76 = .ok (.iload_n 3, 1) := by decide +kernel
theorem dX9_addLine_77 : decode cX9_addLine 77 = .ok (.dup2, 1) := by decide +kernel
theorem dX9_addLine_78 : decode cX9_addLine 78 = .ok (.iaload, 1) := by decide +kernel
theorem dX9_addLine_79 : decode cX9_addLine 79 = .ok (.aload_n 0, 1) := by decide +kernel
theorem dX9_addLine_80 : decode cX9_addLine 80 = .ok (.getfield 51, 3) := by decide +kernel
theorem dX9_addLine_83 : decode cX9_addLine 83 = .ok (.iload_n 3, 1) := by decide +kernel
theorem dX9_addLine_84 : decode cX9_addLine 84 = .ok (.iaload, 1) := by decide +kernel
theorem dX9_addLine_85 : decode cX9_addLine 85 = .ok (.iadd, 1) := by decide +kernel
theorem dX9_addLine_86 : decode cX9_addLine 86 = .ok (.iastore, 1) := by decide +kernel
theorem dX9_addLine_87 : decode cX9_addLine 87 = .ok (.iinc 3 1, 3) := by decide +kernel
theorem dX9_addLine_90 : decode cX9_addLine 90 = .ok (.goto (-55), 3) := by decide +kernel
theorem dX9_addLine_93 : decode cX9_addLine 93 = .ok (.return_, 1) := by decide +kernel
theorem dX9_lineCost_0 : decode cX9_lineCost 0 = .ok (.iconst 0, 1) := by decide +kernel
theorem dX9_lineCost_1 : decode cX9_lineCost 1 = .ok (.istore_n 3, 1) := by decide +kernel
theorem dX9_lineCost_2 : decode cX9_lineCost 2 = .ok (.iload_n 3, 1) := by decide +kernel
theorem dX9_lineCost_3 : decode cX9_lineCost 3 = .ok (.iconst 4, 1) := by decide +kernel
theorem dX9_lineCost_4 : decode cX9_lineCost 4 = .ok (.if_icmp .ge 20, 3) := by decide +kernel
theorem dX9_lineCost_7 : decode cX9_lineCost 7 = .ok (.aload_n 0, 1) := by decide +kernel
theorem dX9_lineCost_8 : decode cX9_lineCost 8 = .ok (.getfield 45, 3) := by decide +kernel
theorem dX9_lineCost_11 : decode cX9_lineCost 11 = .ok (.iload_n 3, 1) := by decide +kernel
theorem dX9_lineCost_12 : decode cX9_lineCost 12 = .ok (.iload_n 2, 1) := by decide +kernel
theorem dX9_lineCost_13 : decode cX9_lineCost 13 = .ok (.iload_n 3, 1) := by decide +kernel
theorem dX9_lineCost_14 : decode cX9_lineCost 14 = .ok (.invokestatic 124, 3) := by decide +kernel
theorem dX9_lineCost_17 : decode cX9_lineCost 17 = .ok (.iastore, 1) := by decide +kernel
theorem dX9_lineCost_18 : decode cX9_lineCost 18 = .ok (.iinc 3 1, 3) := by decide +kernel
theorem dX9_lineCost_21 : decode cX9_lineCost 21 = .ok (.goto (-19), 3) := by decide +kernel
theorem dX9_lineCost_24 : decode cX9_lineCost 24 = .ok (.aload_n 0, 1) := by decide +kernel
theorem dX9_lineCost_25 : decode cX9_lineCost 25 = .ok (.iload_n 1, 1) := by decide +kernel
theorem dX9_lineCost_26 : decode cX9_lineCost 26 = .ok (.aload_n 0, 1) := by decide +kernel
theorem dX9_lineCost_27 : decode cX9_lineCost 27 = .ok (.getfield 45, 3) := by decide +kernel
theorem dX9_lineCost_30 : decode cX9_lineCost 30 = .ok (.invokevirtual 106, 3) := by decide +kernel
theorem dX9_lineCost_33 : decode cX9_lineCost 33 = .ok (.iconst 0, 1) := by decide +kernel
theorem dX9_lineCost_34 : decode cX9_lineCost 34 = .ok (.istore_n 3, 1) := by decide +kernel
theorem dX9_lineCost_35 : decode cX9_lineCost 35 = .ok (.iconst 0, 1) := by decide +kernel
theorem dX9_lineCost_36 : decode cX9_lineCost 36 = .ok (.istore 4, 2) := by decide +kernel
theorem dX9_lineCost_38 : decode cX9_lineCost 38 = .ok (.iload 4, 2) := by decide +kernel
theorem dX9_lineCost_40 : decode cX9_lineCost 40 = .ok (.aload_n 0, 1) := by decide +kernel
theorem dX9_lineCost_41 : decode cX9_lineCost 41 = .ok (.getfield 68, 3) := by decide +kernel
theorem dX9_lineCost_44 : decode cX9_lineCost 44 = .ok (.if_icmp .ge 37, 3) := by decide +kernel
theorem dX9_lineCost_47 : decode cX9_lineCost 47 = .ok (.iload_n 3, 1) := by decide +kernel
theorem dX9_lineCost_48 : decode cX9_lineCost 48 = .ok (.aload_n 0, 1) := by decide +kernel
theorem dX9_lineCost_49 : decode cX9_lineCost 49 = .ok (.getfield 42, 3) := by decide +kernel
theorem dX9_lineCost_52 : decode cX9_lineCost 52 = .ok (.iload 4, 2) := by decide +kernel
theorem dX9_lineCost_54 : decode cX9_lineCost 54 = .ok (.iaload, 1) := by decide +kernel
theorem dX9_lineCost_55 : decode cX9_lineCost 55 = .ok (.bipush (-9), 2) := by decide +kernel
theorem dX9_lineCost_57 : decode cX9_lineCost 57 = .ok (.if_icmp .ne 9, 3) := by decide +kernel
theorem dX9_lineCost_60 : decode cX9_lineCost 60 = .ok (.sipush 1000, 3) := by decide +kernel
theorem dX9_lineCost_63 : decode cX9_lineCost 63 = .ok (.goto 10, 3) := by decide +kernel
theorem dX9_lineCost_66 : decode cX9_lineCost 66 = .ok (.aload_n 0, 1) := by decide +kernel
theorem dX9_lineCost_67 : decode cX9_lineCost 67 = .ok (.getfield 42, 3) := by decide +kernel
theorem dX9_lineCost_70 : decode cX9_lineCost 70 = .ok (.iload 4, 2) := by decide +kernel
theorem dX9_lineCost_72 : decode cX9_lineCost 72 = .ok (.iaload, 1) := by decide +kernel
theorem dX9_lineCost_73 : decode cX9_lineCost 73 = .ok (.iadd, 1) := by decide +kernel
theorem dX9_lineCost_74 : decode cX9_lineCost 74 = .ok (.istore_n 3, 1) := by decide +kernel
theorem dX9_lineCost_75 : decode cX9_lineCost 75 = .ok (.iinc 4 1, 3) := by decide +kernel
theorem dX9_lineCost_78 : decode cX9_lineCost 78 = .ok (.goto (-40), 3) := by decide +kernel
theorem dX9_lineCost_81 : decode cX9_lineCost 81 = .ok (.iload_n 3, 1) := by decide +kernel
theorem dX9_lineCost_82 : decode cX9_lineCost 82 = .ok (.ireturn, 1) := by decide +kernel
theorem dX9_bestBegin_0 : decode cX9_bestBegin 0 = .ok (.aload_n 0, 1) := by decide +kernel
theorem dX9_bestBegin_1 : decode cX9_bestBegin 1 = .ok (.getfield 118, 3) := by decide +kernel
theorem dX9_bestBegin_4 : decode cX9_bestBegin 4 = .ok (.iload_n 1, 1) := by decide +kernel
theorem dX9_bestBegin_5 : decode cX9_bestBegin 5 = .ok (.invokestatic 124, 3) := by decide +kernel
theorem dX9_bestBegin_8 : decode cX9_bestBegin 8 = .ok (.ireturn, 1) := by decide +kernel
theorem dX9_bestUnserved_0 : decode cX9_bestUnserved 0 = .ok (.aload_n 0, 1) := by decide +kernel
theorem dX9_bestUnserved_1 : decode cX9_bestUnserved 1 = .ok (.getfield 118, 3) := by decide +kernel
theorem dX9_bestUnserved_4 : decode cX9_bestUnserved 4 = .ok (.aload_n 0, 1) := by decide +kernel
theorem dX9_bestUnserved_5 : decode cX9_bestUnserved 5 = .ok (.getfield 48, 3) := by decide +kernel
theorem dX9_bestUnserved_8 : decode cX9_bestUnserved 8 = .ok (.arraylength, 1) := by decide +kernel
theorem dX9_bestUnserved_9 : decode cX9_bestUnserved 9 = .ok (.if_icmp .ge 19, 3) := by decide +kernel
theorem dX9_bestUnserved_12 : decode cX9_bestUnserved 12 = .ok (.aload_n 0, 1) := by decide +kernel
theorem dX9_bestUnserved_13 : decode cX9_bestUnserved 13 = .ok (.getfield 48, 3) := by decide +kernel
theorem dX9_bestUnserved_16 : decode cX9_bestUnserved 16 = .ok (.aload_n 0, 1) := by decide +kernel
theorem dX9_bestUnserved_17 : decode cX9_bestUnserved 17 = .ok (.getfield 118, 3) := by decide +kernel
theorem dX9_bestUnserved_20 : decode cX9_bestUnserved 20 = .ok (.iaload, 1) := by decide +kernel
theorem dX9_bestUnserved_21 : decode cX9_bestUnserved 21 = .ok (.sipush 1000, 3) := by decide +kernel
theorem dX9_bestUnserved_24 : decode cX9_bestUnserved 24 = .ok (.idiv, 1) := by decide +kernel
theorem dX9_bestUnserved_25 : decode cX9_bestUnserved 25 = .ok (.goto 4, 3) := by decide +kernel
theorem dX9_bestUnserved_28 : decode cX9_bestUnserved 28 = .ok (.iconst 0, 1) := by decide +kernel
theorem dX9_bestUnserved_29 : decode cX9_bestUnserved 29 = .ok (.ireturn, 1) := by decide +kernel
theorem dX9_bestSum_0 : decode cX9_bestSum 0 = .ok (.aload_n 0, 1) := by decide +kernel
theorem dX9_bestSum_1 : decode cX9_bestSum 1 = .ok (.getfield 118, 3) := by decide +kernel
theorem dX9_bestSum_4 : decode cX9_bestSum 4 = .ok (.aload_n 0, 1) := by decide +kernel
theorem dX9_bestSum_5 : decode cX9_bestSum 5 = .ok (.getfield 48, 3) := by decide +kernel
theorem dX9_bestSum_8 : decode cX9_bestSum 8 = .ok (.arraylength, 1) := by decide +kernel
theorem dX9_bestSum_9 : decode cX9_bestSum 9 = .ok (.if_icmp .ge 19, 3) := by decide +kernel
theorem dX9_bestSum_12 : decode cX9_bestSum 12 = .ok (.aload_n 0, 1) := by decide +kernel
theorem dX9_bestSum_13 : decode cX9_bestSum 13 = .ok (.getfield 48, 3) := by decide +kernel
theorem dX9_bestSum_16 : decode cX9_bestSum 16 = .ok (.aload_n 0, 1) := by decide +kernel
theorem dX9_bestSum_17 : decode cX9_bestSum 17 = .ok (.getfield 118, 3) := by decide +kernel
theorem dX9_bestSum_20 : decode cX9_bestSum 20 = .ok (.iaload, 1) := by decide +kernel
theorem dX9_bestSum_21 : decode cX9_bestSum 21 = .ok (.sipush 1000, 3) := by decide +kernel
theorem dX9_bestSum_24 : decode cX9_bestSum 24 = .ok (.irem, 1) := by decide +kernel
theorem dX9_bestSum_25 : decode cX9_bestSum 25 = .ok (.goto 4, 3) := by decide +kernel
theorem dX9_bestSum_28 : decode cX9_bestSum 28 = .ok (.iconst 0, 1) := by decide +kernel
theorem dX9_bestSum_29 : decode cX9_bestSum 29 = .ok (.ireturn, 1) := by decide +kernel
theorem dX9_foulOnes_0 : decode cX9_foulOnes 0 = .ok (.aload_n 1, 1) := by decide +kernel
theorem dX9_foulOnes_1 : decode cX9_foulOnes 1 = .ok (.iload_n 2, 1) := by decide +kernel
theorem dX9_foulOnes_2 : decode cX9_foulOnes 2 = .ok (.iload_n 3, 1) := by decide +kernel
theorem dX9_foulOnes_3 : decode cX9_foulOnes 3 = .ok (.invokevirtual 130, 3) := by decide +kernel
theorem dX9_foulOnes_6 : decode cX9_foulOnes 6 = .ok (.iconst 0, 1) := by decide +kernel
theorem dX9_foulOnes_7 : decode cX9_foulOnes 7 = .ok (.istore 4, 2) := by decide +kernel
theorem dX9_foulOnes_9 : decode cX9_foulOnes 9 = .ok (.iconst 0, 1) := by decide +kernel
theorem dX9_foulOnes_10 : decode cX9_foulOnes 10 = .ok (.istore 5, 2) := by decide +kernel
theorem dX9_foulOnes_12 : decode cX9_foulOnes 12 = .ok (.iload 5, 2) := by decide +kernel
theorem dX9_foulOnes_14 : decode cX9_foulOnes 14 = .ok (.aload_n 0, 1) := by decide +kernel
theorem dX9_foulOnes_15 : decode cX9_foulOnes 15 = .ok (.getfield 54, 3) := by decide +kernel
theorem dX9_foulOnes_18 : decode cX9_foulOnes 18 = .ok (.if_icmp .ge 32, 3) := by decide +kernel
theorem dX9_foulOnes_21 : decode cX9_foulOnes 21 = .ok (.aload_n 1, 1) := by decide +kernel
theorem dX9_foulOnes_22 : decode cX9_foulOnes 22 = .ok (.aload_n 0, 1) := by decide +kernel
theorem dX9_foulOnes_23 : decode cX9_foulOnes 23 = .ok (.getfield 9, 3) := by decide +kernel
theorem dX9_foulOnes_26 : decode cX9_foulOnes 26 = .ok (.iload 5, 2) := by decide +kernel
theorem dX9_foulOnes_28 : decode cX9_foulOnes 28 = .ok (.iaload, 1) := by decide +kernel
theorem dX9_foulOnes_29 : decode cX9_foulOnes 29 = .ok (.invokevirtual 134, 3) := by decide +kernel
theorem dX9_foulOnes_32 : decode cX9_foulOnes 32 = .ok (.ifCond .eq 12, 3) := by decide +kernel
theorem dX9_foulOnes_35 : decode cX9_foulOnes 35 = .ok (.iload 4, 2) := by decide +kernel
theorem dX9_foulOnes_37 : decode cX9_foulOnes 37 = .ok (.iconst 1, 1) := by decide +kernel
theorem dX9_foulOnes_38 : decode cX9_foulOnes 38 = .ok (.iload 5, 2) := by decide +kernel
theorem dX9_foulOnes_40 : decode cX9_foulOnes 40 = .ok (.ishl, 1) := by decide +kernel
theorem dX9_foulOnes_41 : decode cX9_foulOnes 41 = .ok (.ior, 1) := by decide +kernel
theorem dX9_foulOnes_42 : decode cX9_foulOnes 42 = .ok (.istore 4, 2) := by decide +kernel
theorem dX9_foulOnes_44 : decode cX9_foulOnes 44 = .ok (.iinc 5 1, 3) := by decide +kernel
theorem dX9_foulOnes_47 : decode cX9_foulOnes 47 = .ok (.goto (-35), 3) := by decide +kernel
theorem dX9_foulOnes_50 : decode cX9_foulOnes 50 = .ok (.iload 4, 2) := by decide +kernel
theorem dX9_foulOnes_52 : decode cX9_foulOnes 52 = .ok (.ireturn, 1) := by decide +kernel
theorem dX9_fewestDrains_0 : decode cX9_fewestDrains 0 = .ok (.iconst 1, 1) := by decide +kernel
theorem dX9_fewestDrains_1 : decode cX9_fewestDrains 1 = .ok (.aload_n 1, 1) := by decide +kernel
theorem dX9_fewestDrains_2 : decode cX9_fewestDrains 2 = .ok (.getfield 138, 3) := by decide +kernel
theorem dX9_fewestDrains_5 : decode cX9_fewestDrains 5 = .ok (.ishl, 1) := by decide +kernel
theorem dX9_fewestDrains_6 : decode cX9_fewestDrains 6 = .ok (.istore_n 3, 1) := by decide +kernel
theorem dX9_fewestDrains_7 : decode cX9_fewestDrains 7 = .ok (.aload_n 0, 1) := by decide +kernel
theorem dX9_fewestDrains_8 : decode cX9_fewestDrains 8 = .ok (.aload_n 1, 1) := by decide +kernel
theorem dX9_fewestDrains_9 : decode cX9_fewestDrains 9 = .ok (.iload_n 2, 1) := by decide +kernel
theorem dX9_fewestDrains_10 : decode cX9_fewestDrains 10 = .ok (.iload_n 3, 1) := by decide +kernel
theorem dX9_fewestDrains_11 : decode cX9_fewestDrains 11 = .ok (.iconst 1, 1) := by decide +kernel
theorem dX9_fewestDrains_12 : decode cX9_fewestDrains 12 = .ok (.isub, 1) := by decide +kernel
theorem dX9_fewestDrains_13 : decode cX9_fewestDrains 13 = .ok (.invokevirtual 141, 3) := by decide +kernel
theorem dX9_fewestDrains_16 : decode cX9_fewestDrains 16 = .ok (.ifCond .eq 6, 3) := by decide +kernel
theorem dX9_fewestDrains_19 : decode cX9_fewestDrains 19 = .ok (.bipush (-9), 2) := by decide +kernel
theorem dX9_fewestDrains_21 : decode cX9_fewestDrains 21 = .ok (.ireturn, 1) := by decide +kernel
theorem dX9_fewestDrains_22 : decode cX9_fewestDrains 22 = .ok (.iconst 0, 1) := by decide +kernel
theorem dX9_fewestDrains_23 : decode cX9_fewestDrains 23 = .ok (.istore 4, 2) := by decide +kernel
theorem dX9_fewestDrains_25 : decode cX9_fewestDrains 25 = .ok (.iload 4, 2) := by decide +kernel
theorem dX9_fewestDrains_27 : decode cX9_fewestDrains 27 = .ok (.aload_n 1, 1) := by decide +kernel
theorem dX9_fewestDrains_28 : decode cX9_fewestDrains 28 = .ok (.getfield 138, 3) := by decide +kernel
theorem dX9_fewestDrains_31 : decode cX9_fewestDrains 31 = .ok (.if_icmp .gt 48, 3) := by decide +kernel
theorem dX9_fewestDrains_34 : decode cX9_fewestDrains 34 = .ok (.iconst 0, 1) := by decide +kernel
theorem dX9_fewestDrains_35 : decode cX9_fewestDrains 35 = .ok (.istore 5, 2) := by decide +kernel
theorem dX9_fewestDrains_37 : decode cX9_fewestDrains 37 = .ok (.iload 5, 2) := by decide +kernel
theorem dX9_fewestDrains_39 : decode cX9_fewestDrains 39 = .ok (.iload_n 3, 1) := by decide +kernel
theorem dX9_fewestDrains_40 : decode cX9_fewestDrains 40 = .ok (.if_icmp .ge 33, 3) := by decide +kernel
theorem dX9_fewestDrains_43 : decode cX9_fewestDrains 43 = .ok (.iload 5, 2) := by decide +kernel
theorem dX9_fewestDrains_45 : decode cX9_fewestDrains 45 = .ok (.invokestatic 145, 3) := by decide +kernel
theorem dX9_fewestDrains_48 : decode cX9_fewestDrains 48 = .ok (.iload 4, 2) := by decide +kernel
theorem dX9_fewestDrains_50 : decode cX9_fewestDrains 50 = .ok (.if_icmp .ne 17, 3) := by decide +kernel
theorem dX9_fewestDrains_53 : decode cX9_fewestDrains 53 = .ok (.aload_n 0, 1) := by decide +kernel
theorem dX9_fewestDrains_54 : decode cX9_fewestDrains 54 = .ok (.aload_n 1, 1) := by decide +kernel
theorem dX9_fewestDrains_55 : decode cX9_fewestDrains 55 = .ok (.iload_n 2, 1) := by decide +kernel
theorem dX9_fewestDrains_56 : decode cX9_fewestDrains 56 = .ok (.iload 5, 2) := by decide +kernel
theorem dX9_fewestDrains_58 : decode cX9_fewestDrains 58 = .ok (.invokevirtual 141, 3) := by decide +kernel
theorem dX9_fewestDrains_61 : decode cX9_fewestDrains 61 = .ok (.ifCond .ne 6, 3) := by decide +kernel
theorem dX9_fewestDrains_64 : decode cX9_fewestDrains 64 = .ok (.iload 5, 2) := by decide +kernel
theorem dX9_fewestDrains_66 : decode cX9_fewestDrains 66 = .ok (.ireturn, 1) := by decide +kernel
theorem dX9_fewestDrains_67 : decode cX9_fewestDrains 67 = .ok (.iinc 5 1, 3) := by decide +kernel
theorem dX9_fewestDrains_70 : decode cX9_fewestDrains 70 = .ok (.goto (-33), 3) := by decide +kernel
theorem dX9_fewestDrains_73 : decode cX9_fewestDrains 73 = .ok (.iinc 4 1, 3) := by decide +kernel
theorem dX9_fewestDrains_76 : decode cX9_fewestDrains 76 = .ok (.goto (-51), 3) := by decide +kernel
theorem dX9_fewestDrains_79 : decode cX9_fewestDrains 79 = .ok (.bipush (-9), 2) := by decide +kernel
theorem dX9_fewestDrains_81 : decode cX9_fewestDrains 81 = .ok (.ireturn, 1) := by decide +kernel
theorem dX10_init_0 : decode cX10_init 0 = .ok (.aload_n 0, 1) := by decide +kernel
theorem dX10_init_1 : decode cX10_init 1 = .ok (.invokespecial 1, 3) := by decide +kernel
theorem dX10_init_4 : decode cX10_init 4 = .ok (.aload_n 0, 1) := by decide +kernel
theorem dX10_init_5 : decode cX10_init 5 = .ok (.iconst 0, 1) := by decide +kernel
theorem dX10_init_6 : decode cX10_init 6 = .ok (.putfield 7, 3) := by decide +kernel
theorem dX10_init_9 : decode cX10_init 9 = .ok (.aload_n 0, 1) := by decide +kernel
theorem dX10_init_10 : decode cX10_init 10 = .ok (.bipush 7, 2) := by decide +kernel
theorem dX10_init_12 : decode cX10_init 12 = .ok (.newarray .int, 2) := by decide +kernel
theorem dX10_init_14 : decode cX10_init 14 = .ok (.putfield 13, 3) := by decide +kernel
theorem dX10_init_17 : decode cX10_init 17 = .ok (.aload_n 0, 1) := by decide +kernel
theorem dX10_init_18 : decode cX10_init 18 = .ok (.new 17, 3) := by decide +kernel
theorem dX10_init_21 : decode cX10_init 21 = .ok (.dup, 1) := by decide +kernel
theorem dX10_init_22 : decode cX10_init 22 = .ok (.invokespecial 19, 3) := by decide +kernel
theorem dX10_init_25 : decode cX10_init 25 = .ok (.putfield 20, 3) := by decide +kernel
theorem dX10_init_28 : decode cX10_init 28 = .ok (.aload_n 0, 1) := by decide +kernel
theorem dX10_init_29 : decode cX10_init 29 = .ok (.new 24, 3) := by decide +kernel
theorem dX10_init_32 : decode cX10_init 32 = .ok (.dup, 1) := by decide +kernel
theorem dX10_init_33 : decode cX10_init 33 = .ok (.invokespecial 26, 3) := by decide +kernel
theorem dX10_init_36 : decode cX10_init 36 = .ok (.putfield 27, 3) := by decide +kernel
theorem dX10_init_39 : decode cX10_init 39 = .ok (.aload_n 0, 1) := by decide +kernel
theorem dX10_init_40 : decode cX10_init 40 = .ok (.new 31, 3) := by decide +kernel
theorem dX10_init_43 : decode cX10_init 43 = .ok (.dup, 1) := by decide +kernel
theorem dX10_init_44 : decode cX10_init 44 = .ok (.invokespecial 33, 3) := by decide +kernel
theorem dX10_init_47 : decode cX10_init 47 = .ok (.putfield 34, 3) := by decide +kernel
theorem dX10_init_50 : decode cX10_init 50 = .ok (.aload_n 0, 1) := by decide +kernel
theorem dX10_init_51 : decode cX10_init 51 = .ok (.new 38, 3) := by decide +kernel
theorem dX10_init_54 : decode cX10_init 54 = .ok (.dup, 1) := by decide +kernel
theorem dX10_init_55 : decode cX10_init 55 = .ok (.invokespecial 40, 3) := by decide +kernel
theorem dX10_init_58 : decode cX10_init 58 = .ok (.putfield 41, 3) := by decide +kernel
theorem dX10_init_61 : decode cX10_init 61 = .ok (.aload_n 0, 1) := by decide +kernel
theorem dX10_init_62 : decode cX10_init 62 = .ok (.new 45, 3) := by decide +kernel
theorem dX10_init_65 : decode cX10_init 65 = .ok (.dup, 1) := by decide +kernel
theorem dX10_init_66 : decode cX10_init 66 = .ok (.invokespecial 47, 3) := by decide +kernel
theorem dX10_init_69 : decode cX10_init 69 = .ok (.putfield 48, 3) := by decide +kernel
theorem dX10_init_72 : decode cX10_init 72 = .ok (.aload_n 0, 1) := by decide +kernel
theorem dX10_init_73 : decode cX10_init 73 = .ok (.new 52, 3) := by decide +kernel
theorem dX10_init_76 : decode cX10_init 76 = .ok (.dup, 1) := by decide +kernel
theorem dX10_init_77 : decode cX10_init 77 = .ok (.invokespecial 54, 3) := by decide +kernel
theorem dX10_init_80 : decode cX10_init 80 = .ok (.putfield 55, 3) := by decide +kernel
theorem dX10_init_83 : decode cX10_init 83 = .ok (.aload_n 0, 1) := by decide +kernel
theorem dX10_init_84 : decode cX10_init 84 = .ok (.new 59, 3) := by decide +kernel
theorem dX10_init_87 : decode cX10_init 87 = .ok (.dup, 1) := by decide +kernel
theorem dX10_init_88 : decode cX10_init 88 = .ok (.invokespecial 61, 3) := by decide +kernel
theorem dX10_init_91 : decode cX10_init 91 = .ok (.putfield 62, 3) := by decide +kernel
theorem dX10_init_94 : decode cX10_init 94 = .ok (.aload_n 0, 1) := by decide +kernel
theorem dX10_init_95 : decode cX10_init 95 = .ok (.new 66, 3) := by decide +kernel
theorem dX10_init_98 : decode cX10_init 98 = .ok (.dup, 1) := by decide +kernel
theorem dX10_init_99 : decode cX10_init 99 = .ok (.invokespecial 68, 3) := by decide +kernel
theorem dX10_init_102 : decode cX10_init 102 = .ok (.putfield 69, 3) := by decide +kernel
theorem dX10_init_105 : decode cX10_init 105 = .ok (.aload_n 0, 1) := by decide +kernel
theorem dX10_init_106 : decode cX10_init 106 = .ok (.new 73, 3) := by decide +kernel
theorem dX10_init_109 : decode cX10_init 109 = .ok (.dup, 1) := by decide +kernel
theorem dX10_init_110 : decode cX10_init 110 = .ok (.invokespecial 75, 3) := by decide +kernel
theorem dX10_init_113 : decode cX10_init 113 = .ok (.putfield 76, 3) := by decide +kernel
theorem dX10_init_116 : decode cX10_init 116 = .ok (.return_, 1) := by decide +kernel
theorem dX10_refuse_0 : decode cX10_refuse 0 = .ok (.iload_n 1, 1) := by decide +kernel
theorem dX10_refuse_1 : decode cX10_refuse 1 = .ok (.ineg, 1) := by decide +kernel
theorem dX10_refuse_2 : decode cX10_refuse 2 = .ok (.istore_n 2, 1) := by decide +kernel
theorem dX10_refuse_3 : decode cX10_refuse 3 = .ok (.iload_n 2, 1) := by decide +kernel
theorem dX10_refuse_4 : decode cX10_refuse 4 = .ok (.ifCond .le 22, 3) := by decide +kernel
theorem dX10_refuse_7 : decode cX10_refuse 7 = .ok (.iload_n 2, 1) := by decide +kernel
theorem dX10_refuse_8 : decode cX10_refuse 8 = .ok (.aload_n 0, 1) := by decide +kernel
theorem dX10_refuse_9 : decode cX10_refuse 9 = .ok (.getfield 13, 3) := by decide +kernel
theorem dX10_refuse_12 : decode cX10_refuse 12 = .ok (.arraylength, 1) := by decide +kernel
theorem dX10_refuse_13 : decode cX10_refuse 13 = .ok (.if_icmp .ge 13, 3) := by decide +kernel
theorem dX10_refuse_16 : decode cX10_refuse 16 = .ok (.aload_n 0, 1) := by decide +kernel
theorem dX10_refuse_17 : decode cX10_refuse 17 = .ok (.getfield 13, 3) := by decide +kernel
theorem dX10_refuse_20 : decode cX10_refuse 20 = .ok (.iload_n 2, 1) := by decide +kernel
theorem dX10_refuse_21 : decode cX10_refuse 21 = .ok (.dup2, 1) := by decide +kernel
theorem dX10_refuse_22 : decode cX10_refuse 22 = .ok (.iaload, 1) := by decide +kernel
theorem dX10_refuse_23 : decode cX10_refuse 23 = .ok (.iconst 1, 1) := by decide +kernel
theorem dX10_refuse_24 : decode cX10_refuse 24 = .ok (.iadd, 1) := by decide +kernel
theorem dX10_refuse_25 : decode cX10_refuse 25 = .ok (.iastore, 1) := by decide +kernel
theorem dX10_refuse_26 : decode cX10_refuse 26 = .ok (.iload_n 1, 1) := by decide +kernel
theorem dX10_refuse_27 : decode cX10_refuse 27 = .ok (.ireturn, 1) := by decide +kernel
theorem dX10_refuseBeyond_0 : decode cX10_refuseBeyond 0 = .ok (.ldc 80, 2) := by decide +kernel
theorem dX10_refuseBeyond_2 : decode cX10_refuseBeyond 2 = .ok (.aload_n 0, 1) := by decide +kernel
theorem dX10_refuseBeyond_3 : decode cX10_refuseBeyond 3 = .ok (.iload_n 1, 1) := by decide +kernel
theorem dX10_refuseBeyond_4 : decode cX10_refuseBeyond 4 = .ok (.invokevirtual 81, 3) := by decide +kernel
theorem dX10_refuseBeyond_7 : decode cX10_refuseBeyond 7 = .ok (.isub, 1) := by decide +kernel
theorem dX10_refuseBeyond_8 : decode cX10_refuseBeyond 8 = .ok (.ireturn, 1) := by decide +kernel
theorem dX10_checkRange_0 : decode cX10_checkRange 0 = .ok (.iload_n 0, 1) := by decide +kernel
theorem dX10_checkRange_1 : decode cX10_checkRange 1 = .ok (.iload_n 1, 1) := by decide +kernel
theorem dX10_checkRange_2 : decode cX10_checkRange 2 = .ok (.if_icmp .ge 6, 3) := by decide +kernel
theorem dX10_checkRange_5 : decode cX10_checkRange 5 = .ok (.bipush (-4), 2) := by decide +kernel
theorem dX10_checkRange_7 : decode cX10_checkRange 7 = .ok (.ireturn, 1) := by decide +kernel
theorem dX10_checkRange_8 : decode cX10_checkRange 8 = .ok (.iload_n 0, 1) := by decide +kernel
theorem dX10_checkRange_9 : decode cX10_checkRange 9 = .ok (.iload_n 2, 1) := by decide +kernel
theorem dX10_checkRange_10 : decode cX10_checkRange 10 = .ok (.if_icmp .le 8, 3) := by decide +kernel
theorem dX10_checkRange_13 : decode cX10_checkRange 13 = .ok (.bipush (-6), 2) := by decide +kernel
theorem dX10_checkRange_15 : decode cX10_checkRange 15 = .ok (.goto 4, 3) := by decide +kernel
theorem dX10_checkRange_18 : decode cX10_checkRange 18 = .ok (.iconst 0, 1) := by decide +kernel
theorem dX10_checkRange_19 : decode cX10_checkRange 19 = .ok (.ireturn, 1) := by decide +kernel
theorem dX10_isCell_0 : decode cX10_isCell 0 = .ok (.iload_n 0, 1) := by decide +kernel
theorem dX10_isCell_1 : decode cX10_isCell 1 = .ok (.ifCond .lt 14, 3) := by decide +kernel
theorem dX10_isCell_4 : decode cX10_isCell 4 = .ok (.iload_n 0, 1) := by decide +kernel
theorem dX10_isCell_5 : decode cX10_isCell 5 = .ok (.sipush 144, 3) := by decide +kernel
theorem dX10_isCell_8 : decode cX10_isCell 8 = .ok (.if_icmp .ge 7, 3) := by decide +kernel
theorem dX10_isCell_11 : decode cX10_isCell 11 = .ok (.iconst 1, 1) := by decide +kernel
theorem dX10_isCell_12 : decode cX10_isCell 12 = .ok (.goto 4, 3) := by decide +kernel
theorem dX10_isCell_15 : decode cX10_isCell 15 = .ok (.iconst 0, 1) := by decide +kernel
theorem dX10_isCell_16 : decode cX10_isCell 16 = .ok (.ireturn, 1) := by decide +kernel
theorem dX10_isBlock_0 : decode cX10_isBlock 0 = .ok (.iload_n 0, 1) := by decide +kernel
theorem dX10_isBlock_1 : decode cX10_isBlock 1 = .ok (.ifCond .lt 12, 3) := by decide +kernel
theorem dX10_isBlock_4 : decode cX10_isBlock 4 = .ok (.iload_n 0, 1) := by decide +kernel
theorem dX10_isBlock_5 : decode cX10_isBlock 5 = .ok (.iconst 4, 1) := by decide +kernel
theorem dX10_isBlock_6 : decode cX10_isBlock 6 = .ok (.if_icmp .ge 7, 3) := by decide +kernel
theorem dX10_isBlock_9 : decode cX10_isBlock 9 = .ok (.iconst 1, 1) := by decide +kernel
theorem dX10_isBlock_10 : decode cX10_isBlock 10 = .ok (.goto 4, 3) := by decide +kernel
theorem dX10_isBlock_13 : decode cX10_isBlock 13 = .ok (.iconst 0, 1) := by decide +kernel
theorem dX10_isBlock_14 : decode cX10_isBlock 14 = .ok (.ireturn, 1) := by decide +kernel
theorem dX10_isWind_0 : decode cX10_isWind 0 = .ok (.iload_n 0, 1) := by decide +kernel
theorem dX10_isWind_1 : decode cX10_isWind 1 = .ok (.ifCond .lt 12, 3) := by decide +kernel
theorem dX10_isWind_4 : decode cX10_isWind 4 = .ok (.iload_n 0, 1) := by decide +kernel
theorem dX10_isWind_5 : decode cX10_isWind 5 = .ok (.iconst 4, 1) := by decide +kernel
theorem dX10_isWind_6 : decode cX10_isWind 6 = .ok (.if_icmp .ge 7, 3) := by decide +kernel
theorem dX10_isWind_9 : decode cX10_isWind 9 = .ok (.iconst 1, 1) := by decide +kernel
theorem dX10_isWind_10 : decode cX10_isWind 10 = .ok (.goto 4, 3) := by decide +kernel
theorem dX10_isWind_13 : decode cX10_isWind 13 = .ok (.iconst 0, 1) := by decide +kernel
theorem dX10_isWind_14 : decode cX10_isWind 14 = .ok (.ireturn, 1) := by decide +kernel
theorem dX10_isSetOf_0 : decode cX10_isSetOf 0 = .ok (.iload_n 0, 1) := by decide +kernel
theorem dX10_isSetOf_1 : decode cX10_isSetOf 1 = .ok (.ifCond .lt 14, 3) := by decide +kernel
theorem dX10_isSetOf_4 : decode cX10_isSetOf 4 = .ok (.iload_n 0, 1) := by decide +kernel
theorem dX10_isSetOf_5 : decode cX10_isSetOf 5 = .ok (.iconst 1, 1) := by decide +kernel
theorem dX10_isSetOf_6 : decode cX10_isSetOf 6 = .ok (.iload_n 1, 1) := by decide +kernel
theorem dX10_isSetOf_7 : decode cX10_isSetOf 7 = .ok (.ishl, 1) := by decide +kernel
theorem dX10_isSetOf_8 : decode cX10_isSetOf 8 = .ok (.if_icmp .ge 7, 3) := by decide +kernel
theorem dX10_isSetOf_11 : decode cX10_isSetOf 11 = .ok (.iconst 1, 1) := by decide +kernel
theorem dX10_isSetOf_12 : decode cX10_isSetOf 12 = .ok (.goto 4, 3) := by decide +kernel
theorem dX10_isSetOf_15 : decode cX10_isSetOf 15 = .ok (.iconst 0, 1) := by decide +kernel
theorem dX10_isSetOf_16 : decode cX10_isSetOf 16 = .ok (.ireturn, 1) := by decide +kernel
theorem dX10_days_0 : decode cX10_days 0 = .ok (.iload_n 1, 1) := by decide +kernel
theorem dX10_days_1 : decode cX10_days 1 = .ok (.iconst 1, 1) := by decide +kernel
theorem dX10_days_2 : decode cX10_days 2 = .ok (.sipush 999, 3) := by decide +kernel
theorem dX10_days_5 : decode cX10_days 5 = .ok (.aload_n 0, 1) := by decide +kernel
theorem dX10_days_6 : decode cX10_days 6 = .ok (.getfield 7, 3) := by decide +kernel
theorem dX10_days_9 : decode cX10_days 9 = .ok (.isub, 1) := by decide +kernel
theorem dX10_days_10 : decode cX10_days 10 = .ok (.invokestatic 85, 3) := by decide +kernel
theorem dX10_days_13 : decode cX10_days 13 = .ok (.istore_n 2, 1) := by decide +kernel
theorem dX10_days_14 : decode cX10_days 14 = .ok (.iload_n 2, 1) := by decide +kernel
theorem dX10_days_15 : decode cX10_days 15 = .ok (.ifCond .eq 9, 3) := by decide +kernel
theorem dX10_days_18 : decode cX10_days 18 = .ok (.aload_n 0, 1) := by decide +kernel
theorem dX10_days_19 : decode cX10_days 19 = .ok (.iload_n 2, 1) := by decide +kernel
theorem dX10_days_20 : decode cX10_days 20 = .ok (.invokevirtual 81, 3) := by decide +kernel
theorem dX10_days_23 : decode cX10_days 23 = .ok (.ireturn, 1) := by decide +kernel
theorem dX10_days_24 : decode cX10_days 24 = .ok (.aload_n 0, 1) := by decide +kernel
theorem dX10_days_25 : decode cX10_days 25 = .ok (.dup, 1) := by decide +kernel
theorem dX10_days_26 : decode cX10_days 26 = .ok (.getfield 7, 3) := by decide +kernel
theorem dX10_days_29 : decode cX10_days 29 = .ok (.iload_n 1, 1) := by decide +kernel
theorem dX10_days_30 : decode cX10_days 30 = .ok (.iadd, 1) := by decide +kernel
theorem dX10_days_31 : decode cX10_days 31 = .ok (.putfield 7, 3) := by decide +kernel
theorem dX10_days_34 : decode cX10_days 34 = .ok (.aload_n 0, 1) := by decide +kernel
theorem dX10_days_35 : decode cX10_days 35 = .ok (.getfield 7, 3) := by decide +kernel
theorem dX10_days_38 : decode cX10_days 38 = .ok (.ireturn, 1) := by decide +kernel
theorem dX10_height_0 : decode cX10_height 0 = .ok (.iload_n 1, 1) := by decide +kernel
theorem dX10_height_1 : decode cX10_height 1 = .ok (.invokestatic 89, 3) := by decide +kernel
theorem dX10_height_4 : decode cX10_height 4 = .ok (.ifCond .ne 9, 3) := by decide +kernel
theorem dX10_height_7 : decode cX10_height 7 = .ok (.aload_n 0, 1) := by decide +kernel
theorem dX10_height_8 : decode cX10_height 8 = .ok (.iconst (-1), 1) := by decide +kernel
theorem dX10_height_9 : decode cX10_height 9 = .ok (.invokevirtual 81, 3) := by decide +kernel
theorem dX10_height_12 : decode cX10_height 12 = .ok (.ireturn, 1) := by decide +kernel
theorem dX10_height_13 : decode cX10_height 13 = .ok (.iload_n 2, 1) := by decide +kernel
theorem dX10_height_14 : decode cX10_height 14 = .ok (.iconst 0, 1) := by decide +kernel
theorem dX10_height_15 : decode cX10_height 15 = .ok (.bipush 99, 2) := by decide +kernel
theorem dX10_height_17 : decode cX10_height 17 = .ok (.invokestatic 85, 3) := by decide +kernel
theorem dX10_height_20 : decode cX10_height 20 = .ok (.istore_n 3, 1) := by decide +kernel
theorem dX10_height_21 : decode cX10_height 21 = .ok (.iload_n 3, 1) := by decide +kernel
theorem dX10_height_22 : decode cX10_height 22 = .ok (.ifCond .eq 9, 3) := by decide +kernel
theorem dX10_height_25 : decode cX10_height 25 = .ok (.aload_n 0, 1) := by decide +kernel
theorem dX10_height_26 : decode cX10_height 26 = .ok (.iload_n 3, 1) := by decide +kernel
theorem dX10_height_27 : decode cX10_height 27 = .ok (.invokevirtual 81, 3) := by decide +kernel
theorem dX10_height_30 : decode cX10_height 30 = .ok (.ireturn, 1) := by decide +kernel
theorem dX10_height_31 : decode cX10_height 31 = .ok (.aload_n 0, 1) := by decide +kernel
theorem dX10_height_32 : decode cX10_height 32 = .ok (.getfield 20, 3) := by decide +kernel
theorem dX10_height_35 : decode cX10_height 35 = .ok (.iload_n 1, 1) := by decide +kernel
theorem dX10_height_36 : decode cX10_height 36 = .ok (.iload_n 2, 1) := by decide +kernel
theorem dX10_height_37 : decode cX10_height 37 = .ok (.invokevirtual 93, 3) := by decide +kernel
theorem dX10_height_40 : decode cX10_height 40 = .ok (.ireturn, 1) := by decide +kernel
theorem dX10_down_0 : decode cX10_down 0 = .ok (.iload_n 1, 1) := by decide +kernel
theorem dX10_down_1 : decode cX10_down 1 = .ok (.invokestatic 89, 3) := by decide +kernel
theorem dX10_down_4 : decode cX10_down 4 = .ok (.ifCond .eq 14, 3) := by decide +kernel
theorem dX10_down_7 : decode cX10_down 7 = .ok (.aload_n 0, 1) := by decide +kernel
theorem dX10_down_8 : decode cX10_down 8 = .ok (.getfield 20, 3) := by decide +kernel
theorem dX10_down_11 : decode cX10_down 11 = .ok (.iload_n 1, 1) := by decide +kernel
theorem dX10_down_12 : decode cX10_down 12 = .ok (.invokevirtual 97, 3) := by decide +kernel
theorem dX10_down_15 : decode cX10_down 15 = .ok (.goto 8, 3) := by decide +kernel
theorem dX10_down_18 : decode cX10_down 18 = .ok (.aload_n 0, 1) := by decide +kernel
theorem dX10_down_19 : decode cX10_down 19 = .ok (.iconst (-1), 1) := by decide +kernel
theorem dX10_down_20 : decode cX10_down 20 = .ok (.invokevirtual 81, 3) := by decide +kernel
theorem dX10_down_23 : decode cX10_down 23 = .ok (.ireturn, 1) := by decide +kernel
theorem dX10_house_0 : decode cX10_house 0 = .ok (.iload_n 1, 1) := by decide +kernel
theorem dX10_house_1 : decode cX10_house 1 = .ok (.invokestatic 89, 3) := by decide +kernel
theorem dX10_house_4 : decode cX10_house 4 = .ok (.ifCond .eq 10, 3) := by decide +kernel
theorem dX10_house_7 : decode cX10_house 7 = .ok (.iload_n 2, 1) := by decide +kernel
theorem dX10_house_8 : decode cX10_house 8 = .ok (.invokestatic 100, 3) := by decide +kernel
theorem dX10_house_11 : decode cX10_house 11 = .ok (.ifCond .ne 9, 3) := by decide +kernel
theorem dX10_house_14 : decode cX10_house 14 = .ok (.aload_n 0, 1) := by decide +kernel
theorem dX10_house_15 : decode cX10_house 15 = .ok (.iconst (-1), 1) := by decide +kernel
theorem dX10_house_16 : decode cX10_house 16 = .ok (.invokevirtual 81, 3) := by decide +kernel
theorem dX10_house_19 : decode cX10_house 19 = .ok (.ireturn, 1) := by decide +kernel
theorem dX10_house_20 : decode cX10_house 20 = .ok (.aload_n 0, 1) := by decide +kernel
theorem dX10_house_21 : decode cX10_house 21 = .ok (.getfield 27, 3) := by decide +kernel
theorem dX10_house_24 : decode cX10_house 24 = .ok (.iload_n 1, 1) := by decide +kernel
theorem dX10_house_25 : decode cX10_house 25 = .ok (.invokevirtual 103, 3) := by decide +kernel
theorem dX10_house_28 : decode cX10_house 28 = .ok (.bipush (-9), 2) := by decide +kernel
theorem dX10_house_30 : decode cX10_house 30 = .ok (.if_icmp .eq 10, 3) := by decide +kernel
theorem dX10_house_33 : decode cX10_house 33 = .ok (.aload_n 0, 1) := by decide +kernel
theorem dX10_house_34 : decode cX10_house 34 = .ok (.bipush (-3), 2) := by decide +kernel
theorem dX10_house_36 : decode cX10_house 36 = .ok (.invokevirtual 81, 3) := by decide +kernel
theorem dX10_house_39 : decode cX10_house 39 = .ok (.ireturn, 1) := by decide +kernel
theorem dX10_house_40 : decode cX10_house 40 = .ok (.aload_n 0, 1) := by decide +kernel
theorem dX10_house_41 : decode cX10_house 41 = .ok (.getfield 27, 3) := by decide +kernel
theorem dX10_house_44 : decode cX10_house 44 = .ok (.getfield 106, 3) := by decide +kernel
theorem dX10_house_47 : decode cX10_house 47 = .ok (.bipush 30, 2) := by decide +kernel
theorem dX10_house_49 : decode cX10_house 49 = .ok (.if_icmp .lt 10, 3) := by decide +kernel
theorem dX10_house_52 : decode cX10_house 52 = .ok (.aload_n 0, 1) := by decide +kernel
theorem dX10_house_53 : decode cX10_house 53 = .ok (.bipush (-6), 2) := by decide +kernel
theorem dX10_house_55 : decode cX10_house 55 = .ok (.invokevirtual 81, 3) := by decide +kernel
theorem dX10_house_58 : decode cX10_house 58 = .ok (.ireturn, 1) := by decide +kernel
theorem dX10_house_59 : decode cX10_house 59 = .ok (.aload_n 0, 1) := by decide +kernel
theorem dX10_house_60 : decode cX10_house 60 = .ok (.getfield 55, 3) := by decide +kernel
theorem dX10_house_63 : decode cX10_house 63 = .ok (.invokevirtual 109, 3) := by decide +kernel
theorem dX10_house_66 : decode cX10_house 66 = .ok (.aload_n 0, 1) := by decide +kernel
theorem dX10_house_67 : decode cX10_house 67 = .ok (.getfield 27, 3) := by decide +kernel
theorem dX10_house_70 : decode cX10_house 70 = .ok (.iload_n 1, 1) := by decide +kernel
theorem dX10_house_71 : decode cX10_house 71 = .ok (.iload_n 2, 1) := by decide +kernel
theorem dX10_house_72 : decode cX10_house 72 = .ok (.invokevirtual 112, 3) := by decide +kernel
theorem dX10_house_75 : decode cX10_house 75 = .ok (.ireturn, 1) := by decide +kernel
theorem dX10_person_0 : decode cX10_person 0 = .ok (.aload_n 0, 1) := by decide +kernel
theorem dX10_person_1 : decode cX10_person 1 = .ok (.getfield 27, 3) := by decide +kernel
theorem dX10_person_4 : decode cX10_person 4 = .ok (.iload_n 1, 1) := by decide +kernel
theorem dX10_person_5 : decode cX10_person 5 = .ok (.invokevirtual 115, 3) := by decide +kernel
theorem dX10_person_8 : decode cX10_person 8 = .ok (.ifCond .ne 9, 3) := by decide +kernel
theorem dX10_person_11 : decode cX10_person 11 = .ok (.aload_n 0, 1) := by decide +kernel
theorem dX10_person_12 : decode cX10_person 12 = .ok (.iconst (-1), 1) := by decide +kernel
theorem dX10_person_13 : decode cX10_person 13 = .ok (.invokevirtual 81, 3) := by decide +kernel
theorem dX10_person_16 : decode cX10_person 16 = .ok (.ireturn, 1) := by decide +kernel
theorem dX10_person_17 : decode cX10_person 17 = .ok (.iload_n 3, 1) := by decide +kernel
theorem dX10_person_18 : decode cX10_person 18 = .ok (.ifCond .lt 9, 3) := by decide +kernel
theorem dX10_person_21 : decode cX10_person 21 = .ok (.iload_n 3, 1) := by decide +kernel
theorem dX10_person_22 : decode cX10_person 22 = .ok (.bipush 6, 2) := by decide +kernel
theorem dX10_person_24 : decode cX10_person 24 = .ok (.if_icmp .lt 10, 3) := by decide +kernel
theorem dX10_person_27 : decode cX10_person 27 = .ok (.aload_n 0, 1) := by decide +kernel
theorem dX10_person_28 : decode cX10_person 28 = .ok (.bipush (-2), 2) := by decide +kernel
theorem dX10_person_30 : decode cX10_person 30 = .ok (.invokevirtual 81, 3) := by decide +kernel
theorem dX10_person_33 : decode cX10_person 33 = .ok (.ireturn, 1) := by decide +kernel
theorem dX10_person_34 : decode cX10_person 34 = .ok (.iload_n 2, 1) := by decide +kernel
theorem dX10_person_35 : decode cX10_person 35 = .ok (.ldc 118, 2) := by decide +kernel
theorem dX10_person_37 : decode cX10_person 37 = .ok (.if_icmp .ge 10, 3) := by decide +kernel
theorem dX10_person_40 : decode cX10_person 40 = .ok (.aload_n 0, 1) := by decide +kernel
theorem dX10_person_41 : decode cX10_person 41 = .ok (.bipush (-4), 2) := by decide +kernel
theorem dX10_person_43 : decode cX10_person 43 = .ok (.invokevirtual 81, 3) := by decide +kernel
theorem dX10_person_46 : decode cX10_person 46 = .ok (.ireturn, 1) := by decide +kernel
theorem dX10_person_47 : decode cX10_person 47 = .ok (.iload_n 2, 1) := by decide +kernel
theorem dX10_person_48 : decode cX10_person 48 = .ok (.aload_n 0, 1) := by decide +kernel
theorem dX10_person_49 : decode cX10_person 49 = .ok (.getfield 7, 3) := by decide +kernel
theorem dX10_person_52 : decode cX10_person 52 = .ok (.if_icmp .gt 15, 3) := by decide +kernel
theorem dX10_person_55 : decode cX10_person 55 = .ok (.aload_n 0, 1) := by decide +kernel
theorem dX10_person_56 : decode cX10_person 56 = .ok (.getfield 27, 3) := by decide +kernel
theorem dX10_person_59 : decode cX10_person 59 = .ok (.getfield 119, 3) := by decide +kernel
theorem dX10_person_62 : decode cX10_person 62 = .ok (.bipush 60, 2) := by decide +kernel
theorem dX10_person_64 : decode cX10_person 64 = .ok (.if_icmp .lt 10, 3) := by decide +kernel
theorem dX10_person_67 : decode cX10_person 67 = .ok (.aload_n 0, 1) := by decide +kernel
theorem dX10_person_68 : decode cX10_person 68 = .ok (.bipush (-6), 2) := by decide +kernel
theorem dX10_person_70 : decode cX10_person 70 = .ok (.invokevirtual 81, 3) := by decide +kernel
theorem dX10_person_73 : decode cX10_person 73 = .ok (.ireturn, 1) := by decide +kernel
theorem dX10_person_74 : decode cX10_person 74 = .ok (.aload_n 0, 1) := by decide +kernel
theorem dX10_person_75 : decode cX10_person 75 = .ok (.getfield 55, 3) := by decide +kernel
theorem dX10_person_78 : decode cX10_person 78 = .ok (.invokevirtual 109, 3) := by decide +kernel
theorem dX10_person_81 : decode cX10_person 81 = .ok (.aload_n 0, 1) := by decide +kernel
theorem dX10_person_82 : decode cX10_person 82 = .ok (.getfield 27, 3) := by decide +kernel
theorem dX10_person_85 : decode cX10_person 85 = .ok (.iload_n 1, 1) := by decide +kernel
theorem dX10_person_86 : decode cX10_person 86 = .ok (.iload_n 2, 1) := by decide +kernel
theorem dX10_person_87 : decode cX10_person 87 = .ok (.iload_n 3, 1) := by decide +kernel
theorem dX10_person_88 : decode cX10_person 88 = .ok (.aload_n 0, 1) := by decide +kernel
theorem dX10_person_89 : decode cX10_person 89 = .ok (.getfield 7, 3) := by decide +kernel
theorem dX10_person_92 : decode cX10_person 92 = .ok (.invokevirtual 122, 3) := by decide +kernel
theorem dX10_person_95 : decode cX10_person 95 = .ok (.ireturn, 1) := by decide +kernel
theorem dX10_state_0 : decode cX10_state 0 = .ok (.aload_n 0, 1) := by decide +kernel
theorem dX10_state_1 : decode cX10_state 1 = .ok (.getfield 27, 3) := by decide +kernel
theorem dX10_state_4 : decode cX10_state 4 = .ok (.iload_n 1, 1) := by decide +kernel
theorem dX10_state_5 : decode cX10_state 5 = .ok (.invokevirtual 126, 3) := by decide +kernel
theorem dX10_state_8 : decode cX10_state 8 = .ok (.ifCond .ne 9, 3) := by decide +kernel
theorem dX10_state_11 : decode cX10_state 11 = .ok (.aload_n 0, 1) := by decide +kernel
theorem dX10_state_12 : decode cX10_state 12 = .ok (.iconst (-1), 1) := by decide +kernel
theorem dX10_state_13 : decode cX10_state 13 = .ok (.invokevirtual 81, 3) := by decide +kernel
theorem dX10_state_16 : decode cX10_state 16 = .ok (.ireturn, 1) := by decide +kernel
theorem dX10_state_17 : decode cX10_state 17 = .ok (.iload_n 2, 1) := by decide +kernel
theorem dX10_state_18 : decode cX10_state 18 = .ok (.ifCond .lt 8, 3) := by decide +kernel
theorem dX10_state_21 : decode cX10_state 21 = .ok (.iload_n 2, 1) := by decide +kernel
theorem dX10_state_22 : decode cX10_state 22 = .ok (.iconst 5, 1) := by decide +kernel
theorem dX10_state_23 : decode cX10_state 23 = .ok (.if_icmp .lt 10, 3) := by decide +kernel
theorem dX10_state_26 : decode cX10_state 26 = .ok (.aload_n 0, 1) := by decide +kernel
theorem dX10_state_27 : decode cX10_state 27 = .ok (.bipush (-2), 2) := by decide +kernel
theorem dX10_state_29 : decode cX10_state 29 = .ok (.invokevirtual 81, 3) := by decide +kernel
theorem dX10_state_32 : decode cX10_state 32 = .ok (.ireturn, 1) := by decide +kernel
theorem dX10_state_33 : decode cX10_state 33 = .ok (.aload_n 0, 1) := by decide +kernel
theorem dX10_state_34 : decode cX10_state 34 = .ok (.getfield 27, 3) := by decide +kernel
theorem dX10_state_37 : decode cX10_state 37 = .ok (.iload_n 1, 1) := by decide +kernel
theorem dX10_state_38 : decode cX10_state 38 = .ok (.aload_n 0, 1) := by decide +kernel
theorem dX10_state_39 : decode cX10_state 39 = .ok (.getfield 7, 3) := by decide +kernel
theorem dX10_state_42 : decode cX10_state 42 = .ok (.invokevirtual 129, 3) := by decide +kernel
theorem dX10_state_45 : decode cX10_state 45 = .ok (.iconst 4, 1) := by decide +kernel
theorem dX10_state_46 : decode cX10_state 46 = .ok (.if_icmp .ne 10, 3) := by decide +kernel
theorem dX10_state_49 : decode cX10_state 49 = .ok (.aload_n 0, 1) := by decide +kernel
theorem dX10_state_50 : decode cX10_state 50 = .ok (.bipush (-3), 2) := by decide +kernel
theorem dX10_state_52 : decode cX10_state 52 = .ok (.invokevirtual 81, 3) := by decide +kernel
theorem dX10_state_55 : decode cX10_state 55 = .ok (.ireturn, 1) := by decide +kernel
theorem dX10_state_56 : decode cX10_state 56 = .ok (.aload_n 0, 1) := by decide +kernel
theorem dX10_state_57 : decode cX10_state 57 = .ok (.getfield 27, 3) := by decide +kernel
theorem dX10_state_60 : decode cX10_state 60 = .ok (.getfield 132, 3) := by decide +kernel
theorem dX10_state_63 : decode cX10_state 63 = .ok (.sipush 150, 3) := by decide +kernel
theorem dX10_state_66 : decode cX10_state 66 = .ok (.if_icmp .lt 10, 3) := by decide +kernel
theorem dX10_state_69 : decode cX10_state 69 = .ok (.aload_n 0, 1) := by decide +kernel
theorem dX10_state_70 : decode cX10_state 70 = .ok (.bipush (-6), 2) := by decide +kernel
theorem dX10_state_72 : decode cX10_state 72 = .ok (.invokevirtual 81, 3) := by decide +kernel
theorem dX10_state_75 : decode cX10_state 75 = .ok (.ireturn, 1) := by decide +kernel
theorem dX10_state_76 : decode cX10_state 76 = .ok (.aload_n 0, 1) := by decide +kernel
theorem dX10_state_77 : decode cX10_state 77 = .ok (.getfield 55, 3) := by decide +kernel
theorem dX10_state_80 : decode cX10_state 80 = .ok (.invokevirtual 109, 3) := by decide +kernel
theorem dX10_state_83 : decode cX10_state 83 = .ok (.aload_n 0, 1) := by decide +kernel
theorem dX10_state_84 : decode cX10_state 84 = .ok (.getfield 27, 3) := by decide +kernel
theorem dX10_state_87 : decode cX10_state 87 = .ok (.iload_n 1, 1) := by decide +kernel
theorem dX10_state_88 : decode cX10_state 88 = .ok (.iload_n 2, 1) := by decide +kernel
theorem dX10_state_89 : decode cX10_state 89 = .ok (.aload_n 0, 1) := by decide +kernel
theorem dX10_state_90 : decode cX10_state 90 = .ok (.getfield 7, 3) := by decide +kernel
theorem dX10_state_93 : decode cX10_state 93 = .ok (.invokevirtual 135, 3) := by decide +kernel
theorem dX10_state_96 : decode cX10_state 96 = .ok (.ireturn, 1) := by decide +kernel
theorem dX10_stateOf_0 : decode cX10_stateOf 0 = .ok (.aload_n 0, 1) := by decide +kernel
theorem dX10_stateOf_1 : decode cX10_stateOf 1 = .ok (.getfield 27, 3) := by decide +kernel
theorem dX10_stateOf_4 : decode cX10_stateOf 4 = .ok (.iload_n 1, 1) := by decide +kernel
theorem dX10_stateOf_5 : decode cX10_stateOf 5 = .ok (.invokevirtual 126, 3) := by decide +kernel
theorem dX10_stateOf_8 : decode cX10_stateOf 8 = .ok (.ifCond .ne 9, 3) := by decide +kernel
theorem dX10_stateOf_11 : decode cX10_stateOf 11 = .ok (.aload_n 0, 1) := by decide +kernel
theorem dX10_stateOf_12 : decode cX10_stateOf 12 = .ok (.iconst (-1), 1) := by decide +kernel
theorem dX10_stateOf_13 : decode cX10_stateOf 13 = .ok (.invokevirtual 81, 3) := by decide +kernel
theorem dX10_stateOf_16 : decode cX10_stateOf 16 = .ok (.ireturn, 1) := by decide +kernel
theorem dX10_stateOf_17 : decode cX10_stateOf 17 = .ok (.iload_n 2, 1) := by decide +kernel
theorem dX10_stateOf_18 : decode cX10_stateOf 18 = .ok (.iconst 0, 1) := by decide +kernel
theorem dX10_stateOf_19 : decode cX10_stateOf 19 = .ok (.sipush 999, 3) := by decide +kernel
theorem dX10_stateOf_22 : decode cX10_stateOf 22 = .ok (.invokestatic 85, 3) := by decide +kernel
theorem dX10_stateOf_25 : decode cX10_stateOf 25 = .ok (.istore_n 3, 1) := by decide +kernel
theorem dX10_stateOf_26 : decode cX10_stateOf 26 = .ok (.iload_n 3, 1) := by decide +kernel
theorem dX10_stateOf_27 : decode cX10_stateOf 27 = .ok (.ifCond .ne 15, 3) := by decide +kernel
theorem dX10_stateOf_30 : decode cX10_stateOf 30 = .ok (.aload_n 0, 1) := by decide +kernel
theorem dX10_stateOf_31 : decode cX10_stateOf 31 = .ok (.getfield 27, 3) := by decide +kernel
theorem dX10_stateOf_34 : decode cX10_stateOf 34 = .ok (.iload_n 1, 1) := by decide +kernel
theorem dX10_stateOf_35 : decode cX10_stateOf 35 = .ok (.iload_n 2, 1) := by decide +kernel
theorem dX10_stateOf_36 : decode cX10_stateOf 36 = .ok (.invokevirtual 129, 3) := by decide +kernel
theorem dX10_stateOf_39 : decode cX10_stateOf 39 = .ok (.goto 8, 3) := by decide +kernel
theorem dX10_stateOf_42 : decode cX10_stateOf 42 = .ok (.aload_n 0, 1) := by decide +kernel
theorem dX10_stateOf_43 : decode cX10_stateOf 43 = .ok (.iload_n 3, 1) := by decide +kernel
theorem dX10_stateOf_44 : decode cX10_stateOf 44 = .ok (.invokevirtual 81, 3) := by decide +kernel
theorem dX10_stateOf_47 : decode cX10_stateOf 47 = .ok (.ireturn, 1) := by decide +kernel
theorem dX10_here_0 : decode cX10_here 0 = .ok (.aload_n 0, 1) := by decide +kernel
theorem dX10_here_1 : decode cX10_here 1 = .ok (.getfield 27, 3) := by decide +kernel
theorem dX10_here_4 : decode cX10_here 4 = .ok (.iload_n 1, 1) := by decide +kernel
theorem dX10_here_5 : decode cX10_here 5 = .ok (.invokevirtual 115, 3) := by decide +kernel
theorem dX10_here_8 : decode cX10_here 8 = .ok (.ifCond .ne 9, 3) := by decide +kernel
theorem dX10_here_11 : decode cX10_here 11 = .ok (.aload_n 0, 1) := by decide +kernel
theorem dX10_here_12 : decode cX10_here 12 = .ok (.iconst (-1), 1) := by decide +kernel
theorem dX10_here_13 : decode cX10_here 13 = .ok (.invokevirtual 81, 3) := by decide +kernel
theorem dX10_here_16 : decode cX10_here 16 = .ok (.ireturn, 1) := by decide +kernel
theorem dX10_here_17 : decode cX10_here 17 = .ok (.iload_n 2, 1) := by decide +kernel
theorem dX10_here_18 : decode cX10_here 18 = .ok (.iconst 0, 1) := by decide +kernel
theorem dX10_here_19 : decode cX10_here 19 = .ok (.sipush 999, 3) := by decide +kernel
theorem dX10_here_22 : decode cX10_here 22 = .ok (.invokestatic 85, 3) := by decide +kernel
theorem dX10_here_25 : decode cX10_here 25 = .ok (.istore_n 3, 1) := by decide +kernel
theorem dX10_here_26 : decode cX10_here 26 = .ok (.iload_n 3, 1) := by decide +kernel
theorem dX10_here_27 : decode cX10_here 27 = .ok (.ifCond .ne 15, 3) := by decide +kernel
theorem dX10_here_30 : decode cX10_here 30 = .ok (.aload_n 0, 1) := by decide +kernel
theorem dX10_here_31 : decode cX10_here 31 = .ok (.getfield 27, 3) := by decide +kernel
theorem dX10_here_34 : decode cX10_here 34 = .ok (.iload_n 1, 1) := by decide +kernel
theorem dX10_here_35 : decode cX10_here 35 = .ok (.iload_n 2, 1) := by decide +kernel
theorem dX10_here_36 : decode cX10_here 36 = .ok (.invokevirtual 138, 3) := by decide +kernel
theorem dX10_here_39 : decode cX10_here 39 = .ok (.goto 8, 3) := by decide +kernel
theorem dX10_here_42 : decode cX10_here 42 = .ok (.aload_n 0, 1) := by decide +kernel
theorem dX10_here_43 : decode cX10_here 43 = .ok (.iload_n 3, 1) := by decide +kernel
theorem dX10_here_44 : decode cX10_here 44 = .ok (.invokevirtual 81, 3) := by decide +kernel
theorem dX10_here_47 : decode cX10_here 47 = .ok (.ireturn, 1) := by decide +kernel
theorem dX10_feed_0 : decode cX10_feed 0 = .ok (.iload_n 1, 1) := by decide +kernel
theorem dX10_feed_1 : decode cX10_feed 1 = .ok (.iconst 1, 1) := by decide +kernel
theorem dX10_feed_2 : decode cX10_feed 2 = .ok (.if_icmp .ge 10, 3) := by decide +kernel
theorem dX10_feed_5 : decode cX10_feed 5 = .ok (.aload_n 0, 1) := by decide +kernel
theorem dX10_feed_6 : decode cX10_feed 6 = .ok (.bipush (-4), 2) := by decide +kernel
theorem dX10_feed_8 : decode cX10_feed 8 = .ok (.invokevirtual 81, 3) := by decide +kernel
theorem dX10_feed_11 : decode cX10_feed 11 = .ok (.ireturn, 1) := by decide +kernel
theorem dX10_feed_12 : decode cX10_feed 12 = .ok (.iload_n 1, 1) := by decide +kernel
theorem dX10_feed_13 : decode cX10_feed 13 = .ok (.bipush 8, 2) := by decide +kernel
theorem dX10_feed_15 : decode cX10_feed 15 = .ok (.if_icmp .gt 17, 3) := by decide +kernel
theorem dX10_feed_18 : decode cX10_feed 18 = .ok (.aload_n 0, 1) := by decide +kernel
theorem dX10_feed_19 : decode cX10_feed 19 = .ok (.getfield 34, 3) := by decide +kernel
theorem dX10_feed_22 : decode cX10_feed 22 = .ok (.getfield 141, 3) := by decide +kernel
theorem dX10_feed_25 : decode cX10_feed 25 = .ok (.iload_n 1, 1) := by decide +kernel
theorem dX10_feed_26 : decode cX10_feed 26 = .ok (.iadd, 1) := by decide +kernel
theorem dX10_feed_27 : decode cX10_feed 27 = .ok (.bipush 60, 2) := by decide +kernel
theorem dX10_feed_29 : decode cX10_feed 29 = .ok (.if_icmp .le 10, 3) := by decide +kernel
theorem dX10_feed_32 : decode cX10_feed 32 = .ok (.aload_n 0, 1) := by decide +kernel
theorem dX10_feed_33 : decode cX10_feed 33 = .ok (.bipush (-6), 2) := by decide +kernel
theorem dX10_feed_35 : decode cX10_feed 35 = .ok (.invokevirtual 81, 3) := by decide +kernel
theorem dX10_feed_38 : decode cX10_feed 38 = .ok (.ireturn, 1) := by decide +kernel
theorem dX10_feed_39 : decode cX10_feed 39 = .ok (.aload_n 0, 1) := by decide +kernel
theorem dX10_feed_40 : decode cX10_feed 40 = .ok (.getfield 34, 3) := by decide +kernel
theorem dX10_feed_43 : decode cX10_feed 43 = .ok (.iload_n 1, 1) := by decide +kernel
theorem dX10_feed_44 : decode cX10_feed 44 = .ok (.lload_n 2, 1) := by decide +kernel
theorem dX10_feed_45 : decode cX10_feed 45 = .ok (.invokevirtual 144, 3) := by decide +kernel
theorem dX10_feed_48 : decode cX10_feed 48 = .ok (.ireturn, 1) := by decide +kernel
theorem dX10_rule_0 : decode cX10_rule 0 = .ok (.iload_n 1, 1) := by decide +kernel
theorem dX10_rule_1 : decode cX10_rule 1 = .ok (.ifCond .lt 8, 3) := by decide +kernel
theorem dX10_rule_4 : decode cX10_rule 4 = .ok (.iload_n 1, 1) := by decide +kernel
theorem dX10_rule_5 : decode cX10_rule 5 = .ok (.iconst 2, 1) := by decide +kernel
theorem dX10_rule_6 : decode cX10_rule 6 = .ok (.if_icmp .lt 10, 3) := by decide +kernel
theorem dX10_rule_9 : decode cX10_rule 9 = .ok (.aload_n 0, 1) := by decide +kernel
theorem dX10_rule_10 : decode cX10_rule 10 = .ok (.bipush (-2), 2) := by decide +kernel
theorem dX10_rule_12 : decode cX10_rule 12 = .ok (.invokevirtual 81, 3) := by decide +kernel
theorem dX10_rule_15 : decode cX10_rule 15 = .ok (.ireturn, 1) := by decide +kernel
theorem dX10_rule_16 : decode cX10_rule 16 = .ok (.iload_n 2, 1) := by decide +kernel
theorem dX10_rule_17 : decode cX10_rule 17 = .ok (.aload_n 0, 1) := by decide +kernel
theorem dX10_rule_18 : decode cX10_rule 18 = .ok (.getfield 7, 3) := by decide +kernel
theorem dX10_rule_21 : decode cX10_rule 21 = .ok (.if_icmp .ge 10, 3) := by decide +kernel
theorem dX10_rule_24 : decode cX10_rule 24 = .ok (.aload_n 0, 1) := by decide +kernel
theorem dX10_rule_25 : decode cX10_rule 25 = .ok (.bipush (-4), 2) := by decide +kernel
theorem dX10_rule_27 : decode cX10_rule 27 = .ok (.invokevirtual 81, 3) := by decide +kernel
theorem dX10_rule_30 : decode cX10_rule 30 = .ok (.ireturn, 1) := by decide +kernel
theorem dX10_rule_31 : decode cX10_rule 31 = .ok (.iload_n 2, 1) := by decide +kernel
theorem dX10_rule_32 : decode cX10_rule 32 = .ok (.sipush 999, 3) := by decide +kernel
theorem dX10_rule_35 : decode cX10_rule 35 = .ok (.if_icmp .gt 15, 3) := by decide +kernel
theorem dX10_rule_38 : decode cX10_rule 38 = .ok (.aload_n 0, 1) := by decide +kernel
theorem dX10_rule_39 : decode cX10_rule 39 = .ok (.getfield 34, 3) := by decide +kernel
theorem dX10_rule_42 : decode cX10_rule 42 = .ok (.getfield 148, 3) := by decide +kernel
theorem dX10_rule_45 : decode cX10_rule 45 = .ok (.bipush 30, 2) := by decide +kernel
theorem dX10_rule_47 : decode cX10_rule 47 = .ok (.if_icmp .lt 10, 3) := by decide +kernel
theorem dX10_rule_50 : decode cX10_rule 50 = .ok (.aload_n 0, 1) := by decide +kernel
theorem dX10_rule_51 : decode cX10_rule 51 = .ok (.bipush (-6), 2) := by decide +kernel
theorem dX10_rule_53 : decode cX10_rule 53 = .ok (.invokevirtual 81, 3) := by decide +kernel
theorem dX10_rule_56 : decode cX10_rule 56 = .ok (.ireturn, 1) := by decide +kernel
theorem dX10_rule_57 : decode cX10_rule 57 = .ok (.aload_n 0, 1) := by decide +kernel
theorem dX10_rule_58 : decode cX10_rule 58 = .ok (.getfield 34, 3) := by decide +kernel
theorem dX10_rule_61 : decode cX10_rule 61 = .ok (.iload_n 1, 1) := by decide +kernel
theorem dX10_rule_62 : decode cX10_rule 62 = .ok (.iload_n 2, 1) := by decide +kernel
theorem dX10_rule_63 : decode cX10_rule 63 = .ok (.invokevirtual 151, 3) := by decide +kernel
theorem dX10_rule_66 : decode cX10_rule 66 = .ok (.ireturn, 1) := by decide +kernel
theorem dX10_card_0 : decode cX10_card 0 = .ok (.aload_n 0, 1) := by decide +kernel
theorem dX10_card_1 : decode cX10_card 1 = .ok (.getfield 27, 3) := by decide +kernel
theorem dX10_card_4 : decode cX10_card 4 = .ok (.iload_n 1, 1) := by decide +kernel
theorem dX10_card_5 : decode cX10_card 5 = .ok (.invokevirtual 115, 3) := by decide +kernel
theorem dX10_card_8 : decode cX10_card 8 = .ok (.ifCond .ne 9, 3) := by decide +kernel
theorem dX10_card_11 : decode cX10_card 11 = .ok (.aload_n 0, 1) := by decide +kernel
theorem dX10_card_12 : decode cX10_card 12 = .ok (.iconst (-1), 1) := by decide +kernel
theorem dX10_card_13 : decode cX10_card 13 = .ok (.invokevirtual 81, 3) := by decide +kernel
theorem dX10_card_16 : decode cX10_card 16 = .ok (.ireturn, 1) := by decide +kernel
theorem dX10_card_17 : decode cX10_card 17 = .ok (.aload_n 0, 1) := by decide +kernel
theorem dX10_card_18 : decode cX10_card 18 = .ok (.getfield 41, 3) := by decide +kernel
theorem dX10_card_21 : decode cX10_card 21 = .ok (.getfield 154, 3) := by decide +kernel
theorem dX10_card_24 : decode cX10_card 24 = .ok (.bipush 40, 2) := by decide +kernel
theorem dX10_card_26 : decode cX10_card 26 = .ok (.if_icmp .lt 10, 3) := by decide +kernel
theorem dX10_card_29 : decode cX10_card 29 = .ok (.aload_n 0, 1) := by decide +kernel
theorem dX10_card_30 : decode cX10_card 30 = .ok (.bipush (-6), 2) := by decide +kernel
theorem dX10_card_32 : decode cX10_card 32 = .ok (.invokevirtual 81, 3) := by decide +kernel
theorem dX10_card_35 : decode cX10_card 35 = .ok (.ireturn, 1) := by decide +kernel
theorem dX10_card_36 : decode cX10_card 36 = .ok (.aload_n 0, 1) := by decide +kernel
theorem dX10_card_37 : decode cX10_card 37 = .ok (.getfield 41, 3) := by decide +kernel
theorem dX10_card_40 : decode cX10_card 40 = .ok (.iload_n 1, 1) := by decide +kernel
theorem dX10_card_41 : decode cX10_card 41 = .ok (.aload_n 0, 1) := by decide +kernel
theorem dX10_card_42 : decode cX10_card 42 = .ok (.getfield 7, 3) := by decide +kernel
theorem dX10_card_45 : decode cX10_card 45 = .ok (.invokevirtual 157, 3) := by decide +kernel
theorem dX10_card_48 : decode cX10_card 48 = .ok (.ireturn, 1) := by decide +kernel
theorem dX10_end_0 : decode cX10_end 0 = .ok (.aload_n 0, 1) := by decide +kernel
theorem dX10_end_1 : decode cX10_end 1 = .ok (.getfield 41, 3) := by decide +kernel
theorem dX10_end_4 : decode cX10_end 4 = .ok (.iload_n 1, 1) := by decide +kernel
theorem dX10_end_5 : decode cX10_end 5 = .ok (.invokevirtual 160, 3) := by decide +kernel
theorem dX10_end_8 : decode cX10_end 8 = .ok (.ifCond .ne 9, 3) := by decide +kernel
theorem dX10_end_11 : decode cX10_end 11 = .ok (.aload_n 0, 1) := by decide +kernel
theorem dX10_end_12 : decode cX10_end 12 = .ok (.iconst (-1), 1) := by decide +kernel
theorem dX10_end_13 : decode cX10_end 13 = .ok (.invokevirtual 81, 3) := by decide +kernel
theorem dX10_end_16 : decode cX10_end 16 = .ok (.ireturn, 1) := by decide +kernel
theorem dX10_end_17 : decode cX10_end 17 = .ok (.aload_n 0, 1) := by decide +kernel
theorem dX10_end_18 : decode cX10_end 18 = .ok (.getfield 41, 3) := by decide +kernel
theorem dX10_end_21 : decode cX10_end 21 = .ok (.iload_n 1, 1) := by decide +kernel
theorem dX10_end_22 : decode cX10_end 22 = .ok (.invokevirtual 163, 3) := by decide +kernel
theorem dX10_end_25 : decode cX10_end 25 = .ok (.ifCond .eq 10, 3) := by decide +kernel
theorem dX10_end_28 : decode cX10_end 28 = .ok (.aload_n 0, 1) := by decide +kernel
theorem dX10_end_29 : decode cX10_end 29 = .ok (.bipush (-3), 2) := by decide +kernel
theorem dX10_end_31 : decode cX10_end 31 = .ok (.invokevirtual 81, 3) := by decide +kernel
theorem dX10_end_34 : decode cX10_end 34 = .ok (.ireturn, 1) := by decide +kernel
theorem dX10_end_35 : decode cX10_end 35 = .ok (.aload_n 0, 1) := by decide +kernel
theorem dX10_end_36 : decode cX10_end 36 = .ok (.getfield 41, 3) := by decide +kernel
theorem dX10_end_39 : decode cX10_end 39 = .ok (.iload_n 1, 1) := by decide +kernel
theorem dX10_end_40 : decode cX10_end 40 = .ok (.aload_n 0, 1) := by decide +kernel
theorem dX10_end_41 : decode cX10_end 41 = .ok (.getfield 7, 3) := by decide +kernel
theorem dX10_end_44 : decode cX10_end 44 = .ok (.invokevirtual 166, 3) := by decide +kernel
theorem dX10_end_47 : decode cX10_end 47 = .ok (.iconst 1, 1) := by decide +kernel
theorem dX10_end_48 : decode cX10_end 48 = .ok (.ireturn, 1) := by decide +kernel
theorem dX10_draw_0 : decode cX10_draw 0 = .ok (.aload_n 0, 1) := by decide +kernel
theorem dX10_draw_1 : decode cX10_draw 1 = .ok (.getfield 41, 3) := by decide +kernel
theorem dX10_draw_4 : decode cX10_draw 4 = .ok (.iload_n 1, 1) := by decide +kernel
theorem dX10_draw_5 : decode cX10_draw 5 = .ok (.invokevirtual 160, 3) := by decide +kernel
theorem dX10_draw_8 : decode cX10_draw 8 = .ok (.ifCond .ne 9, 3) := by decide +kernel
theorem dX10_draw_11 : decode cX10_draw 11 = .ok (.aload_n 0, 1) := by decide +kernel
theorem dX10_draw_12 : decode cX10_draw 12 = .ok (.iconst (-1), 1) := by decide +kernel
theorem dX10_draw_13 : decode cX10_draw 13 = .ok (.invokevirtual 81, 3) := by decide +kernel
theorem dX10_draw_16 : decode cX10_draw 16 = .ok (.ireturn, 1) := by decide +kernel
theorem dX10_draw_17 : decode cX10_draw 17 = .ok (.iload_n 2, 1) := by decide +kernel
theorem dX10_draw_18 : decode cX10_draw 18 = .ok (.iconst 0, 1) := by decide +kernel
theorem dX10_draw_19 : decode cX10_draw 19 = .ok (.sipush 999, 3) := by decide +kernel
theorem dX10_draw_22 : decode cX10_draw 22 = .ok (.invokestatic 85, 3) := by decide +kernel
theorem dX10_draw_25 : decode cX10_draw 25 = .ok (.istore_n 3, 1) := by decide +kernel
theorem dX10_draw_26 : decode cX10_draw 26 = .ok (.iload_n 3, 1) := by decide +kernel
theorem dX10_draw_27 : decode cX10_draw 27 = .ok (.ifCond .eq 9, 3) := by decide +kernel
theorem dX10_draw_30 : decode cX10_draw 30 = .ok (.aload_n 0, 1) := by decide +kernel
theorem dX10_draw_31 : decode cX10_draw 31 = .ok (.iload_n 3, 1) := by decide +kernel
theorem dX10_draw_32 : decode cX10_draw 32 = .ok (.invokevirtual 81, 3) := by decide +kernel
theorem dX10_draw_35 : decode cX10_draw 35 = .ok (.ireturn, 1) := by decide +kernel
theorem dX10_draw_36 : decode cX10_draw 36 = .ok (.aload_n 0, 1) := by decide +kernel
theorem dX10_draw_37 : decode cX10_draw 37 = .ok (.getfield 41, 3) := by decide +kernel
theorem dX10_draw_40 : decode cX10_draw 40 = .ok (.iload_n 1, 1) := by decide +kernel
theorem dX10_draw_41 : decode cX10_draw 41 = .ok (.iload_n 2, 1) := by decide +kernel
theorem dX10_draw_42 : decode cX10_draw 42 = .ok (.invokevirtual 170, 3) := by decide +kernel
theorem dX10_draw_45 : decode cX10_draw 45 = .ok (.ifCond .eq 34, 3) := by decide +kernel
theorem dX10_draw_48 : decode cX10_draw 48 = .ok (.aload_n 0, 1) := by decide +kernel
theorem dX10_draw_49 : decode cX10_draw 49 = .ok (.getfield 34, 3) := by decide +kernel
theorem dX10_draw_52 : decode cX10_draw 52 = .ok (.aload_n 0, 1) := by decide +kernel
theorem dX10_draw_53 : decode cX10_draw 53 = .ok (.getfield 27, 3) := by decide +kernel
theorem dX10_draw_56 : decode cX10_draw 56 = .ok (.aload_n 0, 1) := by decide +kernel
theorem dX10_draw_57 : decode cX10_draw 57 = .ok (.getfield 41, 3) := by decide +kernel
theorem dX10_draw_60 : decode cX10_draw 60 = .ok (.iload_n 1, 1) := by decide +kernel
theorem dX10_draw_61 : decode cX10_draw 61 = .ok (.invokevirtual 174, 3) := by decide +kernel
theorem dX10_draw_64 : decode cX10_draw 64 = .ok (.iload_n 2, 1) := by decide +kernel
theorem dX10_draw_65 : decode cX10_draw 65 = .ok (.aload_n 0, 1) := by decide +kernel
theorem dX10_draw_66 : decode cX10_draw 66 = .ok (.getfield 41, 3) := by decide +kernel
theorem dX10_draw_69 : decode cX10_draw 69 = .ok (.iload_n 1, 1) := by decide +kernel
theorem dX10_draw_70 : decode cX10_draw 70 = .ok (.invokevirtual 177, 3) := by decide +kernel
theorem dX10_draw_73 : decode cX10_draw 73 = .ok (.invokevirtual 180, 3) := by decide +kernel
theorem dX10_draw_76 : decode cX10_draw 76 = .ok (.goto 4, 3) := by decide +kernel
theorem dX10_draw_79 : decode cX10_draw 79 = .ok (.iconst 0, 1) := by decide +kernel
theorem dX10_draw_80 : decode cX10_draw 80 = .ok (.ireturn, 1) := by decide +kernel
theorem dX10_points_0 : decode cX10_points 0 = .ok (.aload_n 0, 1) := by decide +kernel
theorem dX10_points_1 : decode cX10_points 1 = .ok (.getfield 27, 3) := by decide +kernel
theorem dX10_points_4 : decode cX10_points 4 = .ok (.iload_n 1, 1) := by decide +kernel
theorem dX10_points_5 : decode cX10_points 5 = .ok (.invokevirtual 126, 3) := by decide +kernel
theorem dX10_points_8 : decode cX10_points 8 = .ok (.ifCond .ne 9, 3) := by decide +kernel
theorem dX10_points_11 : decode cX10_points 11 = .ok (.aload_n 0, 1) := by decide +kernel
theorem dX10_points_12 : decode cX10_points 12 = .ok (.iconst (-1), 1) := by decide +kernel
theorem dX10_points_13 : decode cX10_points 13 = .ok (.invokevirtual 184, 3) := by decide +kernel
theorem dX10_points_16 : decode cX10_points 16 = .ok (.ireturn, 1) := by decide +kernel
theorem dX10_points_17 : decode cX10_points 17 = .ok (.iload_n 2, 1) := by decide +kernel
theorem dX10_points_18 : decode cX10_points 18 = .ok (.iconst 0, 1) := by decide +kernel
theorem dX10_points_19 : decode cX10_points 19 = .ok (.sipush 999, 3) := by decide +kernel
theorem dX10_points_22 : decode cX10_points 22 = .ok (.invokestatic 85, 3) := by decide +kernel
theorem dX10_points_25 : decode cX10_points 25 = .ok (.istore_n 3, 1) := by decide +kernel
theorem dX10_points_26 : decode cX10_points 26 = .ok (.iload_n 3, 1) := by decide +kernel
theorem dX10_points_27 : decode cX10_points 27 = .ok (.ifCond .ne 19, 3) := by decide +kernel
theorem dX10_points_30 : decode cX10_points 30 = .ok (.aload_n 0, 1) := by decide +kernel
theorem dX10_points_31 : decode cX10_points 31 = .ok (.getfield 34, 3) := by decide +kernel
theorem dX10_points_34 : decode cX10_points 34 = .ok (.aload_n 0, 1) := by decide +kernel
theorem dX10_points_35 : decode cX10_points 35 = .ok (.getfield 27, 3) := by decide +kernel
theorem dX10_points_38 : decode cX10_points 38 = .ok (.iload_n 1, 1) := by decide +kernel
theorem dX10_points_39 : decode cX10_points 39 = .ok (.iload_n 2, 1) := by decide +kernel
theorem dX10_points_40 : decode cX10_points 40 = .ok (.invokevirtual 187, 3) := by decide +kernel
theorem dX10_points_43 : decode cX10_points 43 = .ok (.goto 8, 3) := by decide +kernel
theorem dX10_points_46 : decode cX10_points 46 = .ok (.aload_n 0, 1) := by decide +kernel
theorem dX10_points_47 : decode cX10_points 47 = .ok (.iload_n 3, 1) := by decide +kernel
theorem dX10_points_48 : decode cX10_points 48 = .ok (.invokevirtual 184, 3) := by decide +kernel
theorem dX10_points_51 : decode cX10_points 51 = .ok (.ireturn, 1) := by decide +kernel
theorem dX10_handed_0 : decode cX10_handed 0 = .ok (.aload_n 0, 1) := by decide +kernel
theorem dX10_handed_1 : decode cX10_handed 1 = .ok (.getfield 41, 3) := by decide +kernel
theorem dX10_handed_4 : decode cX10_handed 4 = .ok (.iload_n 1, 1) := by decide +kernel
theorem dX10_handed_5 : decode cX10_handed 5 = .ok (.invokevirtual 160, 3) := by decide +kernel
theorem dX10_handed_8 : decode cX10_handed 8 = .ok (.ifCond .ne 9, 3) := by decide +kernel
theorem dX10_handed_11 : decode cX10_handed 11 = .ok (.aload_n 0, 1) := by decide +kernel
theorem dX10_handed_12 : decode cX10_handed 12 = .ok (.iconst (-1), 1) := by decide +kernel
theorem dX10_handed_13 : decode cX10_handed 13 = .ok (.invokevirtual 81, 3) := by decide +kernel
theorem dX10_handed_16 : decode cX10_handed 16 = .ok (.ireturn, 1) := by decide +kernel
theorem dX10_handed_17 : decode cX10_handed 17 = .ok (.aload_n 0, 1) := by decide +kernel
theorem dX10_handed_18 : decode cX10_handed 18 = .ok (.getfield 41, 3) := by decide +kernel
theorem dX10_handed_21 : decode cX10_handed 21 = .ok (.iload_n 1, 1) := by decide +kernel
theorem dX10_handed_22 : decode cX10_handed 22 = .ok (.invokevirtual 163, 3) := by decide +kernel
theorem dX10_handed_25 : decode cX10_handed 25 = .ok (.ifCond .eq 10, 3) := by decide +kernel
theorem dX10_handed_28 : decode cX10_handed 28 = .ok (.aload_n 0, 1) := by decide +kernel
theorem dX10_handed_29 : decode cX10_handed 29 = .ok (.bipush (-3), 2) := by decide +kernel
theorem dX10_handed_31 : decode cX10_handed 31 = .ok (.invokevirtual 81, 3) := by decide +kernel
theorem dX10_handed_34 : decode cX10_handed 34 = .ok (.ireturn, 1) := by decide +kernel
theorem dX10_handed_35 : decode cX10_handed 35 = .ok (.iload_n 2, 1) := by decide +kernel
theorem dX10_handed_36 : decode cX10_handed 36 = .ok (.iconst 1, 1) := by decide +kernel
theorem dX10_handed_37 : decode cX10_handed 37 = .ok (.if_icmp .lt 7, 3) := by decide +kernel
theorem dX10_handed_40 : decode cX10_handed 40 = .ok (.iload_n 3, 1) := by decide +kernel
theorem dX10_handed_41 : decode cX10_handed 41 = .ok (.ifCond .ge 10, 3) := by decide +kernel
theorem dX10_handed_44 : decode cX10_handed 44 = .ok (.aload_n 0, 1) := by decide +kernel
theorem dX10_handed_45 : decode cX10_handed 45 = .ok (.bipush (-4), 2) := by decide +kernel
theorem dX10_handed_47 : decode cX10_handed 47 = .ok (.invokevirtual 81, 3) := by decide +kernel
theorem dX10_handed_50 : decode cX10_handed 50 = .ok (.ireturn, 1) := by decide +kernel
theorem dX10_handed_51 : decode cX10_handed 51 = .ok (.iload_n 2, 1) := by decide +kernel
theorem dX10_handed_52 : decode cX10_handed 52 = .ok (.sipush 9999, 3) := by decide +kernel
theorem dX10_handed_55 : decode cX10_handed 55 = .ok (.if_icmp .gt 22, 3) := by decide +kernel
theorem dX10_handed_58 : decode cX10_handed 58 = .ok (.iload_n 3, 1) := by decide +kernel
theorem dX10_handed_59 : decode cX10_handed 59 = .ok (.sipush 9999, 3) := by decide +kernel
theorem dX10_handed_62 : decode cX10_handed 62 = .ok (.if_icmp .gt 15, 3) := by decide +kernel
theorem dX10_handed_65 : decode cX10_handed 65 = .ok (.aload_n 0, 1) := by decide +kernel
theorem dX10_handed_66 : decode cX10_handed 66 = .ok (.getfield 48, 3) := by decide +kernel
theorem dX10_handed_69 : decode cX10_handed 69 = .ok (.getfield 191, 3) := by decide +kernel
theorem dX10_handed_72 : decode cX10_handed 72 = .ok (.bipush 60, 2) := by decide +kernel
theorem dX10_handed_74 : decode cX10_handed 74 = .ok (.if_icmp .lt 10, 3) := by decide +kernel
theorem dX10_handed_77 : decode cX10_handed 77 = .ok (.aload_n 0, 1) := by decide +kernel
theorem dX10_handed_78 : decode cX10_handed 78 = .ok (.bipush (-6), 2) := by decide +kernel
theorem dX10_handed_80 : decode cX10_handed 80 = .ok (.invokevirtual 81, 3) := by decide +kernel
theorem dX10_handed_83 : decode cX10_handed 83 = .ok (.ireturn, 1) := by decide +kernel
theorem dX10_handed_84 : decode cX10_handed 84 = .ok (.aload_n 0, 1) := by decide +kernel
theorem dX10_handed_85 : decode cX10_handed 85 = .ok (.getfield 48, 3) := by decide +kernel
theorem dX10_handed_88 : decode cX10_handed 88 = .ok (.aload_n 0, 1) := by decide +kernel
theorem dX10_handed_89 : decode cX10_handed 89 = .ok (.getfield 7, 3) := by decide +kernel
theorem dX10_handed_92 : decode cX10_handed 92 = .ok (.iload_n 2, 1) := by decide +kernel
theorem dX10_handed_93 : decode cX10_handed 93 = .ok (.iload_n 3, 1) := by decide +kernel
theorem dX10_handed_94 : decode cX10_handed 94 = .ok (.invokevirtual 192, 3) := by decide +kernel
theorem dX10_handed_97 : decode cX10_handed 97 = .ok (.ireturn, 1) := by decide +kernel
theorem dX10_since_0 : decode cX10_since 0 = .ok (.iload_n 1, 1) := by decide +kernel
theorem dX10_since_1 : decode cX10_since 1 = .ok (.ifCond .eq 15, 3) := by decide +kernel
theorem dX10_since_4 : decode cX10_since 4 = .ok (.iload_n 1, 1) := by decide +kernel
theorem dX10_since_5 : decode cX10_since 5 = .ok (.iconst 1, 1) := by decide +kernel
theorem dX10_since_6 : decode cX10_since 6 = .ok (.if_icmp .eq 10, 3) := by decide +kernel
theorem dX10_since_9 : decode cX10_since 9 = .ok (.aload_n 0, 1) := by decide +kernel
theorem dX10_since_10 : decode cX10_since 10 = .ok (.bipush (-2), 2) := by decide +kernel
theorem dX10_since_12 : decode cX10_since 12 = .ok (.invokevirtual 81, 3) := by decide +kernel
theorem dX10_since_15 : decode cX10_since 15 = .ok (.ireturn, 1) := by decide +kernel
theorem dX10_since_16 : decode cX10_since 16 = .ok (.aload_n 0, 1) := by decide +kernel
theorem dX10_since_17 : decode cX10_since 17 = .ok (.getfield 48, 3) := by decide +kernel
theorem dX10_since_20 : decode cX10_since 20 = .ok (.invokevirtual 195, 3) := by decide +kernel
theorem dX10_since_23 : decode cX10_since 23 = .ok (.istore_n 2, 1) := by decide +kernel
theorem dX10_since_24 : decode cX10_since 24 = .ok (.iload_n 2, 1) := by decide +kernel
theorem dX10_since_25 : decode cX10_since 25 = .ok (.bipush (-9), 2) := by decide +kernel
theorem dX10_since_27 : decode cX10_since 27 = .ok (.if_icmp .ne 18, 3) := by decide +kernel
theorem dX10_since_30 : decode cX10_since 30 = .ok (.iload_n 1, 1) := by decide +kernel
theorem dX10_since_31 : decode cX10_since 31 = .ok (.ifCond .ne 12, 3) := by decide +kernel
theorem dX10_since_34 : decode cX10_since 34 = .ok (.aload_n 0, 1) := by decide +kernel
theorem dX10_since_35 : decode cX10_since 35 = .ok (.getfield 7, 3) := by decide +kernel
theorem dX10_since_38 : decode cX10_since 38 = .ok (.iconst 1, 1) := by decide +kernel
theorem dX10_since_39 : decode cX10_since 39 = .ok (.iadd, 1) := by decide +kernel
theorem dX10_since_40 : decode cX10_since 40 = .ok (.goto 4, 3) := by decide +kernel
theorem dX10_since_43 : decode cX10_since 43 = .ok (.iconst 0, 1) := by decide +kernel
theorem dX10_since_44 : decode cX10_since 44 = .ok (.ireturn, 1) := by decide +kernel
theorem dX10_since_45 : decode cX10_since 45 = .ok (.aload_n 0, 1) := by decide +kernel
theorem dX10_since_46 : decode cX10_since 46 = .ok (.getfield 48, 3) := by decide +kernel
theorem dX10_since_49 : decode cX10_since 49 = .ok (.iload_n 2, 1) := by decide +kernel
theorem dX10_since_50 : decode cX10_since 50 = .ok (.invokevirtual 199, 3) := by decide +kernel
theorem dX10_since_53 : decode cX10_since 53 = .ok (.istore_n 3, 1) := by decide +kernel
theorem dX10_since_54 : decode cX10_since 54 = .ok (.iload_n 3, 1) := by decide +kernel
theorem dX10_since_55 : decode cX10_since 55 = .ok (.bipush (-9), 2) := by decide +kernel
theorem dX10_since_57 : decode cX10_since 57 = .ok (.if_icmp .ne 6, 3) := by decide +kernel
theorem dX10_since_60 : decode cX10_since 60 = .ok (.bipush (-9), 2) := by decide +kernel
theorem dX10_since_62 : decode cX10_since 62 = .ok (.ireturn, 1) := by decide +kernel
theorem dX10_since_63 : decode cX10_since 63 = .ok (.iload_n 1, 1) := by decide +kernel
theorem dX10_since_64 : decode cX10_since 64 = .ok (.ifCond .ne 14, 3) := by decide +kernel
theorem dX10_since_67 : decode cX10_since 67 = .ok (.aload_n 0, 1) := by decide +kernel
theorem dX10_since_68 : decode cX10_since 68 = .ok (.getfield 48, 3) := by decide +kernel
theorem dX10_since_71 : decode cX10_since 71 = .ok (.iload_n 2, 1) := by decide +kernel
theorem dX10_since_72 : decode cX10_since 72 = .ok (.invokevirtual 202, 3) := by decide +kernel
theorem dX10_since_75 : decode cX10_since 75 = .ok (.goto 4, 3) := by decide +kernel
theorem dX10_since_78 : decode cX10_since 78 = .ok (.iload_n 3, 1) := by decide +kernel
theorem dX10_since_79 : decode cX10_since 79 = .ok (.ireturn, 1) := by decide +kernel
theorem dX10_checkTwoCards_0 : decode cX10_checkTwoCards 0 = .ok (.aload_n 0, 1) := by decide +kernel
theorem dX10_checkTwoCards_1 : decode cX10_checkTwoCards 1 = .ok (.getfield 41, 3) := by decide +kernel
theorem dX10_checkTwoCards_4 : decode cX10_checkTwoCards 4 = .ok (.iload_n 1, 1) := by decide +kernel
theorem dX10_checkTwoCards_5 : decode cX10_checkTwoCards 5 = .ok (.invokevirtual 160, 3) := by decide +kernel
theorem dX10_checkTwoCards_8 : decode cX10_checkTwoCards 8 = .ok (.ifCond .eq 19, 3) := by decide +kernel
theorem dX10_checkTwoCards_11 : decode cX10_checkTwoCards 11 = .ok (.aload_n 0, 1) := by decide +kernel
theorem dX10_checkTwoCards_12 : decode cX10_checkTwoCards 12 = .ok (.getfield 41, 3) := by decide +kernel
theorem dX10_checkTwoCards_15 : decode cX10_checkTwoCards 15 = .ok (.iload_n 2, 1) := by decide +kernel
theorem dX10_checkTwoCards_16 : decode cX10_checkTwoCards 16 = .ok (.invokevirtual 160, 3) := by decide +kernel
theorem dX10_checkTwoCards_19 : decode cX10_checkTwoCards 19 = .ok (.ifCond .eq 8, 3) := by decide +kernel
theorem dX10_checkTwoCards_22 : decode cX10_checkTwoCards 22 = .ok (.iload_n 1, 1) := by decide +kernel
theorem dX10_checkTwoCards_23 : decode cX10_checkTwoCards 23 = .ok (.iload_n 2, 1) := by decide +kernel
theorem dX10_checkTwoCards_24 : decode cX10_checkTwoCards 24 = .ok (.if_icmp .ne 5, 3) := by decide +kernel
theorem dX10_checkTwoCards_27 : decode cX10_checkTwoCards 27 = .ok (.iconst (-1), 1) := by decide +kernel
theorem dX10_checkTwoCards_28 : decode cX10_checkTwoCards 28 = .ok (.ireturn, 1) := by decide +kernel
theorem dX10_checkTwoCards_29 : decode cX10_checkTwoCards 29 = .ok (.aload_n 0, 1) := by decide +kernel
theorem dX10_checkTwoCards_30 : decode cX10_checkTwoCards 30 = .ok (.getfield 41, 3) := by decide +kernel
theorem dX10_checkTwoCards_33 : decode cX10_checkTwoCards 33 = .ok (.iload_n 1, 1) := by decide +kernel
theorem dX10_checkTwoCards_34 : decode cX10_checkTwoCards 34 = .ok (.invokevirtual 163, 3) := by decide +kernel
theorem dX10_checkTwoCards_37 : decode cX10_checkTwoCards 37 = .ok (.ifCond .ne 14, 3) := by decide +kernel
theorem dX10_checkTwoCards_40 : decode cX10_checkTwoCards 40 = .ok (.aload_n 0, 1) := by decide +kernel
theorem dX10_checkTwoCards_41 : decode cX10_checkTwoCards 41 = .ok (.getfield 41, 3) := by decide +kernel
theorem dX10_checkTwoCards_44 : decode cX10_checkTwoCards 44 = .ok (.iload_n 2, 1) := by decide +kernel
theorem dX10_checkTwoCards_45 : decode cX10_checkTwoCards 45 = .ok (.invokevirtual 163, 3) := by decide +kernel
theorem dX10_checkTwoCards_48 : decode cX10_checkTwoCards 48 = .ok (.ifCond .eq 8, 3) := by decide +kernel
theorem dX10_checkTwoCards_51 : decode cX10_checkTwoCards 51 = .ok (.bipush (-3), 2) := by decide +kernel
theorem dX10_checkTwoCards_53 : decode cX10_checkTwoCards 53 = .ok (.goto 4, 3) := by decide +kernel
theorem dX10_checkTwoCards_56 : decode cX10_checkTwoCards 56 = .ok (.iconst 0, 1) := by decide +kernel
theorem dX10_checkTwoCards_57 : decode cX10_checkTwoCards 57 = .ok (.ireturn, 1) := by decide +kernel
theorem dX10_pairs_0 : decode cX10_pairs 0 = .ok (.aload_n 0, 1) := by decide +kernel
theorem dX10_pairs_1 : decode cX10_pairs 1 = .ok (.iload_n 1, 1) := by decide +kernel
theorem dX10_pairs_2 : decode cX10_pairs 2 = .ok (.iload_n 2, 1) := by decide +kernel
theorem dX10_pairs_3 : decode cX10_pairs 3 = .ok (.invokevirtual 205, 3) := by decide +kernel
theorem dX10_pairs_6 : decode cX10_pairs 6 = .ok (.istore_n 3, 1) := by decide +kernel
theorem dX10_pairs_7 : decode cX10_pairs 7 = .ok (.iload_n 3, 1) := by decide +kernel
theorem dX10_pairs_8 : decode cX10_pairs 8 = .ok (.ifCond .eq 9, 3) := by decide +kernel
theorem dX10_pairs_11 : decode cX10_pairs 11 = .ok (.aload_n 0, 1) := by decide +kernel
theorem dX10_pairs_12 : decode cX10_pairs 12 = .ok (.iload_n 3, 1) := by decide +kernel
theorem dX10_pairs_13 : decode cX10_pairs 13 = .ok (.invokevirtual 81, 3) := by decide +kernel
theorem dX10_pairs_16 : decode cX10_pairs 16 = .ok (.ireturn, 1) := by decide +kernel
theorem dX10_pairs_17 : decode cX10_pairs 17 = .ok (.aload_n 0, 1) := by decide +kernel
theorem dX10_pairs_18 : decode cX10_pairs 18 = .ok (.getfield 27, 3) := by decide +kernel
theorem dX10_pairs_21 : decode cX10_pairs 21 = .ok (.aload_n 0, 1) := by decide +kernel
theorem dX10_pairs_22 : decode cX10_pairs 22 = .ok (.getfield 41, 3) := by decide +kernel
theorem dX10_pairs_25 : decode cX10_pairs 25 = .ok (.iload_n 1, 1) := by decide +kernel
theorem dX10_pairs_26 : decode cX10_pairs 26 = .ok (.invokevirtual 174, 3) := by decide +kernel
theorem dX10_pairs_29 : decode cX10_pairs 29 = .ok (.aload_n 0, 1) := by decide +kernel
theorem dX10_pairs_30 : decode cX10_pairs 30 = .ok (.getfield 41, 3) := by decide +kernel
theorem dX10_pairs_33 : decode cX10_pairs 33 = .ok (.iload_n 2, 1) := by decide +kernel
theorem dX10_pairs_34 : decode cX10_pairs 34 = .ok (.invokevirtual 174, 3) := by decide +kernel
theorem dX10_pairs_37 : decode cX10_pairs 37 = .ok (.aload_n 0, 1) := by decide +kernel
theorem dX10_pairs_38 : decode cX10_pairs 38 = .ok (.getfield 7, 3) := by decide +kernel
theorem dX10_pairs_41 : decode cX10_pairs 41 = .ok (.invokevirtual 208, 3) := by decide +kernel
theorem dX10_pairs_44 : decode cX10_pairs 44 = .ok (.ireturn, 1) := by decide +kernel
theorem dX10_alike_0 : decode cX10_alike 0 = .ok (.aload_n 0, 1) := by decide +kernel
theorem dX10_alike_1 : decode cX10_alike 1 = .ok (.iload_n 1, 1) := by decide +kernel
theorem dX10_alike_2 : decode cX10_alike 2 = .ok (.iload_n 2, 1) := by decide +kernel
theorem dX10_alike_3 : decode cX10_alike 3 = .ok (.invokevirtual 205, 3) := by decide +kernel
theorem dX10_alike_6 : decode cX10_alike 6 = .ok (.istore_n 3, 1) := by decide +kernel
theorem dX10_alike_7 : decode cX10_alike 7 = .ok (.iload_n 3, 1) := by decide +kernel
theorem dX10_alike_8 : decode cX10_alike 8 = .ok (.ifCond .eq 9, 3) := by decide +kernel
theorem dX10_alike_11 : decode cX10_alike 11 = .ok (.aload_n 0, 1) := by decide +kernel
theorem dX10_alike_12 : decode cX10_alike 12 = .ok (.iload_n 3, 1) := by decide +kernel
theorem dX10_alike_13 : decode cX10_alike 13 = .ok (.invokevirtual 81, 3) := by decide +kernel
theorem dX10_alike_16 : decode cX10_alike 16 = .ok (.ireturn, 1) := by decide +kernel
theorem dX10_alike_17 : decode cX10_alike 17 = .ok (.aload_n 0, 1) := by decide +kernel
theorem dX10_alike_18 : decode cX10_alike 18 = .ok (.getfield 27, 3) := by decide +kernel
theorem dX10_alike_21 : decode cX10_alike 21 = .ok (.aload_n 0, 1) := by decide +kernel
theorem dX10_alike_22 : decode cX10_alike 22 = .ok (.getfield 41, 3) := by decide +kernel
theorem dX10_alike_25 : decode cX10_alike 25 = .ok (.iload_n 1, 1) := by decide +kernel
theorem dX10_alike_26 : decode cX10_alike 26 = .ok (.invokevirtual 174, 3) := by decide +kernel
theorem dX10_alike_29 : decode cX10_alike 29 = .ok (.aload_n 0, 1) := by decide +kernel
theorem dX10_alike_30 : decode cX10_alike 30 = .ok (.getfield 41, 3) := by decide +kernel
theorem dX10_alike_33 : decode cX10_alike 33 = .ok (.iload_n 2, 1) := by decide +kernel
theorem dX10_alike_34 : decode cX10_alike 34 = .ok (.invokevirtual 174, 3) := by decide +kernel
theorem dX10_alike_37 : decode cX10_alike 37 = .ok (.aload_n 0, 1) := by decide +kernel
theorem dX10_alike_38 : decode cX10_alike 38 = .ok (.getfield 7, 3) := by decide +kernel
theorem dX10_alike_41 : decode cX10_alike 41 = .ok (.invokevirtual 211, 3) := by decide +kernel
theorem dX10_alike_44 : decode cX10_alike 44 = .ok (.ireturn, 1) := by decide +kernel
theorem dX10_well_0 : decode cX10_well 0 = .ok (.iload_n 1, 1) := by decide +kernel
theorem dX10_well_1 : decode cX10_well 1 = .ok (.invokestatic 89, 3) := by decide +kernel
theorem dX10_well_4 : decode cX10_well 4 = .ok (.ifCond .ne 9, 3) := by decide +kernel
theorem dX10_well_7 : decode cX10_well 7 = .ok (.aload_n 0, 1) := by decide +kernel
theorem dX10_well_8 : decode cX10_well 8 = .ok (.iconst (-1), 1) := by decide +kernel
theorem dX10_well_9 : decode cX10_well 9 = .ok (.invokevirtual 81, 3) := by decide +kernel
theorem dX10_well_12 : decode cX10_well 12 = .ok (.ireturn, 1) := by decide +kernel
theorem dX10_well_13 : decode cX10_well 13 = .ok (.iload_n 2, 1) := by decide +kernel
theorem dX10_well_14 : decode cX10_well 14 = .ok (.iconst 1, 1) := by decide +kernel
theorem dX10_well_15 : decode cX10_well 15 = .ok (.if_icmp .lt 8, 3) := by decide +kernel
theorem dX10_well_18 : decode cX10_well 18 = .ok (.iload_n 3, 1) := by decide +kernel
theorem dX10_well_19 : decode cX10_well 19 = .ok (.iconst 1, 1) := by decide +kernel
theorem dX10_well_20 : decode cX10_well 20 = .ok (.if_icmp .ge 10, 3) := by decide +kernel
theorem dX10_well_23 : decode cX10_well 23 = .ok (.aload_n 0, 1) := by decide +kernel
theorem dX10_well_24 : decode cX10_well 24 = .ok (.bipush (-4), 2) := by decide +kernel
theorem dX10_well_26 : decode cX10_well 26 = .ok (.invokevirtual 81, 3) := by decide +kernel
theorem dX10_well_29 : decode cX10_well 29 = .ok (.ireturn, 1) := by decide +kernel
theorem dX10_well_30 : decode cX10_well 30 = .ok (.iload_n 2, 1) := by decide +kernel
theorem dX10_well_31 : decode cX10_well 31 = .ok (.bipush 99, 2) := by decide +kernel
theorem dX10_well_33 : decode cX10_well 33 = .ok (.if_icmp .gt 22, 3) := by decide +kernel
theorem dX10_well_36 : decode cX10_well 36 = .ok (.iload_n 3, 1) := by decide +kernel
theorem dX10_well_37 : decode cX10_well 37 = .ok (.sipush 9999, 3) := by decide +kernel
theorem dX10_well_40 : decode cX10_well 40 = .ok (.if_icmp .gt 15, 3) := by decide +kernel
theorem dX10_well_43 : decode cX10_well 43 = .ok (.aload_n 0, 1) := by decide +kernel
theorem dX10_well_44 : decode cX10_well 44 = .ok (.getfield 55, 3) := by decide +kernel
theorem dX10_well_47 : decode cX10_well 47 = .ok (.getfield 214, 3) := by decide +kernel
theorem dX10_well_50 : decode cX10_well 50 = .ok (.bipush 6, 2) := by decide +kernel
theorem dX10_well_52 : decode cX10_well 52 = .ok (.if_icmp .lt 10, 3) := by decide +kernel
theorem dX10_well_55 : decode cX10_well 55 = .ok (.aload_n 0, 1) := by decide +kernel
theorem dX10_well_56 : decode cX10_well 56 = .ok (.bipush (-6), 2) := by decide +kernel
theorem dX10_well_58 : decode cX10_well 58 = .ok (.invokevirtual 81, 3) := by decide +kernel
theorem dX10_well_61 : decode cX10_well 61 = .ok (.ireturn, 1) := by decide +kernel
theorem dX10_well_62 : decode cX10_well 62 = .ok (.aload_n 0, 1) := by decide +kernel
theorem dX10_well_63 : decode cX10_well 63 = .ok (.getfield 55, 3) := by decide +kernel
theorem dX10_well_66 : decode cX10_well 66 = .ok (.iload_n 1, 1) := by decide +kernel
theorem dX10_well_67 : decode cX10_well 67 = .ok (.iload_n 2, 1) := by decide +kernel
theorem dX10_well_68 : decode cX10_well 68 = .ok (.iload_n 3, 1) := by decide +kernel
theorem dX10_well_69 : decode cX10_well 69 = .ok (.invokevirtual 217, 3) := by decide +kernel
theorem dX10_well_72 : decode cX10_well 72 = .ok (.ireturn, 1) := by decide +kernel
theorem dX10_block_0 : decode cX10_block 0 = .ok (.iload_n 1, 1) := by decide +kernel
theorem dX10_block_1 : decode cX10_block 1 = .ok (.invokestatic 100, 3) := by decide +kernel
theorem dX10_block_4 : decode cX10_block 4 = .ok (.ifCond .ne 9, 3) := by decide +kernel
theorem dX10_block_7 : decode cX10_block 7 = .ok (.aload_n 0, 1) := by decide +kernel
theorem dX10_block_8 : decode cX10_block 8 = .ok (.iconst (-1), 1) := by decide +kernel
theorem dX10_block_9 : decode cX10_block 9 = .ok (.invokevirtual 81, 3) := by decide +kernel
theorem dX10_block_12 : decode cX10_block 12 = .ok (.ireturn, 1) := by decide +kernel
theorem dX10_block_13 : decode cX10_block 13 = .ok (.iload_n 2, 1) := by decide +kernel
theorem dX10_block_14 : decode cX10_block 14 = .ok (.iconst 4, 1) := by decide +kernel
theorem dX10_block_15 : decode cX10_block 15 = .ok (.bipush 20, 2) := by decide +kernel
theorem dX10_block_17 : decode cX10_block 17 = .ok (.invokestatic 85, 3) := by decide +kernel
theorem dX10_block_20 : decode cX10_block 20 = .ok (.istore_n 3, 1) := by decide +kernel
theorem dX10_block_21 : decode cX10_block 21 = .ok (.iload_n 3, 1) := by decide +kernel
theorem dX10_block_22 : decode cX10_block 22 = .ok (.ifCond .ne 15, 3) := by decide +kernel
theorem dX10_block_25 : decode cX10_block 25 = .ok (.aload_n 0, 1) := by decide +kernel
theorem dX10_block_26 : decode cX10_block 26 = .ok (.getfield 55, 3) := by decide +kernel
theorem dX10_block_29 : decode cX10_block 29 = .ok (.iload_n 1, 1) := by decide +kernel
theorem dX10_block_30 : decode cX10_block 30 = .ok (.iload_n 2, 1) := by decide +kernel
theorem dX10_block_31 : decode cX10_block 31 = .ok (.invokevirtual 220, 3) := by decide +kernel
theorem dX10_block_34 : decode cX10_block 34 = .ok (.goto 8, 3) := by decide +kernel
theorem dX10_block_37 : decode cX10_block 37 = .ok (.aload_n 0, 1) := by decide +kernel
theorem dX10_block_38 : decode cX10_block 38 = .ok (.iload_n 3, 1) := by decide +kernel
theorem dX10_block_39 : decode cX10_block 39 = .ok (.invokevirtual 81, 3) := by decide +kernel
theorem dX10_block_42 : decode cX10_block 42 = .ok (.ireturn, 1) := by decide +kernel
theorem dX10_served_0 : decode cX10_served 0 = .ok (.aload_n 0, 1) := by decide +kernel
theorem dX10_served_1 : decode cX10_served 1 = .ok (.getfield 27, 3) := by decide +kernel
theorem dX10_served_4 : decode cX10_served 4 = .ok (.iload_n 1, 1) := by decide +kernel
theorem dX10_served_5 : decode cX10_served 5 = .ok (.invokevirtual 115, 3) := by decide +kernel
theorem dX10_served_8 : decode cX10_served 8 = .ok (.ifCond .eq 22, 3) := by decide +kernel
theorem dX10_served_11 : decode cX10_served 11 = .ok (.aload_n 0, 1) := by decide +kernel
theorem dX10_served_12 : decode cX10_served 12 = .ok (.getfield 55, 3) := by decide +kernel
theorem dX10_served_15 : decode cX10_served 15 = .ok (.aload_n 0, 1) := by decide +kernel
theorem dX10_served_16 : decode cX10_served 16 = .ok (.getfield 27, 3) := by decide +kernel
theorem dX10_served_19 : decode cX10_served 19 = .ok (.iload_n 1, 1) := by decide +kernel
theorem dX10_served_20 : decode cX10_served 20 = .ok (.aload_n 0, 1) := by decide +kernel
theorem dX10_served_21 : decode cX10_served 21 = .ok (.getfield 7, 3) := by decide +kernel
theorem dX10_served_24 : decode cX10_served 24 = .ok (.invokevirtual 223, 3) := by decide +kernel
theorem dX10_served_27 : decode cX10_served 27 = .ok (.goto 8, 3) := by decide +kernel
theorem dX10_served_30 : decode cX10_served 30 = .ok (.aload_n 0, 1) := by decide +kernel
theorem dX10_served_31 : decode cX10_served 31 = .ok (.iconst (-1), 1) := by decide +kernel
theorem dX10_served_32 : decode cX10_served 32 = .ok (.invokevirtual 81, 3) := by decide +kernel
theorem dX10_served_35 : decode cX10_served 35 = .ok (.ireturn, 1) := by decide +kernel
theorem dX10_best_0 : decode cX10_best 0 = .ok (.iload_n 1, 1) := by decide +kernel
theorem dX10_best_1 : decode cX10_best 1 = .ok (.ifCond .lt 8, 3) := by decide +kernel
theorem dX10_best_4 : decode cX10_best 4 = .ok (.iload_n 1, 1) := by decide +kernel
theorem dX10_best_5 : decode cX10_best 5 = .ok (.iconst 5, 1) := by decide +kernel
theorem dX10_best_6 : decode cX10_best 6 = .ok (.if_icmp .le 10, 3) := by decide +kernel
theorem dX10_best_9 : decode cX10_best 9 = .ok (.aload_n 0, 1) := by decide +kernel
theorem dX10_best_10 : decode cX10_best 10 = .ok (.bipush (-2), 2) := by decide +kernel
theorem dX10_best_12 : decode cX10_best 12 = .ok (.invokevirtual 81, 3) := by decide +kernel
theorem dX10_best_15 : decode cX10_best 15 = .ok (.ireturn, 1) := by decide +kernel
theorem dX10_best_16 : decode cX10_best 16 = .ok (.aload_n 0, 1) := by decide +kernel
theorem dX10_best_17 : decode cX10_best 17 = .ok (.getfield 55, 3) := by decide +kernel
theorem dX10_best_20 : decode cX10_best 20 = .ok (.aload_n 0, 1) := by decide +kernel
theorem dX10_best_21 : decode cX10_best 21 = .ok (.getfield 27, 3) := by decide +kernel
theorem dX10_best_24 : decode cX10_best 24 = .ok (.aload_n 0, 1) := by decide +kernel
theorem dX10_best_25 : decode cX10_best 25 = .ok (.getfield 7, 3) := by decide +kernel
theorem dX10_best_28 : decode cX10_best 28 = .ok (.invokevirtual 226, 3) := by decide +kernel
theorem dX10_best_31 : decode cX10_best 31 = .ok (.iload_n 1, 1) := by decide +kernel
theorem dX10_best_32 : decode cX10_best 32 = .ok (.iconst 5, 1) := by decide +kernel
theorem dX10_best_33 : decode cX10_best 33 = .ok (.if_icmp .ne 11, 3) := by decide +kernel
theorem dX10_best_36 : decode cX10_best 36 = .ok (.aload_n 0, 1) := by decide +kernel
theorem dX10_best_37 : decode cX10_best 37 = .ok (.getfield 55, 3) := by decide +kernel
theorem dX10_best_40 : decode cX10_best 40 = .ok (.invokevirtual 230, 3) := by decide +kernel
theorem dX10_best_43 : decode cX10_best 43 = .ok (.ireturn, 1) := by decide +kernel
theorem dX10_best_44 : decode cX10_best 44 = .ok (.iload_n 1, 1) := by decide +kernel
theorem dX10_best_45 : decode cX10_best 45 = .ok (.iconst 4, 1) := by decide +kernel
theorem dX10_best_46 : decode cX10_best 46 = .ok (.if_icmp .ne 13, 3) := by decide +kernel
theorem dX10_best_49 : decode cX10_best 49 = .ok (.aload_n 0, 1) := by decide +kernel
theorem dX10_best_50 : decode cX10_best 50 = .ok (.getfield 55, 3) := by decide +kernel
theorem dX10_best_53 : decode cX10_best 53 = .ok (.invokevirtual 233, 3) := by decide +kernel
theorem dX10_best_56 : decode cX10_best 56 = .ok (.goto 11, 3) := by decide +kernel
theorem dX10_best_59 : decode cX10_best 59 = .ok (.aload_n 0, 1) := by decide +kernel
theorem dX10_best_60 : decode cX10_best 60 = .ok (.getfield 55, 3) := by decide +kernel
theorem dX10_best_63 : decode cX10_best 63 = .ok (.iload_n 1, 1) := by decide +kernel
theorem dX10_best_64 : decode cX10_best 64 = .ok (.invokevirtual 236, 3) := by decide +kernel
theorem dX10_best_67 : decode cX10_best 67 = .ok (.ireturn, 1) := by decide +kernel
theorem dX10_latrine_0 : decode cX10_latrine 0 = .ok (.iload_n 1, 1) := by decide +kernel
theorem dX10_latrine_1 : decode cX10_latrine 1 = .ok (.invokestatic 89, 3) := by decide +kernel
theorem dX10_latrine_4 : decode cX10_latrine 4 = .ok (.ifCond .ne 9, 3) := by decide +kernel
theorem dX10_latrine_7 : decode cX10_latrine 7 = .ok (.aload_n 0, 1) := by decide +kernel
theorem dX10_latrine_8 : decode cX10_latrine 8 = .ok (.iconst (-1), 1) := by decide +kernel
theorem dX10_latrine_9 : decode cX10_latrine 9 = .ok (.invokevirtual 81, 3) := by decide +kernel
theorem dX10_latrine_12 : decode cX10_latrine 12 = .ok (.ireturn, 1) := by decide +kernel
theorem dX10_latrine_13 : decode cX10_latrine 13 = .ok (.iload_n 2, 1) := by decide +kernel
theorem dX10_latrine_14 : decode cX10_latrine 14 = .ok (.iconst 1, 1) := by decide +kernel
theorem dX10_latrine_15 : decode cX10_latrine 15 = .ok (.if_icmp .ge 10, 3) := by decide +kernel
theorem dX10_latrine_18 : decode cX10_latrine 18 = .ok (.aload_n 0, 1) := by decide +kernel
theorem dX10_latrine_19 : decode cX10_latrine 19 = .ok (.bipush (-4), 2) := by decide +kernel
theorem dX10_latrine_21 : decode cX10_latrine 21 = .ok (.invokevirtual 81, 3) := by decide +kernel
theorem dX10_latrine_24 : decode cX10_latrine 24 = .ok (.ireturn, 1) := by decide +kernel
theorem dX10_latrine_25 : decode cX10_latrine 25 = .ok (.iload_n 2, 1) := by decide +kernel
theorem dX10_latrine_26 : decode cX10_latrine 26 = .ok (.ldc 239, 2) := by decide +kernel
theorem dX10_latrine_28 : decode cX10_latrine 28 = .ok (.if_icmp .gt 15, 3) := by decide +kernel
theorem dX10_latrine_31 : decode cX10_latrine 31 = .ok (.aload_n 0, 1) := by decide +kernel
theorem dX10_latrine_32 : decode cX10_latrine 32 = .ok (.getfield 20, 3) := by decide +kernel
theorem dX10_latrine_35 : decode cX10_latrine 35 = .ok (.getfield 240, 3) := by decide +kernel
theorem dX10_latrine_38 : decode cX10_latrine 38 = .ok (.bipush 14, 2) := by decide +kernel
theorem dX10_latrine_40 : decode cX10_latrine 40 = .ok (.if_icmp .lt 10, 3) := by decide +kernel
theorem dX10_latrine_43 : decode cX10_latrine 43 = .ok (.aload_n 0, 1) := by decide +kernel
theorem dX10_latrine_44 : decode cX10_latrine 44 = .ok (.bipush (-6), 2) := by decide +kernel
theorem dX10_latrine_46 : decode cX10_latrine 46 = .ok (.invokevirtual 81, 3) := by decide +kernel
theorem dX10_latrine_49 : decode cX10_latrine 49 = .ok (.ireturn, 1) := by decide +kernel
theorem dX10_latrine_50 : decode cX10_latrine 50 = .ok (.aload_n 0, 1) := by decide +kernel
theorem dX10_latrine_51 : decode cX10_latrine 51 = .ok (.getfield 20, 3) := by decide +kernel
theorem dX10_latrine_54 : decode cX10_latrine 54 = .ok (.iload_n 1, 1) := by decide +kernel
theorem dX10_latrine_55 : decode cX10_latrine 55 = .ok (.iload_n 2, 1) := by decide +kernel
theorem dX10_latrine_56 : decode cX10_latrine 56 = .ok (.invokevirtual 243, 3) := by decide +kernel
theorem dX10_latrine_59 : decode cX10_latrine 59 = .ok (.ireturn, 1) := by decide +kernel
theorem dX10_drain_0 : decode cX10_drain 0 = .ok (.iload_n 1, 1) := by decide +kernel
theorem dX10_drain_1 : decode cX10_drain 1 = .ok (.invokestatic 89, 3) := by decide +kernel
theorem dX10_drain_4 : decode cX10_drain 4 = .ok (.ifCond .ne 9, 3) := by decide +kernel
theorem dX10_drain_7 : decode cX10_drain 7 = .ok (.aload_n 0, 1) := by decide +kernel
theorem dX10_drain_8 : decode cX10_drain 8 = .ok (.iconst (-1), 1) := by decide +kernel
theorem dX10_drain_9 : decode cX10_drain 9 = .ok (.invokevirtual 81, 3) := by decide +kernel
theorem dX10_drain_12 : decode cX10_drain 12 = .ok (.ireturn, 1) := by decide +kernel
theorem dX10_drain_13 : decode cX10_drain 13 = .ok (.aload_n 0, 1) := by decide +kernel
theorem dX10_drain_14 : decode cX10_drain 14 = .ok (.getfield 20, 3) := by decide +kernel
theorem dX10_drain_17 : decode cX10_drain 17 = .ok (.iload_n 1, 1) := by decide +kernel
theorem dX10_drain_18 : decode cX10_drain 18 = .ok (.invokevirtual 246, 3) := by decide +kernel
theorem dX10_drain_21 : decode cX10_drain 21 = .ok (.ifCond .eq 10, 3) := by decide +kernel
theorem dX10_drain_24 : decode cX10_drain 24 = .ok (.aload_n 0, 1) := by decide +kernel
theorem dX10_drain_25 : decode cX10_drain 25 = .ok (.bipush (-3), 2) := by decide +kernel
theorem dX10_drain_27 : decode cX10_drain 27 = .ok (.invokevirtual 81, 3) := by decide +kernel
theorem dX10_drain_30 : decode cX10_drain 30 = .ok (.ireturn, 1) := by decide +kernel
theorem dX10_drain_31 : decode cX10_drain 31 = .ok (.aload_n 0, 1) := by decide +kernel
theorem dX10_drain_32 : decode cX10_drain 32 = .ok (.getfield 20, 3) := by decide +kernel
theorem dX10_drain_35 : decode cX10_drain 35 = .ok (.getfield 249, 3) := by decide +kernel
theorem dX10_drain_38 : decode cX10_drain 38 = .ok (.bipush 10, 2) := by decide +kernel
theorem dX10_drain_40 : decode cX10_drain 40 = .ok (.if_icmp .lt 10, 3) := by decide +kernel
theorem dX10_drain_43 : decode cX10_drain 43 = .ok (.aload_n 0, 1) := by decide +kernel
theorem dX10_drain_44 : decode cX10_drain 44 = .ok (.bipush (-6), 2) := by decide +kernel
theorem dX10_drain_46 : decode cX10_drain 46 = .ok (.invokevirtual 81, 3) := by decide +kernel
theorem dX10_drain_49 : decode cX10_drain 49 = .ok (.ireturn, 1) := by decide +kernel
theorem dX10_drain_50 : decode cX10_drain 50 = .ok (.aload_n 0, 1) := by decide +kernel
theorem dX10_drain_51 : decode cX10_drain 51 = .ok (.getfield 20, 3) := by decide +kernel
theorem dX10_drain_54 : decode cX10_drain 54 = .ok (.iload_n 1, 1) := by decide +kernel
theorem dX10_drain_55 : decode cX10_drain 55 = .ok (.invokevirtual 252, 3) := by decide +kernel
theorem dX10_drain_58 : decode cX10_drain 58 = .ok (.ireturn, 1) := by decide +kernel
theorem dX10_flow_0 : decode cX10_flow 0 = .ok (.iload_n 1, 1) := by decide +kernel
theorem dX10_flow_1 : decode cX10_flow 1 = .ok (.invokestatic 89, 3) := by decide +kernel
theorem dX10_flow_4 : decode cX10_flow 4 = .ok (.ifCond .ne 9, 3) := by decide +kernel
theorem dX10_flow_7 : decode cX10_flow 7 = .ok (.aload_n 0, 1) := by decide +kernel
theorem dX10_flow_8 : decode cX10_flow 8 = .ok (.iconst (-1), 1) := by decide +kernel
theorem dX10_flow_9 : decode cX10_flow 9 = .ok (.invokevirtual 81, 3) := by decide +kernel
theorem dX10_flow_12 : decode cX10_flow 12 = .ok (.ireturn, 1) := by decide +kernel
theorem dX10_flow_13 : decode cX10_flow 13 = .ok (.iload_n 2, 1) := by decide +kernel
theorem dX10_flow_14 : decode cX10_flow 14 = .ok (.iconst 1, 1) := by decide +kernel
theorem dX10_flow_15 : decode cX10_flow 15 = .ok (.sipush 999, 3) := by decide +kernel
theorem dX10_flow_18 : decode cX10_flow 18 = .ok (.invokestatic 85, 3) := by decide +kernel
theorem dX10_flow_21 : decode cX10_flow 21 = .ok (.istore_n 3, 1) := by decide +kernel
theorem dX10_flow_22 : decode cX10_flow 22 = .ok (.iload_n 3, 1) := by decide +kernel
theorem dX10_flow_23 : decode cX10_flow 23 = .ok (.ifCond .ne 15, 3) := by decide +kernel
theorem dX10_flow_26 : decode cX10_flow 26 = .ok (.aload_n 0, 1) := by decide +kernel
theorem dX10_flow_27 : decode cX10_flow 27 = .ok (.getfield 20, 3) := by decide +kernel
theorem dX10_flow_30 : decode cX10_flow 30 = .ok (.iload_n 1, 1) := by decide +kernel
theorem dX10_flow_31 : decode cX10_flow 31 = .ok (.iload_n 2, 1) := by decide +kernel
theorem dX10_flow_32 : decode cX10_flow 32 = .ok (.invokevirtual 255, 3) := by decide +kernel
theorem dX10_flow_35 : decode cX10_flow 35 = .ok (.goto 8, 3) := by decide +kernel
theorem dX10_flow_38 : decode cX10_flow 38 = .ok (.aload_n 0, 1) := by decide +kernel
theorem dX10_flow_39 : decode cX10_flow 39 = .ok (.iload_n 3, 1) := by decide +kernel
theorem dX10_flow_40 : decode cX10_flow 40 = .ok (.invokevirtual 81, 3) := by decide +kernel
theorem dX10_flow_43 : decode cX10_flow 43 = .ok (.ireturn, 1) := by decide +kernel
theorem dX10_foul_0 : decode cX10_foul 0 = .ok (.iload_n 1, 1) := by decide +kernel
theorem dX10_foul_1 : decode cX10_foul 1 = .ok (.iconst 1, 1) := by decide +kernel
theorem dX10_foul_2 : decode cX10_foul 2 = .ok (.sipush 999, 3) := by decide +kernel
theorem dX10_foul_5 : decode cX10_foul 5 = .ok (.invokestatic 85, 3) := by decide +kernel
theorem dX10_foul_8 : decode cX10_foul 8 = .ok (.istore_n 3, 1) := by decide +kernel
theorem dX10_foul_9 : decode cX10_foul 9 = .ok (.iload_n 3, 1) := by decide +kernel
theorem dX10_foul_10 : decode cX10_foul 10 = .ok (.ifCond .eq 9, 3) := by decide +kernel
theorem dX10_foul_13 : decode cX10_foul 13 = .ok (.aload_n 0, 1) := by decide +kernel
theorem dX10_foul_14 : decode cX10_foul 14 = .ok (.iload_n 3, 1) := by decide +kernel
theorem dX10_foul_15 : decode cX10_foul 15 = .ok (.invokevirtual 81, 3) := by decide +kernel
theorem dX10_foul_18 : decode cX10_foul 18 = .ok (.ireturn, 1) := by decide +kernel
theorem dX10_foul_19 : decode cX10_foul 19 = .ok (.iload_n 2, 1) := by decide +kernel
theorem dX10_foul_20 : decode cX10_foul 20 = .ok (.aload_n 0, 1) := by decide +kernel
theorem dX10_foul_21 : decode cX10_foul 21 = .ok (.getfield 20, 3) := by decide +kernel
theorem dX10_foul_24 : decode cX10_foul 24 = .ok (.getfield 249, 3) := by decide +kernel
theorem dX10_foul_27 : decode cX10_foul 27 = .ok (.invokestatic 258, 3) := by decide +kernel
theorem dX10_foul_30 : decode cX10_foul 30 = .ok (.ifCond .eq 19, 3) := by decide +kernel
theorem dX10_foul_33 : decode cX10_foul 33 = .ok (.aload_n 0, 1) := by decide +kernel
theorem dX10_foul_34 : decode cX10_foul 34 = .ok (.getfield 55, 3) := by decide +kernel
theorem dX10_foul_37 : decode cX10_foul 37 = .ok (.aload_n 0, 1) := by decide +kernel
theorem dX10_foul_38 : decode cX10_foul 38 = .ok (.getfield 20, 3) := by decide +kernel
theorem dX10_foul_41 : decode cX10_foul 41 = .ok (.iload_n 1, 1) := by decide +kernel
theorem dX10_foul_42 : decode cX10_foul 42 = .ok (.iload_n 2, 1) := by decide +kernel
theorem dX10_foul_43 : decode cX10_foul 43 = .ok (.invokevirtual 261, 3) := by decide +kernel
theorem dX10_foul_46 : decode cX10_foul 46 = .ok (.goto 8, 3) := by decide +kernel
theorem dX10_foul_49 : decode cX10_foul 49 = .ok (.aload_n 0, 1) := by decide +kernel
theorem dX10_foul_50 : decode cX10_foul 50 = .ok (.iconst (-1), 1) := by decide +kernel
theorem dX10_foul_51 : decode cX10_foul 51 = .ok (.invokevirtual 81, 3) := by decide +kernel
theorem dX10_foul_54 : decode cX10_foul 54 = .ok (.ireturn, 1) := by decide +kernel
theorem dX10_drains_0 : decode cX10_drains 0 = .ok (.iload_n 1, 1) := by decide +kernel
theorem dX10_drains_1 : decode cX10_drains 1 = .ok (.iconst 1, 1) := by decide +kernel
theorem dX10_drains_2 : decode cX10_drains 2 = .ok (.sipush 999, 3) := by decide +kernel
theorem dX10_drains_5 : decode cX10_drains 5 = .ok (.invokestatic 85, 3) := by decide +kernel
theorem dX10_drains_8 : decode cX10_drains 8 = .ok (.istore_n 2, 1) := by decide +kernel
theorem dX10_drains_9 : decode cX10_drains 9 = .ok (.iload_n 2, 1) := by decide +kernel
theorem dX10_drains_10 : decode cX10_drains 10 = .ok (.ifCond .ne 18, 3) := by decide +kernel
theorem dX10_drains_13 : decode cX10_drains 13 = .ok (.aload_n 0, 1) := by decide +kernel
theorem dX10_drains_14 : decode cX10_drains 14 = .ok (.getfield 55, 3) := by decide +kernel
theorem dX10_drains_17 : decode cX10_drains 17 = .ok (.aload_n 0, 1) := by decide +kernel
theorem dX10_drains_18 : decode cX10_drains 18 = .ok (.getfield 20, 3) := by decide +kernel
theorem dX10_drains_21 : decode cX10_drains 21 = .ok (.iload_n 1, 1) := by decide +kernel
theorem dX10_drains_22 : decode cX10_drains 22 = .ok (.invokevirtual 265, 3) := by decide +kernel
theorem dX10_drains_25 : decode cX10_drains 25 = .ok (.goto 8, 3) := by decide +kernel
theorem dX10_drains_28 : decode cX10_drains 28 = .ok (.aload_n 0, 1) := by decide +kernel
theorem dX10_drains_29 : decode cX10_drains 29 = .ok (.iload_n 2, 1) := by decide +kernel
theorem dX10_drains_30 : decode cX10_drains 30 = .ok (.invokevirtual 81, 3) := by decide +kernel
theorem dX10_drains_33 : decode cX10_drains 33 = .ok (.ireturn, 1) := by decide +kernel
theorem dX10_minutes_0 : decode cX10_minutes 0 = .ok (.aload_n 0, 1) := by decide +kernel
theorem dX10_minutes_1 : decode cX10_minutes 1 = .ok (.getfield 27, 3) := by decide +kernel
theorem dX10_minutes_4 : decode cX10_minutes 4 = .ok (.iload_n 1, 1) := by decide +kernel
theorem dX10_minutes_5 : decode cX10_minutes 5 = .ok (.invokevirtual 115, 3) := by decide +kernel
theorem dX10_minutes_8 : decode cX10_minutes 8 = .ok (.ifCond .eq 29, 3) := by decide +kernel
theorem dX10_minutes_11 : decode cX10_minutes 11 = .ok (.aload_n 0, 1) := by decide +kernel
theorem dX10_minutes_12 : decode cX10_minutes 12 = .ok (.getfield 27, 3) := by decide +kernel
theorem dX10_minutes_15 : decode cX10_minutes 15 = .ok (.iload_n 2, 1) := by decide +kernel
theorem dX10_minutes_16 : decode cX10_minutes 16 = .ok (.invokevirtual 115, 3) := by decide +kernel
theorem dX10_minutes_19 : decode cX10_minutes 19 = .ok (.ifCond .eq 18, 3) := by decide +kernel
theorem dX10_minutes_22 : decode cX10_minutes 22 = .ok (.iload 4, 2) := by decide +kernel
theorem dX10_minutes_24 : decode cX10_minutes 24 = .ok (.aload_n 0, 1) := by decide +kernel
theorem dX10_minutes_25 : decode cX10_minutes 25 = .ok (.getfield 62, 3) := by decide +kernel
theorem dX10_minutes_28 : decode cX10_minutes 28 = .ok (.getfield 269, 3) := by decide +kernel
theorem dX10_minutes_31 : decode cX10_minutes 31 = .ok (.invokestatic 258, 3) := by decide +kernel
theorem dX10_minutes_34 : decode cX10_minutes 34 = .ok (.ifCond .ne 9, 3) := by decide +kernel
theorem dX10_minutes_37 : decode cX10_minutes 37 = .ok (.aload_n 0, 1) := by decide +kernel
theorem dX10_minutes_38 : decode cX10_minutes 38 = .ok (.iconst (-1), 1) := by decide +kernel
theorem dX10_minutes_39 : decode cX10_minutes 39 = .ok (.invokevirtual 81, 3) := by decide +kernel
theorem dX10_minutes_42 : decode cX10_minutes 42 = .ok (.ireturn, 1) := by decide +kernel
theorem dX10_minutes_43 : decode cX10_minutes 43 = .ok (.iload_n 3, 1) := by decide +kernel
theorem dX10_minutes_44 : decode cX10_minutes 44 = .ok (.invokestatic 272, 3) := by decide +kernel
theorem dX10_minutes_47 : decode cX10_minutes 47 = .ok (.ifCond .ne 10, 3) := by decide +kernel
theorem dX10_minutes_50 : decode cX10_minutes 50 = .ok (.aload_n 0, 1) := by decide +kernel
theorem dX10_minutes_51 : decode cX10_minutes 51 = .ok (.bipush (-2), 2) := by decide +kernel
theorem dX10_minutes_53 : decode cX10_minutes 53 = .ok (.invokevirtual 81, 3) := by decide +kernel
theorem dX10_minutes_56 : decode cX10_minutes 56 = .ok (.ireturn, 1) := by decide +kernel
theorem dX10_minutes_57 : decode cX10_minutes 57 = .ok (.aload_n 0, 1) := by decide +kernel
theorem dX10_minutes_58 : decode cX10_minutes 58 = .ok (.getfield 62, 3) := by decide +kernel
theorem dX10_minutes_61 : decode cX10_minutes 61 = .ok (.aload_n 0, 1) := by decide +kernel
theorem dX10_minutes_62 : decode cX10_minutes 62 = .ok (.getfield 27, 3) := by decide +kernel
theorem dX10_minutes_65 : decode cX10_minutes 65 = .ok (.iload_n 1, 1) := by decide +kernel
theorem dX10_minutes_66 : decode cX10_minutes 66 = .ok (.iload_n 2, 1) := by decide +kernel
theorem dX10_minutes_67 : decode cX10_minutes 67 = .ok (.iload_n 3, 1) := by decide +kernel
theorem dX10_minutes_68 : decode cX10_minutes 68 = .ok (.iload 4, 2) := by decide +kernel
theorem dX10_minutes_70 : decode cX10_minutes 70 = .ok (.invokevirtual 275, 3) := by decide +kernel
theorem dX10_minutes_73 : decode cX10_minutes 73 = .ok (.ireturn, 1) := by decide +kernel
theorem dX10_lane_0 : decode cX10_lane 0 = .ok (.aload_n 0, 1) := by decide +kernel
theorem dX10_lane_1 : decode cX10_lane 1 = .ok (.getfield 27, 3) := by decide +kernel
theorem dX10_lane_4 : decode cX10_lane 4 = .ok (.iload_n 1, 1) := by decide +kernel
theorem dX10_lane_5 : decode cX10_lane 5 = .ok (.invokevirtual 115, 3) := by decide +kernel
theorem dX10_lane_8 : decode cX10_lane 8 = .ok (.ifCond .ne 9, 3) := by decide +kernel
theorem dX10_lane_11 : decode cX10_lane 11 = .ok (.aload_n 0, 1) := by decide +kernel
theorem dX10_lane_12 : decode cX10_lane 12 = .ok (.iconst (-1), 1) := by decide +kernel
theorem dX10_lane_13 : decode cX10_lane 13 = .ok (.invokevirtual 81, 3) := by decide +kernel
theorem dX10_lane_16 : decode cX10_lane 16 = .ok (.ireturn, 1) := by decide +kernel
theorem dX10_lane_17 : decode cX10_lane 17 = .ok (.aload_n 0, 1) := by decide +kernel
theorem dX10_lane_18 : decode cX10_lane 18 = .ok (.getfield 62, 3) := by decide +kernel
theorem dX10_lane_21 : decode cX10_lane 21 = .ok (.iload_n 1, 1) := by decide +kernel
theorem dX10_lane_22 : decode cX10_lane 22 = .ok (.invokevirtual 279, 3) := by decide +kernel
theorem dX10_lane_25 : decode cX10_lane 25 = .ok (.ifCond .eq 10, 3) := by decide +kernel
theorem dX10_lane_28 : decode cX10_lane 28 = .ok (.aload_n 0, 1) := by decide +kernel
theorem dX10_lane_29 : decode cX10_lane 29 = .ok (.bipush (-3), 2) := by decide +kernel
theorem dX10_lane_31 : decode cX10_lane 31 = .ok (.invokevirtual 81, 3) := by decide +kernel
theorem dX10_lane_34 : decode cX10_lane 34 = .ok (.ireturn, 1) := by decide +kernel
theorem dX10_lane_35 : decode cX10_lane 35 = .ok (.aload_n 0, 1) := by decide +kernel
theorem dX10_lane_36 : decode cX10_lane 36 = .ok (.getfield 62, 3) := by decide +kernel
theorem dX10_lane_39 : decode cX10_lane 39 = .ok (.getfield 269, 3) := by decide +kernel
theorem dX10_lane_42 : decode cX10_lane 42 = .ok (.bipush 8, 2) := by decide +kernel
theorem dX10_lane_44 : decode cX10_lane 44 = .ok (.if_icmp .lt 10, 3) := by decide +kernel
theorem dX10_lane_47 : decode cX10_lane 47 = .ok (.aload_n 0, 1) := by decide +kernel
theorem dX10_lane_48 : decode cX10_lane 48 = .ok (.bipush (-6), 2) := by decide +kernel
theorem dX10_lane_50 : decode cX10_lane 50 = .ok (.invokevirtual 81, 3) := by decide +kernel
theorem dX10_lane_53 : decode cX10_lane 53 = .ok (.ireturn, 1) := by decide +kernel
theorem dX10_lane_54 : decode cX10_lane 54 = .ok (.aload_n 0, 1) := by decide +kernel
theorem dX10_lane_55 : decode cX10_lane 55 = .ok (.getfield 62, 3) := by decide +kernel
theorem dX10_lane_58 : decode cX10_lane 58 = .ok (.iload_n 1, 1) := by decide +kernel
theorem dX10_lane_59 : decode cX10_lane 59 = .ok (.invokevirtual 282, 3) := by decide +kernel
theorem dX10_lane_62 : decode cX10_lane 62 = .ok (.ireturn, 1) := by decide +kernel
theorem dX10_lanes_0 : decode cX10_lanes 0 = .ok (.iload_n 1, 1) := by decide +kernel
theorem dX10_lanes_1 : decode cX10_lanes 1 = .ok (.invokestatic 272, 3) := by decide +kernel
theorem dX10_lanes_4 : decode cX10_lanes 4 = .ok (.ifCond .ne 10, 3) := by decide +kernel
theorem dX10_lanes_7 : decode cX10_lanes 7 = .ok (.aload_n 0, 1) := by decide +kernel
theorem dX10_lanes_8 : decode cX10_lanes 8 = .ok (.bipush (-2), 2) := by decide +kernel
theorem dX10_lanes_10 : decode cX10_lanes 10 = .ok (.invokevirtual 81, 3) := by decide +kernel
theorem dX10_lanes_13 : decode cX10_lanes 13 = .ok (.ireturn, 1) := by decide +kernel
theorem dX10_lanes_14 : decode cX10_lanes 14 = .ok (.iload_n 2, 1) := by decide +kernel
theorem dX10_lanes_15 : decode cX10_lanes 15 = .ok (.iconst 1, 1) := by decide +kernel
theorem dX10_lanes_16 : decode cX10_lanes 16 = .ok (.bipush 30, 2) := by decide +kernel
theorem dX10_lanes_18 : decode cX10_lanes 18 = .ok (.invokestatic 85, 3) := by decide +kernel
theorem dX10_lanes_21 : decode cX10_lanes 21 = .ok (.istore_n 3, 1) := by decide +kernel
theorem dX10_lanes_22 : decode cX10_lanes 22 = .ok (.iload_n 3, 1) := by decide +kernel
theorem dX10_lanes_23 : decode cX10_lanes 23 = .ok (.ifCond .ne 18, 3) := by decide +kernel
theorem dX10_lanes_26 : decode cX10_lanes 26 = .ok (.aload_n 0, 1) := by decide +kernel
theorem dX10_lanes_27 : decode cX10_lanes 27 = .ok (.getfield 62, 3) := by decide +kernel
theorem dX10_lanes_30 : decode cX10_lanes 30 = .ok (.aload_n 0, 1) := by decide +kernel
theorem dX10_lanes_31 : decode cX10_lanes 31 = .ok (.getfield 27, 3) := by decide +kernel
theorem dX10_lanes_34 : decode cX10_lanes 34 = .ok (.iload_n 2, 1) := by decide +kernel
theorem dX10_lanes_35 : decode cX10_lanes 35 = .ok (.invokevirtual 285, 3) := by decide +kernel
theorem dX10_lanes_38 : decode cX10_lanes 38 = .ok (.goto 8, 3) := by decide +kernel
theorem dX10_lanes_41 : decode cX10_lanes 41 = .ok (.aload_n 0, 1) := by decide +kernel
theorem dX10_lanes_42 : decode cX10_lanes 42 = .ok (.iload_n 3, 1) := by decide +kernel
theorem dX10_lanes_43 : decode cX10_lanes 43 = .ok (.invokevirtual 81, 3) := by decide +kernel
theorem dX10_lanes_46 : decode cX10_lanes 46 = .ok (.ireturn, 1) := by decide +kernel
theorem dX10_queue_0 : decode cX10_queue 0 = .ok (.aload_n 0, 1) := by decide +kernel
theorem dX10_queue_1 : decode cX10_queue 1 = .ok (.getfield 27, 3) := by decide +kernel
theorem dX10_queue_4 : decode cX10_queue 4 = .ok (.iload_n 1, 1) := by decide +kernel
theorem dX10_queue_5 : decode cX10_queue 5 = .ok (.invokevirtual 126, 3) := by decide +kernel
theorem dX10_queue_8 : decode cX10_queue 8 = .ok (.ifCond .ne 9, 3) := by decide +kernel
theorem dX10_queue_11 : decode cX10_queue 11 = .ok (.aload_n 0, 1) := by decide +kernel
theorem dX10_queue_12 : decode cX10_queue 12 = .ok (.iconst (-1), 1) := by decide +kernel
theorem dX10_queue_13 : decode cX10_queue 13 = .ok (.invokevirtual 81, 3) := by decide +kernel
theorem dX10_queue_16 : decode cX10_queue 16 = .ok (.ireturn, 1) := by decide +kernel
theorem dX10_queue_17 : decode cX10_queue 17 = .ok (.aload_n 0, 1) := by decide +kernel
theorem dX10_queue_18 : decode cX10_queue 18 = .ok (.getfield 69, 3) := by decide +kernel
theorem dX10_queue_21 : decode cX10_queue 21 = .ok (.iload_n 1, 1) := by decide +kernel
theorem dX10_queue_22 : decode cX10_queue 22 = .ok (.invokevirtual 289, 3) := by decide +kernel
theorem dX10_queue_25 : decode cX10_queue 25 = .ok (.iload_n 2, 1) := by decide +kernel
theorem dX10_queue_26 : decode cX10_queue 26 = .ok (.if_icmp .ne 5, 3) := by decide +kernel
theorem dX10_queue_29 : decode cX10_queue 29 = .ok (.iconst 0, 1) := by decide +kernel
theorem dX10_queue_30 : decode cX10_queue 30 = .ok (.ireturn, 1) := by decide +kernel
theorem dX10_queue_31 : decode cX10_queue 31 = .ok (.iload_n 2, 1) := by decide +kernel
theorem dX10_queue_32 : decode cX10_queue 32 = .ok (.ifCond .eq 14, 3) := by decide +kernel
theorem dX10_queue_35 : decode cX10_queue 35 = .ok (.aload_n 0, 1) := by decide +kernel
theorem dX10_queue_36 : decode cX10_queue 36 = .ok (.getfield 69, 3) := by decide +kernel
theorem dX10_queue_39 : decode cX10_queue 39 = .ok (.iload_n 1, 1) := by decide +kernel
theorem dX10_queue_40 : decode cX10_queue 40 = .ok (.invokevirtual 292, 3) := by decide +kernel
theorem dX10_queue_43 : decode cX10_queue 43 = .ok (.goto 11, 3) := by decide +kernel
theorem dX10_queue_46 : decode cX10_queue 46 = .ok (.aload_n 0, 1) := by decide +kernel
theorem dX10_queue_47 : decode cX10_queue 47 = .ok (.getfield 69, 3) := by decide +kernel
theorem dX10_queue_50 : decode cX10_queue 50 = .ok (.iload_n 1, 1) := by decide +kernel
theorem dX10_queue_51 : decode cX10_queue 51 = .ok (.invokevirtual 296, 3) := by decide +kernel
theorem dX10_queue_54 : decode cX10_queue 54 = .ok (.iconst 1, 1) := by decide +kernel
theorem dX10_queue_55 : decode cX10_queue 55 = .ok (.ireturn, 1) := by decide +kernel
theorem dX10_list_0 : decode cX10_list 0 = .ok (.iload_n 1, 1) := by decide +kernel
theorem dX10_list_1 : decode cX10_list 1 = .ok (.iconst 0, 1) := by decide +kernel
theorem dX10_list_2 : decode cX10_list 2 = .ok (.sipush 999, 3) := by decide +kernel
theorem dX10_list_5 : decode cX10_list 5 = .ok (.invokestatic 85, 3) := by decide +kernel
theorem dX10_list_8 : decode cX10_list 8 = .ok (.istore_n 3, 1) := by decide +kernel
theorem dX10_list_9 : decode cX10_list 9 = .ok (.iload_n 3, 1) := by decide +kernel
theorem dX10_list_10 : decode cX10_list 10 = .ok (.ifCond .eq 9, 3) := by decide +kernel
theorem dX10_list_13 : decode cX10_list 13 = .ok (.aload_n 0, 1) := by decide +kernel
theorem dX10_list_14 : decode cX10_list 14 = .ok (.iload_n 3, 1) := by decide +kernel
theorem dX10_list_15 : decode cX10_list 15 = .ok (.invokevirtual 81, 3) := by decide +kernel
theorem dX10_list_18 : decode cX10_list 18 = .ok (.ireturn, 1) := by decide +kernel
theorem dX10_list_19 : decode cX10_list 19 = .ok (.aload_n 0, 1) := by decide +kernel
theorem dX10_list_20 : decode cX10_list 20 = .ok (.getfield 69, 3) := by decide +kernel
theorem dX10_list_23 : decode cX10_list 23 = .ok (.aload_n 0, 1) := by decide +kernel
theorem dX10_list_24 : decode cX10_list 24 = .ok (.getfield 27, 3) := by decide +kernel
theorem dX10_list_27 : decode cX10_list 27 = .ok (.aload_n 0, 1) := by decide +kernel
theorem dX10_list_28 : decode cX10_list 28 = .ok (.getfield 34, 3) := by decide +kernel
theorem dX10_list_31 : decode cX10_list 31 = .ok (.iload_n 1, 1) := by decide +kernel
theorem dX10_list_32 : decode cX10_list 32 = .ok (.invokevirtual 299, 3) := by decide +kernel
theorem dX10_list_35 : decode cX10_list 35 = .ok (.pop, 1) := by decide +kernel
theorem dX10_list_36 : decode cX10_list 36 = .ok (.aload_n 0, 1) := by decide +kernel
theorem dX10_list_37 : decode cX10_list 37 = .ok (.getfield 69, 3) := by decide +kernel
theorem dX10_list_40 : decode cX10_list 40 = .ok (.iload_n 2, 1) := by decide +kernel
theorem dX10_list_41 : decode cX10_list 41 = .ok (.invokevirtual 303, 3) := by decide +kernel
theorem dX10_list_44 : decode cX10_list 44 = .ok (.ireturn, 1) := by decide +kernel
theorem dX10_goes_0 : decode cX10_goes 0 = .ok (.iload_n 1, 1) := by decide +kernel
theorem dX10_goes_1 : decode cX10_goes 1 = .ok (.iconst 0, 1) := by decide +kernel
theorem dX10_goes_2 : decode cX10_goes 2 = .ok (.bipush 60, 2) := by decide +kernel
theorem dX10_goes_4 : decode cX10_goes 4 = .ok (.invokestatic 85, 3) := by decide +kernel
theorem dX10_goes_7 : decode cX10_goes 7 = .ok (.istore_n 2, 1) := by decide +kernel
theorem dX10_goes_8 : decode cX10_goes 8 = .ok (.iload_n 2, 1) := by decide +kernel
theorem dX10_goes_9 : decode cX10_goes 9 = .ok (.ifCond .eq 9, 3) := by decide +kernel
theorem dX10_goes_12 : decode cX10_goes 12 = .ok (.aload_n 0, 1) := by decide +kernel
theorem dX10_goes_13 : decode cX10_goes 13 = .ok (.iload_n 2, 1) := by decide +kernel
theorem dX10_goes_14 : decode cX10_goes 14 = .ok (.invokevirtual 81, 3) := by decide +kernel
theorem dX10_goes_17 : decode cX10_goes 17 = .ok (.ireturn, 1) := by decide +kernel
theorem dX10_goes_18 : decode cX10_goes 18 = .ok (.iload_n 1, 1) := by decide +kernel
theorem dX10_goes_19 : decode cX10_goes 19 = .ok (.aload_n 0, 1) := by decide +kernel
theorem dX10_goes_20 : decode cX10_goes 20 = .ok (.getfield 69, 3) := by decide +kernel
theorem dX10_goes_23 : decode cX10_goes 23 = .ok (.aload_n 0, 1) := by decide +kernel
theorem dX10_goes_24 : decode cX10_goes 24 = .ok (.getfield 27, 3) := by decide +kernel
theorem dX10_goes_27 : decode cX10_goes 27 = .ok (.aload_n 0, 1) := by decide +kernel
theorem dX10_goes_28 : decode cX10_goes 28 = .ok (.getfield 34, 3) := by decide +kernel
theorem dX10_goes_31 : decode cX10_goes 31 = .ok (.aload_n 0, 1) := by decide +kernel
theorem dX10_goes_32 : decode cX10_goes 32 = .ok (.getfield 7, 3) := by decide +kernel
theorem dX10_goes_35 : decode cX10_goes 35 = .ok (.invokevirtual 299, 3) := by decide +kernel
theorem dX10_goes_38 : decode cX10_goes 38 = .ok (.invokestatic 306, 3) := by decide +kernel
theorem dX10_goes_41 : decode cX10_goes 41 = .ok (.istore_n 3, 1) := by decide +kernel
theorem dX10_goes_42 : decode cX10_goes 42 = .ok (.aload_n 0, 1) := by decide +kernel
theorem dX10_goes_43 : decode cX10_goes 43 = .ok (.getfield 27, 3) := by decide +kernel
theorem dX10_goes_46 : decode cX10_goes 46 = .ok (.getfield 132, 3) := by decide +kernel
theorem dX10_goes_49 : decode cX10_goes 49 = .ok (.iload_n 3, 1) := by decide +kernel
theorem dX10_goes_50 : decode cX10_goes 50 = .ok (.iadd, 1) := by decide +kernel
theorem dX10_goes_51 : decode cX10_goes 51 = .ok (.sipush 150, 3) := by decide +kernel
theorem dX10_goes_54 : decode cX10_goes 54 = .ok (.if_icmp .le 10, 3) := by decide +kernel
theorem dX10_goes_57 : decode cX10_goes 57 = .ok (.aload_n 0, 1) := by decide +kernel
theorem dX10_goes_58 : decode cX10_goes 58 = .ok (.bipush (-6), 2) := by decide +kernel
theorem dX10_goes_60 : decode cX10_goes 60 = .ok (.invokevirtual 81, 3) := by decide +kernel
theorem dX10_goes_63 : decode cX10_goes 63 = .ok (.ireturn, 1) := by decide +kernel
theorem dX10_goes_64 : decode cX10_goes 64 = .ok (.iconst 0, 1) := by decide +kernel
theorem dX10_goes_65 : decode cX10_goes 65 = .ok (.istore 4, 2) := by decide +kernel
theorem dX10_goes_67 : decode cX10_goes 67 = .ok (.iload 4, 2) := by decide +kernel
theorem dX10_goes_69 : decode cX10_goes 69 = .ok (.iload_n 3, 1) := by decide +kernel
theorem dX10_goes_70 : decode cX10_goes 70 = .ok (.if_icmp .ge 56, 3) := by decide +kernel
theorem dX10_goes_73 : decode cX10_goes 73 = .ok (.aload_n 0, 1) := by decide +kernel
theorem dX10_goes_74 : decode cX10_goes 74 = .ok (.getfield 69, 3) := by decide +kernel
theorem dX10_goes_77 : decode cX10_goes 77 = .ok (.iload 4, 2) := by decide +kernel
theorem dX10_goes_79 : decode cX10_goes 79 = .ok (.invokevirtual 303, 3) := by decide +kernel
theorem dX10_goes_82 : decode cX10_goes 82 = .ok (.istore 5, 2) := by decide +kernel
theorem dX10_goes_84 : decode cX10_goes 84 = .ok (.aload_n 0, 1) := by decide +kernel
theorem dX10_goes_85 : decode cX10_goes 85 = .ok (.getfield 27, 3) := by decide +kernel
theorem dX10_goes_88 : decode cX10_goes 88 = .ok (.iload 5, 2) := by decide +kernel
theorem dX10_goes_90 : decode cX10_goes 90 = .ok (.invokevirtual 126, 3) := by decide +kernel
theorem dX10_goes_93 : decode cX10_goes 93 = .ok (.ifCond .eq 27, 3) := by decide +kernel
theorem dX10_goes_96 : decode cX10_goes 96 = .ok (.aload_n 0, 1) := by decide +kernel
theorem dX10_goes_97 : decode cX10_goes 97 = .ok (.getfield 27, 3) := by decide +kernel
theorem dX10_goes_100 : decode cX10_goes 100 = .ok (.iload 5, 2) := by decide +kernel
theorem dX10_goes_102 : decode cX10_goes 102 = .ok (.iconst 3, 1) := by decide +kernel
theorem dX10_goes_103 : decode cX10_goes 103 = .ok (.aload_n 0, 1) := by decide +kernel
theorem dX10_goes_104 : decode cX10_goes 104 = .ok (.getfield 7, 3) := by decide +kernel
theorem dX10_goes_107 : decode cX10_goes 107 = .ok (.invokevirtual 135, 3) := by decide +kernel
theorem dX10_goes_110 : decode cX10_goes 110 = .ok (.pop, 1) := by decide +kernel
theorem dX10_goes_111 : decode cX10_goes 111 = .ok (.aload_n 0, 1) := by decide +kernel
theorem dX10_goes_112 : decode cX10_goes 112 = .ok (.getfield 69, 3) := by decide +kernel
theorem dX10_goes_115 : decode cX10_goes 115 = .ok (.iload 5, 2) := by decide +kernel
theorem dX10_goes_117 : decode cX10_goes 117 = .ok (.invokevirtual 296, 3) := by decide +kernel
theorem dX10_goes_120 : decode cX10_goes 120 = .ok (.iinc 4 1, 3) := by decide +kernel
theorem dX10_goes_123 : decode cX10_goes 123 = .ok (.goto (-56), 3) := by decide +kernel
theorem dX10_goes_126 : decode cX10_goes 126 = .ok (.aload_n 0, 1) := by decide +kernel
theorem dX10_goes_127 : decode cX10_goes 127 = .ok (.getfield 55, 3) := by decide +kernel
theorem dX10_goes_130 : decode cX10_goes 130 = .ok (.invokevirtual 109, 3) := by decide +kernel
theorem dX10_goes_133 : decode cX10_goes 133 = .ok (.iload_n 3, 1) := by decide +kernel
theorem dX10_goes_134 : decode cX10_goes 134 = .ok (.ireturn, 1) := by decide +kernel
theorem dX10_count_0 : decode cX10_count 0 = .ok (.iload_n 1, 1) := by decide +kernel
theorem dX10_count_1 : decode cX10_count 1 = .ok (.invokestatic 100, 3) := by decide +kernel
theorem dX10_count_4 : decode cX10_count 4 = .ok (.ifCond .ne 9, 3) := by decide +kernel
theorem dX10_count_7 : decode cX10_count 7 = .ok (.aload_n 0, 1) := by decide +kernel
theorem dX10_count_8 : decode cX10_count 8 = .ok (.iconst (-1), 1) := by decide +kernel
theorem dX10_count_9 : decode cX10_count 9 = .ok (.invokevirtual 81, 3) := by decide +kernel
theorem dX10_count_12 : decode cX10_count 12 = .ok (.ireturn, 1) := by decide +kernel
theorem dX10_count_13 : decode cX10_count 13 = .ok (.iload_n 2, 1) := by decide +kernel
theorem dX10_count_14 : decode cX10_count 14 = .ok (.ifCond .lt 8, 3) := by decide +kernel
theorem dX10_count_17 : decode cX10_count 17 = .ok (.iload_n 3, 1) := by decide +kernel
theorem dX10_count_18 : decode cX10_count 18 = .ok (.iconst (-1), 1) := by decide +kernel
theorem dX10_count_19 : decode cX10_count 19 = .ok (.if_icmp .ge 10, 3) := by decide +kernel
theorem dX10_count_22 : decode cX10_count 22 = .ok (.aload_n 0, 1) := by decide +kernel
theorem dX10_count_23 : decode cX10_count 23 = .ok (.bipush (-4), 2) := by decide +kernel
theorem dX10_count_25 : decode cX10_count 25 = .ok (.invokevirtual 81, 3) := by decide +kernel
theorem dX10_count_28 : decode cX10_count 28 = .ok (.ireturn, 1) := by decide +kernel
theorem dX10_count_29 : decode cX10_count 29 = .ok (.iload_n 2, 1) := by decide +kernel
theorem dX10_count_30 : decode cX10_count 30 = .ok (.aload_n 0, 1) := by decide +kernel
theorem dX10_count_31 : decode cX10_count 31 = .ok (.getfield 7, 3) := by decide +kernel
theorem dX10_count_34 : decode cX10_count 34 = .ok (.if_icmp .gt 22, 3) := by decide +kernel
theorem dX10_count_37 : decode cX10_count 37 = .ok (.iload_n 3, 1) := by decide +kernel
theorem dX10_count_38 : decode cX10_count 38 = .ok (.sipush 9999, 3) := by decide +kernel
theorem dX10_count_41 : decode cX10_count 41 = .ok (.if_icmp .gt 15, 3) := by decide +kernel
theorem dX10_count_44 : decode cX10_count 44 = .ok (.aload_n 0, 1) := by decide +kernel
theorem dX10_count_45 : decode cX10_count 45 = .ok (.getfield 76, 3) := by decide +kernel
theorem dX10_count_48 : decode cX10_count 48 = .ok (.getfield 311, 3) := by decide +kernel
theorem dX10_count_51 : decode cX10_count 51 = .ok (.bipush 40, 2) := by decide +kernel
theorem dX10_count_53 : decode cX10_count 53 = .ok (.if_icmp .lt 10, 3) := by decide +kernel
theorem dX10_count_56 : decode cX10_count 56 = .ok (.aload_n 0, 1) := by decide +kernel
theorem dX10_count_57 : decode cX10_count 57 = .ok (.bipush (-6), 2) := by decide +kernel
theorem dX10_count_59 : decode cX10_count 59 = .ok (.invokevirtual 81, 3) := by decide +kernel
theorem dX10_count_62 : decode cX10_count 62 = .ok (.ireturn, 1) := by decide +kernel
theorem dX10_count_63 : decode cX10_count 63 = .ok (.aload_n 0, 1) := by decide +kernel
theorem dX10_count_64 : decode cX10_count 64 = .ok (.getfield 76, 3) := by decide +kernel
theorem dX10_count_67 : decode cX10_count 67 = .ok (.iload_n 1, 1) := by decide +kernel
theorem dX10_count_68 : decode cX10_count 68 = .ok (.iload_n 2, 1) := by decide +kernel
theorem dX10_count_69 : decode cX10_count 69 = .ok (.iload_n 3, 1) := by decide +kernel
theorem dX10_count_70 : decode cX10_count 70 = .ok (.aload_n 0, 1) := by decide +kernel
theorem dX10_count_71 : decode cX10_count 71 = .ok (.getfield 7, 3) := by decide +kernel
theorem dX10_count_74 : decode cX10_count 74 = .ok (.invokevirtual 312, 3) := by decide +kernel
theorem dX10_count_77 : decode cX10_count 77 = .ok (.ireturn, 1) := by decide +kernel
theorem dX10_counted_0 : decode cX10_counted 0 = .ok (.iload_n 1, 1) := by decide +kernel
theorem dX10_counted_1 : decode cX10_counted 1 = .ok (.invokestatic 100, 3) := by decide +kernel
theorem dX10_counted_4 : decode cX10_counted 4 = .ok (.ifCond .ne 9, 3) := by decide +kernel
theorem dX10_counted_7 : decode cX10_counted 7 = .ok (.aload_n 0, 1) := by decide +kernel
theorem dX10_counted_8 : decode cX10_counted 8 = .ok (.iconst (-1), 1) := by decide +kernel
theorem dX10_counted_9 : decode cX10_counted 9 = .ok (.invokevirtual 81, 3) := by decide +kernel
theorem dX10_counted_12 : decode cX10_counted 12 = .ok (.ireturn, 1) := by decide +kernel
theorem dX10_counted_13 : decode cX10_counted 13 = .ok (.iload_n 2, 1) := by decide +kernel
theorem dX10_counted_14 : decode cX10_counted 14 = .ok (.ifCond .lt 7, 3) := by decide +kernel
theorem dX10_counted_17 : decode cX10_counted 17 = .ok (.iload_n 3, 1) := by decide +kernel
theorem dX10_counted_18 : decode cX10_counted 18 = .ok (.ifCond .ge 10, 3) := by decide +kernel
theorem dX10_counted_21 : decode cX10_counted 21 = .ok (.aload_n 0, 1) := by decide +kernel
theorem dX10_counted_22 : decode cX10_counted 22 = .ok (.bipush (-4), 2) := by decide +kernel
theorem dX10_counted_24 : decode cX10_counted 24 = .ok (.invokevirtual 81, 3) := by decide +kernel
theorem dX10_counted_27 : decode cX10_counted 27 = .ok (.ireturn, 1) := by decide +kernel
theorem dX10_counted_28 : decode cX10_counted 28 = .ok (.iload_n 2, 1) := by decide +kernel
theorem dX10_counted_29 : decode cX10_counted 29 = .ok (.sipush 999, 3) := by decide +kernel
theorem dX10_counted_32 : decode cX10_counted 32 = .ok (.if_icmp .gt 10, 3) := by decide +kernel
theorem dX10_counted_35 : decode cX10_counted 35 = .ok (.iload_n 3, 1) := by decide +kernel
theorem dX10_counted_36 : decode cX10_counted 36 = .ok (.sipush 999, 3) := by decide +kernel
theorem dX10_counted_39 : decode cX10_counted 39 = .ok (.if_icmp .le 10, 3) := by decide +kernel
theorem dX10_counted_42 : decode cX10_counted 42 = .ok (.aload_n 0, 1) := by decide +kernel
theorem dX10_counted_43 : decode cX10_counted 43 = .ok (.bipush (-6), 2) := by decide +kernel
theorem dX10_counted_45 : decode cX10_counted 45 = .ok (.invokevirtual 81, 3) := by decide +kernel
theorem dX10_counted_48 : decode cX10_counted 48 = .ok (.ireturn, 1) := by decide +kernel
theorem dX10_counted_49 : decode cX10_counted 49 = .ok (.aload_n 0, 1) := by decide +kernel
theorem dX10_counted_50 : decode cX10_counted 50 = .ok (.getfield 76, 3) := by decide +kernel
theorem dX10_counted_53 : decode cX10_counted 53 = .ok (.iload_n 1, 1) := by decide +kernel
theorem dX10_counted_54 : decode cX10_counted 54 = .ok (.iload_n 2, 1) := by decide +kernel
theorem dX10_counted_55 : decode cX10_counted 55 = .ok (.iload_n 3, 1) := by decide +kernel
theorem dX10_counted_56 : decode cX10_counted 56 = .ok (.invokevirtual 314, 3) := by decide +kernel
theorem dX10_counted_59 : decode cX10_counted 59 = .ok (.ireturn, 1) := by decide +kernel
theorem dX10_off_0 : decode cX10_off 0 = .ok (.iload_n 1, 1) := by decide +kernel
theorem dX10_off_1 : decode cX10_off 1 = .ok (.invokestatic 100, 3) := by decide +kernel
theorem dX10_off_4 : decode cX10_off 4 = .ok (.ifCond .ne 9, 3) := by decide +kernel
theorem dX10_off_7 : decode cX10_off 7 = .ok (.aload_n 0, 1) := by decide +kernel
theorem dX10_off_8 : decode cX10_off 8 = .ok (.iconst (-1), 1) := by decide +kernel
theorem dX10_off_9 : decode cX10_off 9 = .ok (.invokevirtual 184, 3) := by decide +kernel
theorem dX10_off_12 : decode cX10_off 12 = .ok (.ireturn, 1) := by decide +kernel
theorem dX10_off_13 : decode cX10_off 13 = .ok (.iload_n 2, 1) := by decide +kernel
theorem dX10_off_14 : decode cX10_off 14 = .ok (.iconst 0, 1) := by decide +kernel
theorem dX10_off_15 : decode cX10_off 15 = .ok (.sipush 999, 3) := by decide +kernel
theorem dX10_off_18 : decode cX10_off 18 = .ok (.invokestatic 85, 3) := by decide +kernel
theorem dX10_off_21 : decode cX10_off 21 = .ok (.istore_n 3, 1) := by decide +kernel
theorem dX10_off_22 : decode cX10_off 22 = .ok (.iload_n 3, 1) := by decide +kernel
theorem dX10_off_23 : decode cX10_off 23 = .ok (.ifCond .eq 9, 3) := by decide +kernel
theorem dX10_off_26 : decode cX10_off 26 = .ok (.aload_n 0, 1) := by decide +kernel
theorem dX10_off_27 : decode cX10_off 27 = .ok (.iload_n 3, 1) := by decide +kernel
theorem dX10_off_28 : decode cX10_off 28 = .ok (.invokevirtual 184, 3) := by decide +kernel
theorem dX10_off_31 : decode cX10_off 31 = .ok (.ireturn, 1) := by decide +kernel
theorem dX10_off_32 : decode cX10_off 32 = .ok (.aload_n 0, 1) := by decide +kernel
theorem dX10_off_33 : decode cX10_off 33 = .ok (.getfield 76, 3) := by decide +kernel
theorem dX10_off_36 : decode cX10_off 36 = .ok (.iload_n 1, 1) := by decide +kernel
theorem dX10_off_37 : decode cX10_off 37 = .ok (.iload_n 2, 1) := by decide +kernel
theorem dX10_off_38 : decode cX10_off 38 = .ok (.aload_n 0, 1) := by decide +kernel
theorem dX10_off_39 : decode cX10_off 39 = .ok (.getfield 7, 3) := by decide +kernel
theorem dX10_off_42 : decode cX10_off 42 = .ok (.invokevirtual 314, 3) := by decide +kernel
theorem dX10_off_45 : decode cX10_off 45 = .ok (.istore 4, 2) := by decide +kernel
theorem dX10_off_47 : decode cX10_off 47 = .ok (.iload 4, 2) := by decide +kernel
theorem dX10_off_49 : decode cX10_off 49 = .ok (.bipush (-9), 2) := by decide +kernel
theorem dX10_off_51 : decode cX10_off 51 = .ok (.if_icmp .ne 12, 3) := by decide +kernel
theorem dX10_off_54 : decode cX10_off 54 = .ok (.aload_n 0, 1) := by decide +kernel
theorem dX10_off_55 : decode cX10_off 55 = .ok (.bipush (-3), 2) := by decide +kernel
theorem dX10_off_57 : decode cX10_off 57 = .ok (.invokevirtual 184, 3) := by decide +kernel
theorem dX10_off_60 : decode cX10_off 60 = .ok (.goto 15, 3) := by decide +kernel
theorem dX10_off_63 : decode cX10_off 63 = .ok (.iload 4, 2) := by decide +kernel
theorem dX10_off_65 : decode cX10_off 65 = .ok (.aload_n 0, 1) := by decide +kernel
theorem dX10_off_66 : decode cX10_off 66 = .ok (.getfield 27, 3) := by decide +kernel
theorem dX10_off_69 : decode cX10_off 69 = .ok (.iload_n 1, 1) := by decide +kernel
theorem dX10_off_70 : decode cX10_off 70 = .ok (.iload_n 2, 1) := by decide +kernel
theorem dX10_off_71 : decode cX10_off 71 = .ok (.invokevirtual 317, 3) := by decide +kernel
theorem dX10_off_74 : decode cX10_off 74 = .ok (.isub, 1) := by decide +kernel
theorem dX10_off_75 : decode cX10_off 75 = .ok (.ireturn, 1) := by decide +kernel
theorem dX10_total_0 : decode cX10_total 0 = .ok (.iload_n 1, 1) := by decide +kernel
theorem dX10_total_1 : decode cX10_total 1 = .ok (.tableswitch 148 0 10 #[59, 64, 72, 80, 92, 100, 108, 116, 124, 132, 140], 59) := by decide +kernel
theorem dX10_total_60 : decode cX10_total 60 = .ok (.aload_n 0, 1) := by decide +kernel
theorem dX10_total_61 : decode cX10_total 61 = .ok (.getfield 7, 3) := by decide +kernel
theorem dX10_total_64 : decode cX10_total 64 = .ok (.ireturn, 1) := by decide +kernel
theorem dX10_total_65 : decode cX10_total 65 = .ok (.aload_n 0, 1) := by decide +kernel
theorem dX10_total_66 : decode cX10_total 66 = .ok (.getfield 27, 3) := by decide +kernel
theorem dX10_total_69 : decode cX10_total 69 = .ok (.getfield 106, 3) := by decide +kernel
theorem dX10_total_72 : decode cX10_total 72 = .ok (.ireturn, 1) := by decide +kernel
theorem dX10_total_73 : decode cX10_total 73 = .ok (.aload_n 0, 1) := by decide +kernel
theorem dX10_total_74 : decode cX10_total 74 = .ok (.getfield 27, 3) := by decide +kernel
theorem dX10_total_77 : decode cX10_total 77 = .ok (.getfield 119, 3) := by decide +kernel
theorem dX10_total_80 : decode cX10_total 80 = .ok (.ireturn, 1) := by decide +kernel
theorem dX10_total_81 : decode cX10_total 81 = .ok (.aload_n 0, 1) := by decide +kernel
theorem dX10_total_82 : decode cX10_total 82 = .ok (.getfield 27, 3) := by decide +kernel
theorem dX10_total_85 : decode cX10_total 85 = .ok (.aload_n 0, 1) := by decide +kernel
theorem dX10_total_86 : decode cX10_total 86 = .ok (.getfield 7, 3) := by decide +kernel
theorem dX10_total_89 : decode cX10_total 89 = .ok (.invokevirtual 320, 3) := by decide +kernel
theorem dX10_total_92 : decode cX10_total 92 = .ok (.ireturn, 1) := by decide +kernel
theorem dX10_total_93 : decode cX10_total 93 = .ok (.aload_n 0, 1) := by decide +kernel
theorem dX10_total_94 : decode cX10_total 94 = .ok (.getfield 41, 3) := by decide +kernel
theorem dX10_total_97 : decode cX10_total 97 = .ok (.invokevirtual 323, 3) := by decide +kernel
theorem dX10_total_100 : decode cX10_total 100 = .ok (.ireturn, 1) := by decide +kernel
theorem dX10_total_101 : decode cX10_total 101 = .ok (.aload_n 0, 1) := by decide +kernel
theorem dX10_total_102 : decode cX10_total 102 = .ok (.getfield 48, 3) := by decide +kernel
theorem dX10_total_105 : decode cX10_total 105 = .ok (.getfield 191, 3) := by decide +kernel
theorem dX10_total_108 : decode cX10_total 108 = .ok (.ireturn, 1) := by decide +kernel
theorem dX10_total_109 : decode cX10_total 109 = .ok (.aload_n 0, 1) := by decide +kernel
theorem dX10_total_110 : decode cX10_total 110 = .ok (.getfield 55, 3) := by decide +kernel
theorem dX10_total_113 : decode cX10_total 113 = .ok (.getfield 214, 3) := by decide +kernel
theorem dX10_total_116 : decode cX10_total 116 = .ok (.ireturn, 1) := by decide +kernel
theorem dX10_total_117 : decode cX10_total 117 = .ok (.aload_n 0, 1) := by decide +kernel
theorem dX10_total_118 : decode cX10_total 118 = .ok (.getfield 20, 3) := by decide +kernel
theorem dX10_total_121 : decode cX10_total 121 = .ok (.getfield 240, 3) := by decide +kernel
theorem dX10_total_124 : decode cX10_total 124 = .ok (.ireturn, 1) := by decide +kernel
theorem dX10_total_125 : decode cX10_total 125 = .ok (.aload_n 0, 1) := by decide +kernel
theorem dX10_total_126 : decode cX10_total 126 = .ok (.getfield 69, 3) := by decide +kernel
theorem dX10_total_129 : decode cX10_total 129 = .ok (.getfield 326, 3) := by decide +kernel
theorem dX10_total_132 : decode cX10_total 132 = .ok (.ireturn, 1) := by decide +kernel
theorem dX10_total_133 : decode cX10_total 133 = .ok (.aload_n 0, 1) := by decide +kernel
theorem dX10_total_134 : decode cX10_total 134 = .ok (.getfield 34, 3) := by decide +kernel
theorem dX10_total_137 : decode cX10_total 137 = .ok (.getfield 141, 3) := by decide +kernel
theorem dX10_total_140 : decode cX10_total 140 = .ok (.ireturn, 1) := by decide +kernel
theorem dX10_total_141 : decode cX10_total 141 = .ok (.aload_n 0, 1) := by decide +kernel
theorem dX10_total_142 : decode cX10_total 142 = .ok (.getfield 34, 3) := by decide +kernel
theorem dX10_total_145 : decode cX10_total 145 = .ok (.getfield 148, 3) := by decide +kernel
theorem dX10_total_148 : decode cX10_total 148 = .ok (.ireturn, 1) := by decide +kernel
theorem dX10_total_149 : decode cX10_total 149 = .ok (.iload_n 1, 1) := by decide +kernel
theorem dX10_total_150 : decode cX10_total 150 = .ok (.bipush 10, 2) := by decide +kernel
theorem dX10_total_152 : decode cX10_total 152 = .ok (.isub, 1) := by decide +kernel
theorem dX10_total_153 : decode cX10_total 153 = .ok (.istore_n 2, 1) := by decide +kernel
theorem dX10_total_154 : decode cX10_total 154 = .ok (.iload_n 2, 1) := by decide +kernel
theorem dX10_total_155 : decode cX10_total 155 = .ok (.iconst 1, 1) := by decide +kernel
theorem dX10_total_156 : decode cX10_total 156 = .ok (.if_icmp .lt 21, 3) := by decide +kernel
theorem dX10_total_159 : decode cX10_total 159 = .ok (.iload_n 2, 1) := by decide +kernel
theorem dX10_total_160 : decode cX10_total 160 = .ok (.aload_n 0, 1) := by decide +kernel
theorem dX10_total_161 : decode cX10_total 161 = .ok (.getfield 13, 3) := by decide +kernel
theorem dX10_total_164 : decode cX10_total 164 = .ok (.arraylength, 1) := by decide +kernel
theorem dX10_total_165 : decode cX10_total 165 = .ok (.if_icmp .ge 12, 3) := by decide +kernel
theorem dX10_total_168 : decode cX10_total 168 = .ok (.aload_n 0, 1) := by decide +kernel
theorem dX10_total_169 : decode cX10_total 169 = .ok (.getfield 13, 3) := by decide +kernel
theorem dX10_total_172 : decode cX10_total 172 = .ok (.iload_n 2, 1) := by decide +kernel
theorem dX10_total_173 : decode cX10_total 173 = .ok (.iaload, 1) := by decide +kernel
theorem dX10_total_174 : decode cX10_total 174 = .ok (.goto 5, 3) := by decide +kernel
theorem dX10_total_177 : decode cX10_total 177 = .ok (.bipush (-9), 2) := by decide +kernel
theorem dX10_total_179 : decode cX10_total 179 = .ok (.ireturn, 1) := by decide +kernel
theorem dX11_init_0 : decode cX11_init 0 = .ok (.aload_n 0, 1) := by decide +kernel
theorem dX11_init_1 : decode cX11_init 1 = .ok (.invokespecial 1, 3) := by decide +kernel
theorem dX11_init_4 : decode cX11_init 4 = .ok (.aload_n 0, 1) := by decide +kernel
theorem dX11_init_5 : decode cX11_init 5 = .ok (.bipush 7, 2) := by decide +kernel
theorem dX11_init_7 : decode cX11_init 7 = .ok (.newarray .int, 2) := by decide +kernel
theorem dX11_init_9 : decode cX11_init 9 = .ok (.putfield 7, 3) := by decide +kernel
theorem dX11_init_12 : decode cX11_init 12 = .ok (.aload_n 0, 1) := by decide +kernel
theorem dX11_init_13 : decode cX11_init 13 = .ok (.sipush 144, 3) := by decide +kernel
theorem dX11_init_16 : decode cX11_init 16 = .ok (.newarray .int, 2) := by decide +kernel
theorem dX11_init_18 : decode cX11_init 18 = .ok (.putfield 13, 3) := by decide +kernel
theorem dX11_init_21 : decode cX11_init 21 = .ok (.aload_n 0, 1) := by decide +kernel
theorem dX11_init_22 : decode cX11_init 22 = .ok (.bipush 30, 2) := by decide +kernel
theorem dX11_init_24 : decode cX11_init 24 = .ok (.newarray .int, 2) := by decide +kernel
theorem dX11_init_26 : decode cX11_init 26 = .ok (.putfield 16, 3) := by decide +kernel
theorem dX11_init_29 : decode cX11_init 29 = .ok (.aload_n 0, 1) := by decide +kernel
theorem dX11_init_30 : decode cX11_init 30 = .ok (.bipush 30, 2) := by decide +kernel
theorem dX11_init_32 : decode cX11_init 32 = .ok (.newarray .int, 2) := by decide +kernel
theorem dX11_init_34 : decode cX11_init 34 = .ok (.putfield 19, 3) := by decide +kernel
theorem dX11_init_37 : decode cX11_init 37 = .ok (.aload_n 0, 1) := by decide +kernel
theorem dX11_init_38 : decode cX11_init 38 = .ok (.bipush 60, 2) := by decide +kernel
theorem dX11_init_40 : decode cX11_init 40 = .ok (.newarray .int, 2) := by decide +kernel
theorem dX11_init_42 : decode cX11_init 42 = .ok (.putfield 22, 3) := by decide +kernel
theorem dX11_init_45 : decode cX11_init 45 = .ok (.aload_n 0, 1) := by decide +kernel
theorem dX11_init_46 : decode cX11_init 46 = .ok (.bipush 60, 2) := by decide +kernel
theorem dX11_init_48 : decode cX11_init 48 = .ok (.newarray .int, 2) := by decide +kernel
theorem dX11_init_50 : decode cX11_init 50 = .ok (.putfield 25, 3) := by decide +kernel
theorem dX11_init_53 : decode cX11_init 53 = .ok (.aload_n 0, 1) := by decide +kernel
theorem dX11_init_54 : decode cX11_init 54 = .ok (.bipush 60, 2) := by decide +kernel
theorem dX11_init_56 : decode cX11_init 56 = .ok (.newarray .int, 2) := by decide +kernel
theorem dX11_init_58 : decode cX11_init 58 = .ok (.putfield 28, 3) := by decide +kernel
theorem dX11_init_61 : decode cX11_init 61 = .ok (.aload_n 0, 1) := by decide +kernel
theorem dX11_init_62 : decode cX11_init 62 = .ok (.bipush 60, 2) := by decide +kernel
theorem dX11_init_64 : decode cX11_init 64 = .ok (.newarray .int, 2) := by decide +kernel
theorem dX11_init_66 : decode cX11_init 66 = .ok (.putfield 31, 3) := by decide +kernel
theorem dX11_init_69 : decode cX11_init 69 = .ok (.aload_n 0, 1) := by decide +kernel
theorem dX11_init_70 : decode cX11_init 70 = .ok (.sipush 150, 3) := by decide +kernel
theorem dX11_init_73 : decode cX11_init 73 = .ok (.newarray .int, 2) := by decide +kernel
theorem dX11_init_75 : decode cX11_init 75 = .ok (.putfield 34, 3) := by decide +kernel
theorem dX11_init_78 : decode cX11_init 78 = .ok (.aload_n 0, 1) := by decide +kernel
theorem dX11_init_79 : decode cX11_init 79 = .ok (.sipush 150, 3) := by decide +kernel
theorem dX11_init_82 : decode cX11_init 82 = .ok (.newarray .int, 2) := by decide +kernel
theorem dX11_init_84 : decode cX11_init 84 = .ok (.putfield 37, 3) := by decide +kernel
theorem dX11_init_87 : decode cX11_init 87 = .ok (.aload_n 0, 1) := by decide +kernel
theorem dX11_init_88 : decode cX11_init 88 = .ok (.sipush 150, 3) := by decide +kernel
theorem dX11_init_91 : decode cX11_init 91 = .ok (.newarray .int, 2) := by decide +kernel
theorem dX11_init_93 : decode cX11_init 93 = .ok (.putfield 40, 3) := by decide +kernel
theorem dX11_init_96 : decode cX11_init 96 = .ok (.aload_n 0, 1) := by decide +kernel
theorem dX11_init_97 : decode cX11_init 97 = .ok (.bipush 60, 2) := by decide +kernel
theorem dX11_init_99 : decode cX11_init 99 = .ok (.newarray .int, 2) := by decide +kernel
theorem dX11_init_101 : decode cX11_init 101 = .ok (.putfield 43, 3) := by decide +kernel
theorem dX11_init_104 : decode cX11_init 104 = .ok (.aload_n 0, 1) := by decide +kernel
theorem dX11_init_105 : decode cX11_init 105 = .ok (.sipush 1800, 3) := by decide +kernel
theorem dX11_init_108 : decode cX11_init 108 = .ok (.newarray .int, 2) := by decide +kernel
theorem dX11_init_110 : decode cX11_init 110 = .ok (.putfield 46, 3) := by decide +kernel
theorem dX11_init_113 : decode cX11_init 113 = .ok (.aload_n 0, 1) := by decide +kernel
theorem dX11_init_114 : decode cX11_init 114 = .ok (.bipush 30, 2) := by decide +kernel
theorem dX11_init_116 : decode cX11_init 116 = .ok (.newarray .int, 2) := by decide +kernel
theorem dX11_init_118 : decode cX11_init 118 = .ok (.putfield 49, 3) := by decide +kernel
theorem dX11_init_121 : decode cX11_init 121 = .ok (.aload_n 0, 1) := by decide +kernel
theorem dX11_init_122 : decode cX11_init 122 = .ok (.bipush 30, 2) := by decide +kernel
theorem dX11_init_124 : decode cX11_init 124 = .ok (.newarray .int, 2) := by decide +kernel
theorem dX11_init_126 : decode cX11_init 126 = .ok (.putfield 52, 3) := by decide +kernel
theorem dX11_init_129 : decode cX11_init 129 = .ok (.aload_n 0, 1) := by decide +kernel
theorem dX11_init_130 : decode cX11_init 130 = .ok (.bipush 30, 2) := by decide +kernel
theorem dX11_init_132 : decode cX11_init 132 = .ok (.newarray .int, 2) := by decide +kernel
theorem dX11_init_134 : decode cX11_init 134 = .ok (.putfield 55, 3) := by decide +kernel
theorem dX11_init_137 : decode cX11_init 137 = .ok (.aload_n 0, 1) := by decide +kernel
theorem dX11_init_138 : decode cX11_init 138 = .ok (.sipush 128, 3) := by decide +kernel
theorem dX11_init_141 : decode cX11_init 141 = .ok (.newarray .int, 2) := by decide +kernel
theorem dX11_init_143 : decode cX11_init 143 = .ok (.putfield 58, 3) := by decide +kernel
theorem dX11_init_146 : decode cX11_init 146 = .ok (.aload_n 0, 1) := by decide +kernel
theorem dX11_init_147 : decode cX11_init 147 = .ok (.bipush 70, 2) := by decide +kernel
theorem dX11_init_149 : decode cX11_init 149 = .ok (.newarray .int, 2) := by decide +kernel
theorem dX11_init_151 : decode cX11_init 151 = .ok (.putfield 61, 3) := by decide +kernel
theorem dX11_init_154 : decode cX11_init 154 = .ok (.aload_n 0, 1) := by decide +kernel
theorem dX11_init_155 : decode cX11_init 155 = .ok (.bipush 70, 2) := by decide +kernel
theorem dX11_init_157 : decode cX11_init 157 = .ok (.newarray .long, 2) := by decide +kernel
theorem dX11_init_159 : decode cX11_init 159 = .ok (.putfield 64, 3) := by decide +kernel
theorem dX11_init_162 : decode cX11_init 162 = .ok (.aload_n 0, 1) := by decide +kernel
theorem dX11_init_163 : decode cX11_init 163 = .ok (.bipush 40, 2) := by decide +kernel
theorem dX11_init_165 : decode cX11_init 165 = .ok (.newarray .int, 2) := by decide +kernel
theorem dX11_init_167 : decode cX11_init 167 = .ok (.putfield 68, 3) := by decide +kernel
theorem dX11_init_170 : decode cX11_init 170 = .ok (.aload_n 0, 1) := by decide +kernel
theorem dX11_init_171 : decode cX11_init 171 = .ok (.bipush 40, 2) := by decide +kernel
theorem dX11_init_173 : decode cX11_init 173 = .ok (.newarray .int, 2) := by decide +kernel
theorem dX11_init_175 : decode cX11_init 175 = .ok (.putfield 71, 3) := by decide +kernel
theorem dX11_init_178 : decode cX11_init 178 = .ok (.aload_n 0, 1) := by decide +kernel
theorem dX11_init_179 : decode cX11_init 179 = .ok (.bipush 40, 2) := by decide +kernel
theorem dX11_init_181 : decode cX11_init 181 = .ok (.newarray .int, 2) := by decide +kernel
theorem dX11_init_183 : decode cX11_init 183 = .ok (.putfield 74, 3) := by decide +kernel
theorem dX11_init_186 : decode cX11_init 186 = .ok (.aload_n 0, 1) := by decide +kernel
theorem dX11_init_187 : decode cX11_init 187 = .ok (.bipush 60, 2) := by decide +kernel
theorem dX11_init_189 : decode cX11_init 189 = .ok (.newarray .int, 2) := by decide +kernel
theorem dX11_init_191 : decode cX11_init 191 = .ok (.putfield 77, 3) := by decide +kernel
theorem dX11_init_194 : decode cX11_init 194 = .ok (.aload_n 0, 1) := by decide +kernel
theorem dX11_init_195 : decode cX11_init 195 = .ok (.bipush 60, 2) := by decide +kernel
theorem dX11_init_197 : decode cX11_init 197 = .ok (.newarray .int, 2) := by decide +kernel
theorem dX11_init_199 : decode cX11_init 199 = .ok (.putfield 80, 3) := by decide +kernel
theorem dX11_init_202 : decode cX11_init 202 = .ok (.aload_n 0, 1) := by decide +kernel
theorem dX11_init_203 : decode cX11_init 203 = .ok (.bipush 60, 2) := by decide +kernel
theorem dX11_init_205 : decode cX11_init 205 = .ok (.newarray .int, 2) := by decide +kernel
theorem dX11_init_207 : decode cX11_init 207 = .ok (.putfield 83, 3) := by decide +kernel
theorem dX11_init_210 : decode cX11_init 210 = .ok (.aload_n 0, 1) := by decide +kernel
theorem dX11_init_211 : decode cX11_init 211 = .ok (.bipush 60, 2) := by decide +kernel
theorem dX11_init_213 : decode cX11_init 213 = .ok (.newarray .boolean, 2) := by decide +kernel
theorem dX11_init_215 : decode cX11_init 215 = .ok (.putfield 86, 3) := by decide +kernel
theorem dX11_init_218 : decode cX11_init 218 = .ok (.aload_n 0, 1) := by decide +kernel
theorem dX11_init_219 : decode cX11_init 219 = .ok (.bipush 6, 2) := by decide +kernel
theorem dX11_init_221 : decode cX11_init 221 = .ok (.newarray .int, 2) := by decide +kernel
theorem dX11_init_223 : decode cX11_init 223 = .ok (.putfield 90, 3) := by decide +kernel
theorem dX11_init_226 : decode cX11_init 226 = .ok (.aload_n 0, 1) := by decide +kernel
theorem dX11_init_227 : decode cX11_init 227 = .ok (.bipush 6, 2) := by decide +kernel
theorem dX11_init_229 : decode cX11_init 229 = .ok (.newarray .int, 2) := by decide +kernel
theorem dX11_init_231 : decode cX11_init 231 = .ok (.putfield 93, 3) := by decide +kernel
theorem dX11_init_234 : decode cX11_init 234 = .ok (.aload_n 0, 1) := by decide +kernel
theorem dX11_init_235 : decode cX11_init 235 = .ok (.bipush 6, 2) := by decide +kernel
theorem dX11_init_237 : decode cX11_init 237 = .ok (.newarray .int, 2) := by decide +kernel
theorem dX11_init_239 : decode cX11_init 239 = .ok (.putfield 96, 3) := by decide +kernel
theorem dX11_init_242 : decode cX11_init 242 = .ok (.aload_n 0, 1) := by decide +kernel
theorem dX11_init_243 : decode cX11_init 243 = .ok (.iconst 4, 1) := by decide +kernel
theorem dX11_init_244 : decode cX11_init 244 = .ok (.newarray .int, 2) := by decide +kernel
theorem dX11_init_246 : decode cX11_init 246 = .ok (.putfield 99, 3) := by decide +kernel
theorem dX11_init_249 : decode cX11_init 249 = .ok (.aload_n 0, 1) := by decide +kernel
theorem dX11_init_250 : decode cX11_init 250 = .ok (.bipush 30, 2) := by decide +kernel
theorem dX11_init_252 : decode cX11_init 252 = .ok (.newarray .int, 2) := by decide +kernel
theorem dX11_init_254 : decode cX11_init 254 = .ok (.putfield 102, 3) := by decide +kernel
theorem dX11_init_257 : decode cX11_init 257 = .ok (.aload_n 0, 1) := by decide +kernel
theorem dX11_init_258 : decode cX11_init 258 = .ok (.bipush 30, 2) := by decide +kernel
theorem dX11_init_260 : decode cX11_init 260 = .ok (.newarray .int, 2) := by decide +kernel
theorem dX11_init_262 : decode cX11_init 262 = .ok (.putfield 105, 3) := by decide +kernel
theorem dX11_init_265 : decode cX11_init 265 = .ok (.aload_n 0, 1) := by decide +kernel
theorem dX11_init_266 : decode cX11_init 266 = .ok (.bipush 30, 2) := by decide +kernel
theorem dX11_init_268 : decode cX11_init 268 = .ok (.newarray .int, 2) := by decide +kernel
theorem dX11_init_270 : decode cX11_init 270 = .ok (.putfield 108, 3) := by decide +kernel
theorem dX11_init_273 : decode cX11_init 273 = .ok (.aload_n 0, 1) := by decide +kernel
theorem dX11_init_274 : decode cX11_init 274 = .ok (.bipush 30, 2) := by decide +kernel
theorem dX11_init_276 : decode cX11_init 276 = .ok (.newarray .int, 2) := by decide +kernel
theorem dX11_init_278 : decode cX11_init 278 = .ok (.putfield 111, 3) := by decide +kernel
theorem dX11_init_281 : decode cX11_init 281 = .ok (.aload_n 0, 1) := by decide +kernel
theorem dX11_init_282 : decode cX11_init 282 = .ok (.iconst 4, 1) := by decide +kernel
theorem dX11_init_283 : decode cX11_init 283 = .ok (.newarray .int, 2) := by decide +kernel
theorem dX11_init_285 : decode cX11_init 285 = .ok (.putfield 114, 3) := by decide +kernel
theorem dX11_init_288 : decode cX11_init 288 = .ok (.aload_n 0, 1) := by decide +kernel
theorem dX11_init_289 : decode cX11_init 289 = .ok (.iconst 4, 1) := by decide +kernel
theorem dX11_init_290 : decode cX11_init 290 = .ok (.newarray .int, 2) := by decide +kernel
theorem dX11_init_292 : decode cX11_init 292 = .ok (.putfield 117, 3) := by decide +kernel
theorem dX11_init_295 : decode cX11_init 295 = .ok (.aload_n 0, 1) := by decide +kernel
theorem dX11_init_296 : decode cX11_init 296 = .ok (.bipush 30, 2) := by decide +kernel
theorem dX11_init_298 : decode cX11_init 298 = .ok (.newarray .int, 2) := by decide +kernel
theorem dX11_init_300 : decode cX11_init 300 = .ok (.putfield 120, 3) := by decide +kernel
theorem dX11_init_303 : decode cX11_init 303 = .ok (.aload_n 0, 1) := by decide +kernel
theorem dX11_init_304 : decode cX11_init 304 = .ok (.bipush 6, 2) := by decide +kernel
theorem dX11_init_306 : decode cX11_init 306 = .ok (.newarray .int, 2) := by decide +kernel
theorem dX11_init_308 : decode cX11_init 308 = .ok (.putfield 123, 3) := by decide +kernel
theorem dX11_init_311 : decode cX11_init 311 = .ok (.aload_n 0, 1) := by decide +kernel
theorem dX11_init_312 : decode cX11_init 312 = .ok (.bipush 110, 2) := by decide +kernel
theorem dX11_init_314 : decode cX11_init 314 = .ok (.newarray .int, 2) := by decide +kernel
theorem dX11_init_316 : decode cX11_init 316 = .ok (.putfield 126, 3) := by decide +kernel
theorem dX11_init_319 : decode cX11_init 319 = .ok (.aload_n 0, 1) := by decide +kernel
theorem dX11_init_320 : decode cX11_init 320 = .ok (.bipush 14, 2) := by decide +kernel
theorem dX11_init_322 : decode cX11_init 322 = .ok (.newarray .int, 2) := by decide +kernel
theorem dX11_init_324 : decode cX11_init 324 = .ok (.putfield 129, 3) := by decide +kernel
theorem dX11_init_327 : decode cX11_init 327 = .ok (.aload_n 0, 1) := by decide +kernel
theorem dX11_init_328 : decode cX11_init 328 = .ok (.bipush 14, 2) := by decide +kernel
theorem dX11_init_330 : decode cX11_init 330 = .ok (.newarray .int, 2) := by decide +kernel
theorem dX11_init_332 : decode cX11_init 332 = .ok (.putfield 132, 3) := by decide +kernel
theorem dX11_init_335 : decode cX11_init 335 = .ok (.aload_n 0, 1) := by decide +kernel
theorem dX11_init_336 : decode cX11_init 336 = .ok (.bipush 10, 2) := by decide +kernel
theorem dX11_init_338 : decode cX11_init 338 = .ok (.newarray .int, 2) := by decide +kernel
theorem dX11_init_340 : decode cX11_init 340 = .ok (.putfield 135, 3) := by decide +kernel
theorem dX11_init_343 : decode cX11_init 343 = .ok (.aload_n 0, 1) := by decide +kernel
theorem dX11_init_344 : decode cX11_init 344 = .ok (.sipush 144, 3) := by decide +kernel
theorem dX11_init_347 : decode cX11_init 347 = .ok (.newarray .int, 2) := by decide +kernel
theorem dX11_init_349 : decode cX11_init 349 = .ok (.putfield 138, 3) := by decide +kernel
theorem dX11_init_352 : decode cX11_init 352 = .ok (.aload_n 0, 1) := by decide +kernel
theorem dX11_init_353 : decode cX11_init 353 = .ok (.sipush 144, 3) := by decide +kernel
theorem dX11_init_356 : decode cX11_init 356 = .ok (.newarray .int, 2) := by decide +kernel
theorem dX11_init_358 : decode cX11_init 358 = .ok (.putfield 141, 3) := by decide +kernel
theorem dX11_init_361 : decode cX11_init 361 = .ok (.aload_n 0, 1) := by decide +kernel
theorem dX11_init_362 : decode cX11_init 362 = .ok (.sipush 144, 3) := by decide +kernel
theorem dX11_init_365 : decode cX11_init 365 = .ok (.newarray .boolean, 2) := by decide +kernel
theorem dX11_init_367 : decode cX11_init 367 = .ok (.putfield 144, 3) := by decide +kernel
theorem dX11_init_370 : decode cX11_init 370 = .ok (.aload_n 0, 1) := by decide +kernel
theorem dX11_init_371 : decode cX11_init 371 = .ok (.sipush 144, 3) := by decide +kernel
theorem dX11_init_374 : decode cX11_init 374 = .ok (.newarray .boolean, 2) := by decide +kernel
theorem dX11_init_376 : decode cX11_init 376 = .ok (.putfield 147, 3) := by decide +kernel
theorem dX11_init_379 : decode cX11_init 379 = .ok (.aload_n 0, 1) := by decide +kernel
theorem dX11_init_380 : decode cX11_init 380 = .ok (.sipush 144, 3) := by decide +kernel
theorem dX11_init_383 : decode cX11_init 383 = .ok (.newarray .int, 2) := by decide +kernel
theorem dX11_init_385 : decode cX11_init 385 = .ok (.putfield 150, 3) := by decide +kernel
theorem dX11_init_388 : decode cX11_init 388 = .ok (.aload_n 0, 1) := by decide +kernel
theorem dX11_init_389 : decode cX11_init 389 = .ok (.bipush 8, 2) := by decide +kernel
theorem dX11_init_391 : decode cX11_init 391 = .ok (.newarray .int, 2) := by decide +kernel
theorem dX11_init_393 : decode cX11_init 393 = .ok (.putfield 153, 3) := by decide +kernel
theorem dX11_init_396 : decode cX11_init 396 = .ok (.aload_n 0, 1) := by decide +kernel
theorem dX11_init_397 : decode cX11_init 397 = .ok (.bipush 30, 2) := by decide +kernel
theorem dX11_init_399 : decode cX11_init 399 = .ok (.newarray .int, 2) := by decide +kernel
theorem dX11_init_401 : decode cX11_init 401 = .ok (.putfield 156, 3) := by decide +kernel
theorem dX11_init_404 : decode cX11_init 404 = .ok (.aload_n 0, 1) := by decide +kernel
theorem dX11_init_405 : decode cX11_init 405 = .ok (.sipush 144, 3) := by decide +kernel
theorem dX11_init_408 : decode cX11_init 408 = .ok (.newarray .int, 2) := by decide +kernel
theorem dX11_init_410 : decode cX11_init 410 = .ok (.putfield 159, 3) := by decide +kernel
theorem dX11_init_413 : decode cX11_init 413 = .ok (.aload_n 0, 1) := by decide +kernel
theorem dX11_init_414 : decode cX11_init 414 = .ok (.bipush 30, 2) := by decide +kernel
theorem dX11_init_416 : decode cX11_init 416 = .ok (.newarray .int, 2) := by decide +kernel
theorem dX11_init_418 : decode cX11_init 418 = .ok (.putfield 162, 3) := by decide +kernel
theorem dX11_init_421 : decode cX11_init 421 = .ok (.aload_n 0, 1) := by decide +kernel
theorem dX11_init_422 : decode cX11_init 422 = .ok (.bipush 30, 2) := by decide +kernel
theorem dX11_init_424 : decode cX11_init 424 = .ok (.newarray .int, 2) := by decide +kernel
theorem dX11_init_426 : decode cX11_init 426 = .ok (.putfield 165, 3) := by decide +kernel
theorem dX11_init_429 : decode cX11_init 429 = .ok (.aload_n 0, 1) := by decide +kernel
theorem dX11_init_430 : decode cX11_init 430 = .ok (.bipush 30, 2) := by decide +kernel
theorem dX11_init_432 : decode cX11_init 432 = .ok (.newarray .boolean, 2) := by decide +kernel
theorem dX11_init_434 : decode cX11_init 434 = .ok (.putfield 168, 3) := by decide +kernel
theorem dX11_init_437 : decode cX11_init 437 = .ok (.aload_n 0, 1) := by decide +kernel
theorem dX11_init_438 : decode cX11_init 438 = .ok (.bipush 60, 2) := by decide +kernel
theorem dX11_init_440 : decode cX11_init 440 = .ok (.newarray .int, 2) := by decide +kernel
theorem dX11_init_442 : decode cX11_init 442 = .ok (.putfield 171, 3) := by decide +kernel
theorem dX11_init_445 : decode cX11_init 445 = .ok (.aload_n 0, 1) := by decide +kernel
theorem dX11_init_446 : decode cX11_init 446 = .ok (.bipush 60, 2) := by decide +kernel
theorem dX11_init_448 : decode cX11_init 448 = .ok (.newarray .int, 2) := by decide +kernel
theorem dX11_init_450 : decode cX11_init 450 = .ok (.putfield 174, 3) := by decide +kernel
theorem dX11_init_453 : decode cX11_init 453 = .ok (.aload_n 0, 1) := by decide +kernel
theorem dX11_init_454 : decode cX11_init 454 = .ok (.bipush 60, 2) := by decide +kernel
theorem dX11_init_456 : decode cX11_init 456 = .ok (.newarray .int, 2) := by decide +kernel
theorem dX11_init_458 : decode cX11_init 458 = .ok (.putfield 177, 3) := by decide +kernel
theorem dX11_init_461 : decode cX11_init 461 = .ok (.aload_n 0, 1) := by decide +kernel
theorem dX11_init_462 : decode cX11_init 462 = .ok (.bipush 40, 2) := by decide +kernel
theorem dX11_init_464 : decode cX11_init 464 = .ok (.newarray .int, 2) := by decide +kernel
theorem dX11_init_466 : decode cX11_init 466 = .ok (.putfield 180, 3) := by decide +kernel
theorem dX11_init_469 : decode cX11_init 469 = .ok (.aload_n 0, 1) := by decide +kernel
theorem dX11_init_470 : decode cX11_init 470 = .ok (.bipush 40, 2) := by decide +kernel
theorem dX11_init_472 : decode cX11_init 472 = .ok (.newarray .int, 2) := by decide +kernel
theorem dX11_init_474 : decode cX11_init 474 = .ok (.putfield 183, 3) := by decide +kernel
theorem dX11_init_477 : decode cX11_init 477 = .ok (.aload_n 0, 1) := by decide +kernel
theorem dX11_init_478 : decode cX11_init 478 = .ok (.bipush 40, 2) := by decide +kernel
theorem dX11_init_480 : decode cX11_init 480 = .ok (.newarray .int, 2) := by decide +kernel
theorem dX11_init_482 : decode cX11_init 482 = .ok (.putfield 186, 3) := by decide +kernel
theorem dX11_init_485 : decode cX11_init 485 = .ok (.aload_n 0, 1) := by decide +kernel
theorem dX11_init_486 : decode cX11_init 486 = .ok (.bipush 40, 2) := by decide +kernel
theorem dX11_init_488 : decode cX11_init 488 = .ok (.newarray .int, 2) := by decide +kernel
theorem dX11_init_490 : decode cX11_init 490 = .ok (.putfield 189, 3) := by decide +kernel
theorem dX11_init_493 : decode cX11_init 493 = .ok (.iconst 0, 1) := by decide +kernel
theorem dX11_init_494 : decode cX11_init 494 = .ok (.istore_n 1, 1) := by decide +kernel
theorem dX11_init_495 : decode cX11_init 495 = .ok (.iload_n 1, 1) := by decide +kernel
theorem dX11_init_496 : decode cX11_init 496 = .ok (.sipush 144, 3) := by decide +kernel
theorem dX11_init_499 : decode cX11_init 499 = .ok (.if_icmp .ge 17, 3) := by decide +kernel
theorem dX11_init_502 : decode cX11_init 502 = .ok (.aload_n 0, 1) := by decide +kernel
theorem dX11_init_503 : decode cX11_init 503 = .ok (.getfield 13, 3) := by decide +kernel
theorem dX11_init_506 : decode cX11_init 506 = .ok (.iload_n 1, 1) := by decide +kernel
theorem dX11_init_507 : decode cX11_init 507 = .ok (.bipush 50, 2) := by decide +kernel
theorem dX11_init_509 : decode cX11_init 509 = .ok (.iastore, 1) := by decide +kernel
theorem dX11_init_510 : decode cX11_init 510 = .ok (.iinc 1 1, 3) := by decide +kernel
theorem dX11_init_513 : decode cX11_init 513 = .ok (.goto (-18), 3) := by decide +kernel
theorem dX11_init_516 : decode cX11_init 516 = .ok (.iconst 0, 1) := by decide +kernel
theorem dX11_init_517 : decode cX11_init 517 = .ok (.istore_n 1, 1) := by decide +kernel
theorem dX11_init_518 : decode cX11_init 518 = .ok (.iload_n 1, 1) := by decide +kernel
theorem dX11_init_519 : decode cX11_init 519 = .ok (.iconst 4, 1) := by decide +kernel
theorem dX11_init_520 : decode cX11_init 520 = .ok (.if_icmp .ge 17, 3) := by decide +kernel
theorem dX11_init_523 : decode cX11_init 523 = .ok (.aload_n 0, 1) := by decide +kernel
theorem dX11_init_524 : decode cX11_init 524 = .ok (.getfield 99, 3) := by decide +kernel
theorem dX11_init_527 : decode cX11_init 527 = .ok (.iload_n 1, 1) := by decide +kernel
theorem dX11_init_528 : decode cX11_init 528 = .ok (.bipush 6, 2) := by decide +kernel
theorem dX11_init_530 : decode cX11_init 530 = .ok (.iastore, 1) := by decide +kernel
theorem dX11_init_531 : decode cX11_init 531 = .ok (.iinc 1 1, 3) := by decide +kernel
theorem dX11_init_534 : decode cX11_init 534 = .ok (.goto (-16), 3) := by decide +kernel
theorem dX11_init_537 : decode cX11_init 537 = .ok (.return_, 1) := by decide +kernel
theorem dX11_no_0 : decode cX11_no 0 = .ok (.aload_n 0, 1) := by decide +kernel
theorem dX11_no_1 : decode cX11_no 1 = .ok (.getfield 7, 3) := by decide +kernel
theorem dX11_no_4 : decode cX11_no 4 = .ok (.iload_n 1, 1) := by decide +kernel
theorem dX11_no_5 : decode cX11_no 5 = .ok (.ineg, 1) := by decide +kernel
theorem dX11_no_6 : decode cX11_no 6 = .ok (.dup2, 1) := by decide +kernel
theorem dX11_no_7 : decode cX11_no 7 = .ok (.iaload, 1) := by decide +kernel
theorem dX11_no_8 : decode cX11_no 8 = .ok (.iconst 1, 1) := by decide +kernel
theorem dX11_no_9 : decode cX11_no 9 = .ok (.iadd, 1) := by decide +kernel
theorem dX11_no_10 : decode cX11_no 10 = .ok (.iastore, 1) := by decide +kernel
theorem dX11_no_11 : decode cX11_no 11 = .ok (.iload_n 1, 1) := by decide +kernel
theorem dX11_no_12 : decode cX11_no 12 = .ok (.ireturn, 1) := by decide +kernel
theorem dX11_lower_0 : decode cX11_lower 0 = .ok (.aload_n 0, 1) := by decide +kernel
theorem dX11_lower_1 : decode cX11_lower 1 = .ok (.getfield 7, 3) := by decide +kernel
theorem dX11_lower_4 : decode cX11_lower 4 = .ok (.iload_n 1, 1) := by decide +kernel
theorem dX11_lower_5 : decode cX11_lower 5 = .ok (.ineg, 1) := by decide +kernel
theorem dX11_lower_6 : decode cX11_lower 6 = .ok (.dup2, 1) := by decide +kernel
theorem dX11_lower_7 : decode cX11_lower 7 = .ok (.iaload, 1) := by decide +kernel
theorem dX11_lower_8 : decode cX11_lower 8 = .ok (.iconst 1, 1) := by decide +kernel
theorem dX11_lower_9 : decode cX11_lower 9 = .ok (.iadd, 1) := by decide +kernel
theorem dX11_lower_10 : decode cX11_lower 10 = .ok (.iastore, 1) := by decide +kernel
theorem dX11_lower_11 : decode cX11_lower 11 = .ok (.ldc 192, 2) := by decide +kernel
theorem dX11_lower_13 : decode cX11_lower 13 = .ok (.iload_n 1, 1) := by decide +kernel
theorem dX11_lower_14 : decode cX11_lower 14 = .ok (.isub, 1) := by decide +kernel
theorem dX11_lower_15 : decode cX11_lower 15 = .ok (.ireturn, 1) := by decide +kernel
theorem dX11_isIn_0 : decode cX11_isIn 0 = .ok (.lload_n 0, 1) := by decide +kernel
theorem dX11_isIn_1 : decode cX11_isIn 1 = .ok (.lload_n 2, 1) := by decide +kernel
theorem dX11_isIn_2 : decode cX11_isIn 2 = .ok (.lcmp, 1) := by decide +kernel
theorem dX11_isIn_3 : decode cX11_isIn 3 = .ok (.ifCond .lt 14, 3) := by decide +kernel
theorem dX11_isIn_6 : decode cX11_isIn 6 = .ok (.lload_n 0, 1) := by decide +kernel
theorem dX11_isIn_7 : decode cX11_isIn 7 = .ok (.lload 4, 2) := by decide +kernel
theorem dX11_isIn_9 : decode cX11_isIn 9 = .ok (.lcmp, 1) := by decide +kernel
theorem dX11_isIn_10 : decode cX11_isIn 10 = .ok (.ifCond .gt 7, 3) := by decide +kernel
theorem dX11_isIn_13 : decode cX11_isIn 13 = .ok (.iconst 1, 1) := by decide +kernel
theorem dX11_isIn_14 : decode cX11_isIn 14 = .ok (.goto 4, 3) := by decide +kernel
theorem dX11_isIn_17 : decode cX11_isIn 17 = .ok (.iconst 0, 1) := by decide +kernel
theorem dX11_isIn_18 : decode cX11_isIn 18 = .ok (.ireturn, 1) := by decide +kernel
theorem dX11_out_0 : decode cX11_out 0 = .ok (.lload_n 0, 1) := by decide +kernel
theorem dX11_out_1 : decode cX11_out 1 = .ok (.lload_n 2, 1) := by decide +kernel
theorem dX11_out_2 : decode cX11_out 2 = .ok (.lcmp, 1) := by decide +kernel
theorem dX11_out_3 : decode cX11_out 3 = .ok (.ifCond .ge 8, 3) := by decide +kernel
theorem dX11_out_6 : decode cX11_out 6 = .ok (.bipush (-4), 2) := by decide +kernel
theorem dX11_out_8 : decode cX11_out 8 = .ok (.goto 16, 3) := by decide +kernel
theorem dX11_out_11 : decode cX11_out 11 = .ok (.lload_n 0, 1) := by decide +kernel
theorem dX11_out_12 : decode cX11_out 12 = .ok (.lload 4, 2) := by decide +kernel
theorem dX11_out_14 : decode cX11_out 14 = .ok (.lcmp, 1) := by decide +kernel
theorem dX11_out_15 : decode cX11_out 15 = .ok (.ifCond .le 8, 3) := by decide +kernel
theorem dX11_out_18 : decode cX11_out 18 = .ok (.bipush (-6), 2) := by decide +kernel
theorem dX11_out_20 : decode cX11_out 20 = .ok (.goto 4, 3) := by decide +kernel
theorem dX11_out_23 : decode cX11_out 23 = .ok (.iconst 0, 1) := by decide +kernel
theorem dX11_out_24 : decode cX11_out 24 = .ok (.ireturn, 1) := by decide +kernel
theorem dX11_isCell_0 : decode cX11_isCell 0 = .ok (.iload_n 0, 1) := by decide +kernel
theorem dX11_isCell_1 : decode cX11_isCell 1 = .ok (.ifCond .lt 14, 3) := by decide +kernel
theorem dX11_isCell_4 : decode cX11_isCell 4 = .ok (.iload_n 0, 1) := by decide +kernel
theorem dX11_isCell_5 : decode cX11_isCell 5 = .ok (.sipush 144, 3) := by decide +kernel
theorem dX11_isCell_8 : decode cX11_isCell 8 = .ok (.if_icmp .ge 7, 3) := by decide +kernel
theorem dX11_isCell_11 : decode cX11_isCell 11 = .ok (.iconst 1, 1) := by decide +kernel
theorem dX11_isCell_12 : decode cX11_isCell 12 = .ok (.goto 4, 3) := by decide +kernel
theorem dX11_isCell_15 : decode cX11_isCell 15 = .ok (.iconst 0, 1) := by decide +kernel
theorem dX11_isCell_16 : decode cX11_isCell 16 = .ok (.ireturn, 1) := by decide +kernel
theorem dX11_isHouse_0 : decode cX11_isHouse 0 = .ok (.iload_n 1, 1) := by decide +kernel
theorem dX11_isHouse_1 : decode cX11_isHouse 1 = .ok (.ifCond .lt 15, 3) := by decide +kernel
theorem dX11_isHouse_4 : decode cX11_isHouse 4 = .ok (.iload_n 1, 1) := by decide +kernel
theorem dX11_isHouse_5 : decode cX11_isHouse 5 = .ok (.aload_n 0, 1) := by decide +kernel
theorem dX11_isHouse_6 : decode cX11_isHouse 6 = .ok (.getfield 193, 3) := by decide +kernel
theorem dX11_isHouse_9 : decode cX11_isHouse 9 = .ok (.if_icmp .ge 7, 3) := by decide +kernel
theorem dX11_isHouse_12 : decode cX11_isHouse 12 = .ok (.iconst 1, 1) := by decide +kernel
theorem dX11_isHouse_13 : decode cX11_isHouse 13 = .ok (.goto 4, 3) := by decide +kernel
theorem dX11_isHouse_16 : decode cX11_isHouse 16 = .ok (.iconst 0, 1) := by decide +kernel
theorem dX11_isHouse_17 : decode cX11_isHouse 17 = .ok (.ireturn, 1) := by decide +kernel
theorem dX11_isPerson_0 : decode cX11_isPerson 0 = .ok (.iload_n 1, 1) := by decide +kernel
theorem dX11_isPerson_1 : decode cX11_isPerson 1 = .ok (.ifCond .lt 15, 3) := by decide +kernel
theorem dX11_isPerson_4 : decode cX11_isPerson 4 = .ok (.iload_n 1, 1) := by decide +kernel
theorem dX11_isPerson_5 : decode cX11_isPerson 5 = .ok (.aload_n 0, 1) := by decide +kernel
theorem dX11_isPerson_6 : decode cX11_isPerson 6 = .ok (.getfield 197, 3) := by decide +kernel
theorem dX11_isPerson_9 : decode cX11_isPerson 9 = .ok (.if_icmp .ge 7, 3) := by decide +kernel
theorem dX11_isPerson_12 : decode cX11_isPerson 12 = .ok (.iconst 1, 1) := by decide +kernel
theorem dX11_isPerson_13 : decode cX11_isPerson 13 = .ok (.goto 4, 3) := by decide +kernel
theorem dX11_isPerson_16 : decode cX11_isPerson 16 = .ok (.iconst 0, 1) := by decide +kernel
theorem dX11_isPerson_17 : decode cX11_isPerson 17 = .ok (.ireturn, 1) := by decide +kernel
theorem dX11_days_0 : decode cX11_days 0 = .ok (.iload_n 1, 1) := by decide +kernel
theorem dX11_days_1 : decode cX11_days 1 = .ok (.i2l, 1) := by decide +kernel
theorem dX11_days_2 : decode cX11_days 2 = .ok (.lconst 1, 1) := by decide +kernel
theorem dX11_days_3 : decode cX11_days 3 = .ok (.sipush 999, 3) := by decide +kernel
theorem dX11_days_6 : decode cX11_days 6 = .ok (.aload_n 0, 1) := by decide +kernel
theorem dX11_days_7 : decode cX11_days 7 = .ok (.getfield 200, 3) := by decide +kernel
theorem dX11_days_10 : decode cX11_days 10 = .ok (.isub, 1) := by decide +kernel
theorem dX11_days_11 : decode cX11_days 11 = .ok (.i2l, 1) := by decide +kernel
theorem dX11_days_12 : decode cX11_days 12 = .ok (.invokestatic 203, 3) := by decide +kernel
theorem dX11_days_15 : decode cX11_days 15 = .ok (.istore_n 2, 1) := by decide +kernel
theorem dX11_days_16 : decode cX11_days 16 = .ok (.iload_n 2, 1) := by decide +kernel
theorem dX11_days_17 : decode cX11_days 17 = .ok (.ifCond .eq 9, 3) := by decide +kernel
theorem dX11_days_20 : decode cX11_days 20 = .ok (.aload_n 0, 1) := by decide +kernel
theorem dX11_days_21 : decode cX11_days 21 = .ok (.iload_n 2, 1) := by decide +kernel
theorem dX11_days_22 : decode cX11_days 22 = .ok (.invokevirtual 207, 3) := by decide +kernel
theorem dX11_days_25 : decode cX11_days 25 = .ok (.ireturn, 1) := by decide +kernel
theorem dX11_days_26 : decode cX11_days 26 = .ok (.aload_n 0, 1) := by decide +kernel
theorem dX11_days_27 : decode cX11_days 27 = .ok (.dup, 1) := by decide +kernel
theorem dX11_days_28 : decode cX11_days 28 = .ok (.getfield 200, 3) := by decide +kernel
theorem dX11_days_31 : decode cX11_days 31 = .ok (.iload_n 1, 1) := by decide +kernel
theorem dX11_days_32 : decode cX11_days 32 = .ok (.iadd, 1) := by decide +kernel
theorem dX11_days_33 : decode cX11_days 33 = .ok (.putfield 200, 3) := by decide +kernel
theorem dX11_days_36 : decode cX11_days 36 = .ok (.aload_n 0, 1) := by decide +kernel
theorem dX11_days_37 : decode cX11_days 37 = .ok (.getfield 200, 3) := by decide +kernel
theorem dX11_days_40 : decode cX11_days 40 = .ok (.ireturn, 1) := by decide +kernel
theorem dX11_height_0 : decode cX11_height 0 = .ok (.iload_n 1, 1) := by decide +kernel
theorem dX11_height_1 : decode cX11_height 1 = .ok (.invokestatic 211, 3) := by decide +kernel
theorem dX11_height_4 : decode cX11_height 4 = .ok (.ifCond .ne 9, 3) := by decide +kernel
theorem dX11_height_7 : decode cX11_height 7 = .ok (.aload_n 0, 1) := by decide +kernel
theorem dX11_height_8 : decode cX11_height 8 = .ok (.iconst (-1), 1) := by decide +kernel
theorem dX11_height_9 : decode cX11_height 9 = .ok (.invokevirtual 207, 3) := by decide +kernel
theorem dX11_height_12 : decode cX11_height 12 = .ok (.ireturn, 1) := by decide +kernel
theorem dX11_height_13 : decode cX11_height 13 = .ok (.iload_n 2, 1) := by decide +kernel
theorem dX11_height_14 : decode cX11_height 14 = .ok (.i2l, 1) := by decide +kernel
theorem dX11_height_15 : decode cX11_height 15 = .ok (.lconst 0, 1) := by decide +kernel
theorem dX11_height_16 : decode cX11_height 16 = .ok (.ldc2_w 215, 3) := by decide +kernel
theorem dX11_height_19 : decode cX11_height 19 = .ok (.invokestatic 203, 3) := by decide +kernel
theorem dX11_height_22 : decode cX11_height 22 = .ok (.istore_n 3, 1) := by decide +kernel
theorem dX11_height_23 : decode cX11_height 23 = .ok (.iload_n 3, 1) := by decide +kernel
theorem dX11_height_24 : decode cX11_height 24 = .ok (.ifCond .eq 9, 3) := by decide +kernel
theorem dX11_height_27 : decode cX11_height 27 = .ok (.aload_n 0, 1) := by decide +kernel
theorem dX11_height_28 : decode cX11_height 28 = .ok (.iload_n 3, 1) := by decide +kernel
theorem dX11_height_29 : decode cX11_height 29 = .ok (.invokevirtual 207, 3) := by decide +kernel
theorem dX11_height_32 : decode cX11_height 32 = .ok (.ireturn, 1) := by decide +kernel
theorem dX11_height_33 : decode cX11_height 33 = .ok (.aload_n 0, 1) := by decide +kernel
theorem dX11_height_34 : decode cX11_height 34 = .ok (.getfield 13, 3) := by decide +kernel
theorem dX11_height_37 : decode cX11_height 37 = .ok (.iload_n 1, 1) := by decide +kernel
theorem dX11_height_38 : decode cX11_height 38 = .ok (.iaload, 1) := by decide +kernel
theorem dX11_height_39 : decode cX11_height 39 = .ok (.istore 4, 2) := by decide +kernel
theorem dX11_height_41 : decode cX11_height 41 = .ok (.aload_n 0, 1) := by decide +kernel
theorem dX11_height_42 : decode cX11_height 42 = .ok (.getfield 13, 3) := by decide +kernel
theorem dX11_height_45 : decode cX11_height 45 = .ok (.iload_n 1, 1) := by decide +kernel
theorem dX11_height_46 : decode cX11_height 46 = .ok (.iload_n 2, 1) := by decide +kernel
theorem dX11_height_47 : decode cX11_height 47 = .ok (.iastore, 1) := by decide +kernel
theorem dX11_height_48 : decode cX11_height 48 = .ok (.iload 4, 2) := by decide +kernel
theorem dX11_height_50 : decode cX11_height 50 = .ok (.ireturn, 1) := by decide +kernel
theorem dX11_lowerOf_0 : decode cX11_lowerOf 0 = .ok (.aload_n 0, 1) := by decide +kernel
theorem dX11_lowerOf_1 : decode cX11_lowerOf 1 = .ok (.getfield 13, 3) := by decide +kernel
theorem dX11_lowerOf_4 : decode cX11_lowerOf 4 = .ok (.iload_n 3, 1) := by decide +kernel
theorem dX11_lowerOf_5 : decode cX11_lowerOf 5 = .ok (.iaload, 1) := by decide +kernel
theorem dX11_lowerOf_6 : decode cX11_lowerOf 6 = .ok (.aload_n 0, 1) := by decide +kernel
theorem dX11_lowerOf_7 : decode cX11_lowerOf 7 = .ok (.getfield 13, 3) := by decide +kernel
theorem dX11_lowerOf_10 : decode cX11_lowerOf 10 = .ok (.iload_n 2, 1) := by decide +kernel
theorem dX11_lowerOf_11 : decode cX11_lowerOf 11 = .ok (.iaload, 1) := by decide +kernel
theorem dX11_lowerOf_12 : decode cX11_lowerOf 12 = .ok (.if_icmp .ge 46, 3) := by decide +kernel
theorem dX11_lowerOf_15 : decode cX11_lowerOf 15 = .ok (.iload_n 1, 1) := by decide +kernel
theorem dX11_lowerOf_16 : decode cX11_lowerOf 16 = .ok (.ifCond .lt 38, 3) := by decide +kernel
theorem dX11_lowerOf_19 : decode cX11_lowerOf 19 = .ok (.aload_n 0, 1) := by decide +kernel
theorem dX11_lowerOf_20 : decode cX11_lowerOf 20 = .ok (.getfield 13, 3) := by decide +kernel
theorem dX11_lowerOf_23 : decode cX11_lowerOf 23 = .ok (.iload_n 3, 1) := by decide +kernel
theorem dX11_lowerOf_24 : decode cX11_lowerOf 24 = .ok (.iaload, 1) := by decide +kernel
theorem dX11_lowerOf_25 : decode cX11_lowerOf 25 = .ok (.aload_n 0, 1) := by decide +kernel
theorem dX11_lowerOf_26 : decode cX11_lowerOf 26 = .ok (.getfield 13, 3) := by decide +kernel
theorem dX11_lowerOf_29 : decode cX11_lowerOf 29 = .ok (.iload_n 1, 1) := by decide +kernel
theorem dX11_lowerOf_30 : decode cX11_lowerOf 30 = .ok (.iaload, 1) := by decide +kernel
theorem dX11_lowerOf_31 : decode cX11_lowerOf 31 = .ok (.if_icmp .lt 23, 3) := by decide +kernel
theorem dX11_lowerOf_34 : decode cX11_lowerOf 34 = .ok (.aload_n 0, 1) := by decide +kernel
theorem dX11_lowerOf_35 : decode cX11_lowerOf 35 = .ok (.getfield 13, 3) := by decide +kernel
theorem dX11_lowerOf_38 : decode cX11_lowerOf 38 = .ok (.iload_n 3, 1) := by decide +kernel
theorem dX11_lowerOf_39 : decode cX11_lowerOf 39 = .ok (.iaload, 1) := by decide +kernel
theorem dX11_lowerOf_40 : decode cX11_lowerOf 40 = .ok (.aload_n 0, 1) := by decide +kernel
theorem dX11_lowerOf_41 : decode cX11_lowerOf 41 = .ok (.getfield 13, 3) := by decide +kernel
theorem dX11_lowerOf_44 : decode cX11_lowerOf 44 = .ok (.iload_n 1, 1) := by decide +kernel
theorem dX11_lowerOf_45 : decode cX11_lowerOf 45 = .ok (.iaload, 1) := by decide +kernel
theorem dX11_lowerOf_46 : decode cX11_lowerOf 46 = .ok (.if_icmp .ne 12, 3) := by decide +kernel
theorem dX11_lowerOf_49 : decode cX11_lowerOf 49 = .ok (.iload_n 3, 1) := by decide +kernel
theorem dX11_lowerOf_50 : decode cX11_lowerOf 50 = .ok (.iload_n 1, 1) := by decide +kernel
theorem dX11_lowerOf_51 : decode cX11_lowerOf 51 = .ok (.if_icmp .ge 7, 3) := by decide +kernel
theorem dX11_lowerOf_54 : decode cX11_lowerOf 54 = .ok (.iload_n 3, 1) := by decide +kernel
theorem dX11_lowerOf_55 : decode cX11_lowerOf 55 = .ok (.goto 4, 3) := by decide +kernel
theorem dX11_lowerOf_58 : decode cX11_lowerOf 58 = .ok (.iload_n 1, 1) := by decide +kernel
theorem dX11_lowerOf_59 : decode cX11_lowerOf 59 = .ok (.ireturn, 1) := by decide +kernel
theorem dX11_downOf_0 : decode cX11_downOf 0 = .ok (.bipush (-9), 2) := by decide +kernel
theorem dX11_downOf_2 : decode cX11_downOf 2 = .ok (.istore_n 2, 1) := by decide +kernel
theorem dX11_downOf_3 : decode cX11_downOf 3 = .ok (.iload_n 1, 1) := by decide +kernel
theorem dX11_downOf_4 : decode cX11_downOf 4 = .ok (.bipush 12, 2) := by decide +kernel
theorem dX11_downOf_6 : decode cX11_downOf 6 = .ok (.if_icmp .lt 14, 3) := by decide +kernel
theorem dX11_downOf_9 : decode cX11_downOf 9 = .ok (.aload_n 0, 1) := by decide +kernel
theorem dX11_downOf_10 : decode cX11_downOf 10 = .ok (.iload_n 2, 1) := by decide +kernel
theorem dX11_downOf_11 : decode cX11_downOf 11 = .ok (.iload_n 1, 1) := by decide +kernel
theorem dX11_downOf_12 : decode cX11_downOf 12 = .ok (.iload_n 1, 1) := by decide +kernel
theorem dX11_downOf_13 : decode cX11_downOf 13 = .ok (.bipush 12, 2) := by decide +kernel
theorem dX11_downOf_15 : decode cX11_downOf 15 = .ok (.isub, 1) := by decide +kernel
theorem dX11_downOf_16 : decode cX11_downOf 16 = .ok (.invokevirtual 217, 3) := by decide +kernel
theorem dX11_downOf_19 : decode cX11_downOf 19 = .ok (.istore_n 2, 1) := by decide +kernel
theorem dX11_downOf_20 : decode cX11_downOf 20 = .ok (.iload_n 1, 1) := by decide +kernel
theorem dX11_downOf_21 : decode cX11_downOf 21 = .ok (.bipush 12, 2) := by decide +kernel
theorem dX11_downOf_23 : decode cX11_downOf 23 = .ok (.irem, 1) := by decide +kernel
theorem dX11_downOf_24 : decode cX11_downOf 24 = .ok (.ifCond .le 13, 3) := by decide +kernel
theorem dX11_downOf_27 : decode cX11_downOf 27 = .ok (.aload_n 0, 1) := by decide +kernel
theorem dX11_downOf_28 : decode cX11_downOf 28 = .ok (.iload_n 2, 1) := by decide +kernel
theorem dX11_downOf_29 : decode cX11_downOf 29 = .ok (.iload_n 1, 1) := by decide +kernel
theorem dX11_downOf_30 : decode cX11_downOf 30 = .ok (.iload_n 1, 1) := by decide +kernel
theorem dX11_downOf_31 : decode cX11_downOf 31 = .ok (.iconst 1, 1) := by decide +kernel
theorem dX11_downOf_32 : decode cX11_downOf 32 = .ok (.isub, 1) := by decide +kernel
theorem dX11_downOf_33 : decode cX11_downOf 33 = .ok (.invokevirtual 217, 3) := by decide +kernel
theorem dX11_downOf_36 : decode cX11_downOf 36 = .ok (.istore_n 2, 1) := by decide +kernel
theorem dX11_downOf_37 : decode cX11_downOf 37 = .ok (.iload_n 1, 1) := by decide +kernel
theorem dX11_downOf_38 : decode cX11_downOf 38 = .ok (.bipush 12, 2) := by decide +kernel
theorem dX11_downOf_40 : decode cX11_downOf 40 = .ok (.irem, 1) := by decide +kernel
theorem dX11_downOf_41 : decode cX11_downOf 41 = .ok (.bipush 11, 2) := by decide +kernel
theorem dX11_downOf_43 : decode cX11_downOf 43 = .ok (.if_icmp .ge 13, 3) := by decide +kernel
theorem dX11_downOf_46 : decode cX11_downOf 46 = .ok (.aload_n 0, 1) := by decide +kernel
theorem dX11_downOf_47 : decode cX11_downOf 47 = .ok (.iload_n 2, 1) := by decide +kernel
theorem dX11_downOf_48 : decode cX11_downOf 48 = .ok (.iload_n 1, 1) := by decide +kernel
theorem dX11_downOf_49 : decode cX11_downOf 49 = .ok (.iload_n 1, 1) := by decide +kernel
theorem dX11_downOf_50 : decode cX11_downOf 50 = .ok (.iconst 1, 1) := by decide +kernel
theorem dX11_downOf_51 : decode cX11_downOf 51 = .ok (.iadd, 1) := by decide +kernel
theorem dX11_downOf_52 : decode cX11_downOf 52 = .ok (.invokevirtual 217, 3) := by decide +kernel
theorem dX11_downOf_55 : decode cX11_downOf 55 = .ok (.istore_n 2, 1) := by decide +kernel
theorem dX11_downOf_56 : decode cX11_downOf 56 = .ok (.iload_n 1, 1) := by decide +kernel
theorem dX11_downOf_57 : decode cX11_downOf 57 = .ok (.sipush 132, 3) := by decide +kernel
theorem dX11_downOf_60 : decode cX11_downOf 60 = .ok (.if_icmp .ge 14, 3) := by decide +kernel
theorem dX11_downOf_63 : decode cX11_downOf 63 = .ok (.aload_n 0, 1) := by decide +kernel
theorem dX11_downOf_64 : decode cX11_downOf 64 = .ok (.iload_n 2, 1) := by decide +kernel
theorem dX11_downOf_65 : decode cX11_downOf 65 = .ok (.iload_n 1, 1) := by decide +kernel
theorem dX11_downOf_66 : decode cX11_downOf 66 = .ok (.iload_n 1, 1) := by decide +kernel
theorem dX11_downOf_67 : decode cX11_downOf 67 = .ok (.bipush 12, 2) := by decide +kernel
theorem dX11_downOf_69 : decode cX11_downOf 69 = .ok (.iadd, 1) := by decide +kernel
theorem dX11_downOf_70 : decode cX11_downOf 70 = .ok (.invokevirtual 217, 3) := by decide +kernel
theorem dX11_downOf_73 : decode cX11_downOf 73 = .ok (.istore_n 2, 1) := by decide +kernel
theorem dX11_downOf_74 : decode cX11_downOf 74 = .ok (.iload_n 2, 1) := by decide +kernel
theorem dX11_downOf_75 : decode cX11_downOf 75 = .ok (.ireturn, 1) := by decide +kernel
theorem dX11_down_0 : decode cX11_down 0 = .ok (.iload_n 1, 1) := by decide +kernel
theorem dX11_down_1 : decode cX11_down 1 = .ok (.invokestatic 211, 3) := by decide +kernel
theorem dX11_down_4 : decode cX11_down 4 = .ok (.ifCond .eq 11, 3) := by decide +kernel
theorem dX11_down_7 : decode cX11_down 7 = .ok (.aload_n 0, 1) := by decide +kernel
theorem dX11_down_8 : decode cX11_down 8 = .ok (.iload_n 1, 1) := by decide +kernel
theorem dX11_down_9 : decode cX11_down 9 = .ok (.invokevirtual 221, 3) := by decide +kernel
theorem dX11_down_12 : decode cX11_down 12 = .ok (.goto 8, 3) := by decide +kernel
theorem dX11_down_15 : decode cX11_down 15 = .ok (.aload_n 0, 1) := by decide +kernel
theorem dX11_down_16 : decode cX11_down 16 = .ok (.iconst (-1), 1) := by decide +kernel
theorem dX11_down_17 : decode cX11_down 17 = .ok (.invokevirtual 207, 3) := by decide +kernel
theorem dX11_down_20 : decode cX11_down 20 = .ok (.ireturn, 1) := by decide +kernel
theorem dX11_house_0 : decode cX11_house 0 = .ok (.iload_n 1, 1) := by decide +kernel
theorem dX11_house_1 : decode cX11_house 1 = .ok (.invokestatic 211, 3) := by decide +kernel
theorem dX11_house_4 : decode cX11_house 4 = .ok (.ifCond .eq 15, 3) := by decide +kernel
theorem dX11_house_7 : decode cX11_house 7 = .ok (.iload_n 2, 1) := by decide +kernel
theorem dX11_house_8 : decode cX11_house 8 = .ok (.i2l, 1) := by decide +kernel
theorem dX11_house_9 : decode cX11_house 9 = .ok (.lconst 0, 1) := by decide +kernel
theorem dX11_house_10 : decode cX11_house 10 = .ok (.ldc2_w 224, 3) := by decide +kernel
theorem dX11_house_13 : decode cX11_house 13 = .ok (.invokestatic 226, 3) := by decide +kernel
theorem dX11_house_16 : decode cX11_house 16 = .ok (.ifCond .ne 9, 3) := by decide +kernel
theorem dX11_house_19 : decode cX11_house 19 = .ok (.aload_n 0, 1) := by decide +kernel
theorem dX11_house_20 : decode cX11_house 20 = .ok (.iconst (-1), 1) := by decide +kernel
theorem dX11_house_21 : decode cX11_house 21 = .ok (.invokevirtual 207, 3) := by decide +kernel
theorem dX11_house_24 : decode cX11_house 24 = .ok (.ireturn, 1) := by decide +kernel
theorem dX11_house_25 : decode cX11_house 25 = .ok (.aload_n 0, 1) := by decide +kernel
theorem dX11_house_26 : decode cX11_house 26 = .ok (.iload_n 1, 1) := by decide +kernel
theorem dX11_house_27 : decode cX11_house 27 = .ok (.invokevirtual 230, 3) := by decide +kernel
theorem dX11_house_30 : decode cX11_house 30 = .ok (.ifCond .lt 10, 3) := by decide +kernel
theorem dX11_house_33 : decode cX11_house 33 = .ok (.aload_n 0, 1) := by decide +kernel
theorem dX11_house_34 : decode cX11_house 34 = .ok (.bipush (-3), 2) := by decide +kernel
theorem dX11_house_36 : decode cX11_house 36 = .ok (.invokevirtual 207, 3) := by decide +kernel
theorem dX11_house_39 : decode cX11_house 39 = .ok (.ireturn, 1) := by decide +kernel
theorem dX11_house_40 : decode cX11_house 40 = .ok (.aload_n 0, 1) := by decide +kernel
theorem dX11_house_41 : decode cX11_house 41 = .ok (.getfield 193, 3) := by decide +kernel
theorem dX11_house_44 : decode cX11_house 44 = .ok (.bipush 30, 2) := by decide +kernel
theorem dX11_house_46 : decode cX11_house 46 = .ok (.if_icmp .ne 10, 3) := by decide +kernel
theorem dX11_house_49 : decode cX11_house 49 = .ok (.aload_n 0, 1) := by decide +kernel
theorem dX11_house_50 : decode cX11_house 50 = .ok (.bipush (-6), 2) := by decide +kernel
theorem dX11_house_52 : decode cX11_house 52 = .ok (.invokevirtual 207, 3) := by decide +kernel
theorem dX11_house_55 : decode cX11_house 55 = .ok (.ireturn, 1) := by decide +kernel
theorem dX11_house_56 : decode cX11_house 56 = .ok (.aload_n 0, 1) := by decide +kernel
theorem dX11_house_57 : decode cX11_house 57 = .ok (.getfield 16, 3) := by decide +kernel
theorem dX11_house_60 : decode cX11_house 60 = .ok (.aload_n 0, 1) := by decide +kernel
theorem dX11_house_61 : decode cX11_house 61 = .ok (.getfield 193, 3) := by decide +kernel
theorem dX11_house_64 : decode cX11_house 64 = .ok (.iload_n 1, 1) := by decide +kernel
theorem dX11_house_65 : decode cX11_house 65 = .ok (.iastore, 1) := by decide +kernel
theorem dX11_house_66 : decode cX11_house 66 = .ok (.aload_n 0, 1) := by decide +kernel
theorem dX11_house_67 : decode cX11_house 67 = .ok (.getfield 19, 3) := by decide +kernel
theorem dX11_house_70 : decode cX11_house 70 = .ok (.aload_n 0, 1) := by decide +kernel
theorem dX11_house_71 : decode cX11_house 71 = .ok (.getfield 193, 3) := by decide +kernel
theorem dX11_house_74 : decode cX11_house 74 = .ok (.iload_n 2, 1) := by decide +kernel
theorem dX11_house_75 : decode cX11_house 75 = .ok (.iastore, 1) := by decide +kernel
theorem dX11_house_76 : decode cX11_house 76 = .ok (.aload_n 0, 1) := by decide +kernel
theorem dX11_house_77 : decode cX11_house 77 = .ok (.dup, 1) := by decide +kernel
theorem dX11_house_78 : decode cX11_house 78 = .ok (.getfield 193, 3) := by decide +kernel
theorem dX11_house_81 : decode cX11_house 81 = .ok (.iconst 1, 1) := by decide +kernel
theorem dX11_house_82 : decode cX11_house 82 = .ok (.iadd, 1) := by decide +kernel
theorem dX11_house_83 : decode cX11_house 83 = .ok (.putfield 193, 3) := by decide +kernel
theorem dX11_house_86 : decode cX11_house 86 = .ok (.aload_n 0, 1) := by decide +kernel
theorem dX11_house_87 : decode cX11_house 87 = .ok (.getfield 193, 3) := by decide +kernel
theorem dX11_house_90 : decode cX11_house 90 = .ok (.iconst 1, 1) := by decide +kernel
theorem dX11_house_91 : decode cX11_house 91 = .ok (.isub, 1) := by decide +kernel
theorem dX11_house_92 : decode cX11_house 92 = .ok (.ireturn, 1) := by decide +kernel
theorem dX11_houseAt_0 : decode cX11_houseAt 0 = .ok (.iconst 0, 1) := by decide +kernel
theorem dX11_houseAt_1 : decode cX11_houseAt 1 = .ok (.istore_n 2, 1) := by decide +kernel
theorem dX11_houseAt_2 : decode cX11_houseAt 2 = .ok (.iload_n 2, 1) := by decide +kernel
theorem dX11_houseAt_3 : decode cX11_houseAt 3 = .ok (.aload_n 0, 1) := by decide +kernel
theorem dX11_houseAt_4 : decode cX11_houseAt 4 = .ok (.getfield 193, 3) := by decide +kernel
theorem dX11_houseAt_7 : decode cX11_houseAt 7 = .ok (.if_icmp .ge 21, 3) := by decide +kernel
theorem dX11_houseAt_10 : decode cX11_houseAt 10 = .ok (.aload_n 0, 1) := by decide +kernel
theorem dX11_houseAt_11 : decode cX11_houseAt 11 = .ok (.getfield 16, 3) := by decide +kernel
theorem dX11_houseAt_14 : decode cX11_houseAt 14 = .ok (.iload_n 2, 1) := by decide +kernel
theorem dX11_houseAt_15 : decode cX11_houseAt 15 = .ok (.iaload, 1) := by decide +kernel
theorem dX11_houseAt_16 : decode cX11_houseAt 16 = .ok (.iload_n 1, 1) := by decide +kernel
theorem dX11_houseAt_17 : decode cX11_houseAt 17 = .ok (.if_icmp .ne 5, 3) := by decide +kernel
theorem dX11_houseAt_20 : decode cX11_houseAt 20 = .ok (.iload_n 2, 1) := by decide +kernel
theorem dX11_houseAt_21 : decode cX11_houseAt 21 = .ok (.ireturn, 1) := by decide +kernel
theorem dX11_houseAt_22 : decode cX11_houseAt 22 = .ok (.iinc 2 1, 3) := by decide +kernel
theorem dX11_houseAt_25 : decode cX11_houseAt 25 = .ok (.goto (-23), 3) := by decide +kernel
theorem dX11_houseAt_28 : decode cX11_houseAt 28 = .ok (.bipush (-9), 2) := by decide +kernel
theorem dX11_houseAt_30 : decode cX11_houseAt 30 = .ok (.ireturn, 1) := by decide +kernel
theorem dX11_person_0 : decode cX11_person 0 = .ok (.aload_n 0, 1) := by decide +kernel
theorem dX11_person_1 : decode cX11_person 1 = .ok (.iload_n 1, 1) := by decide +kernel
theorem dX11_person_2 : decode cX11_person 2 = .ok (.invokevirtual 233, 3) := by decide +kernel
theorem dX11_person_5 : decode cX11_person 5 = .ok (.ifCond .ne 9, 3) := by decide +kernel
theorem dX11_person_8 : decode cX11_person 8 = .ok (.aload_n 0, 1) := by decide +kernel
theorem dX11_person_9 : decode cX11_person 9 = .ok (.iconst (-1), 1) := by decide +kernel
theorem dX11_person_10 : decode cX11_person 10 = .ok (.invokevirtual 207, 3) := by decide +kernel
theorem dX11_person_13 : decode cX11_person 13 = .ok (.ireturn, 1) := by decide +kernel
theorem dX11_person_14 : decode cX11_person 14 = .ok (.iload_n 3, 1) := by decide +kernel
theorem dX11_person_15 : decode cX11_person 15 = .ok (.i2l, 1) := by decide +kernel
theorem dX11_person_16 : decode cX11_person 16 = .ok (.lconst 0, 1) := by decide +kernel
theorem dX11_person_17 : decode cX11_person 17 = .ok (.ldc2_w 236, 3) := by decide +kernel
theorem dX11_person_20 : decode cX11_person 20 = .ok (.invokestatic 226, 3) := by decide +kernel
theorem dX11_person_23 : decode cX11_person 23 = .ok (.ifCond .ne 10, 3) := by decide +kernel
theorem dX11_person_26 : decode cX11_person 26 = .ok (.aload_n 0, 1) := by decide +kernel
theorem dX11_person_27 : decode cX11_person 27 = .ok (.bipush (-2), 2) := by decide +kernel
theorem dX11_person_29 : decode cX11_person 29 = .ok (.invokevirtual 207, 3) := by decide +kernel
theorem dX11_person_32 : decode cX11_person 32 = .ok (.ireturn, 1) := by decide +kernel
theorem dX11_person_33 : decode cX11_person 33 = .ok (.iload_n 2, 1) := by decide +kernel
theorem dX11_person_34 : decode cX11_person 34 = .ok (.i2l, 1) := by decide +kernel
theorem dX11_person_35 : decode cX11_person 35 = .ok (.ldc2_w 238, 3) := by decide +kernel
theorem dX11_person_38 : decode cX11_person 38 = .ok (.aload_n 0, 1) := by decide +kernel
theorem dX11_person_39 : decode cX11_person 39 = .ok (.getfield 200, 3) := by decide +kernel
theorem dX11_person_42 : decode cX11_person 42 = .ok (.i2l, 1) := by decide +kernel
theorem dX11_person_43 : decode cX11_person 43 = .ok (.invokestatic 203, 3) := by decide +kernel
theorem dX11_person_46 : decode cX11_person 46 = .ok (.istore 4, 2) := by decide +kernel
theorem dX11_person_48 : decode cX11_person 48 = .ok (.iload 4, 2) := by decide +kernel
theorem dX11_person_50 : decode cX11_person 50 = .ok (.ifCond .ne 16, 3) := by decide +kernel
theorem dX11_person_53 : decode cX11_person 53 = .ok (.aload_n 0, 1) := by decide +kernel
theorem dX11_person_54 : decode cX11_person 54 = .ok (.getfield 197, 3) := by decide +kernel
theorem dX11_person_57 : decode cX11_person 57 = .ok (.bipush 60, 2) := by decide +kernel
theorem dX11_person_59 : decode cX11_person 59 = .ok (.if_icmp .ne 7, 3) := by decide +kernel
theorem dX11_person_62 : decode cX11_person 62 = .ok (.bipush (-6), 2) := by decide +kernel
theorem dX11_person_64 : decode cX11_person 64 = .ok (.istore 4, 2) := by decide +kernel
theorem dX11_person_66 : decode cX11_person 66 = .ok (.iload 4, 2) := by decide +kernel
theorem dX11_person_68 : decode cX11_person 68 = .ok (.ifCond .eq 10, 3) := by decide +kernel
theorem dX11_person_71 : decode cX11_person 71 = .ok (.aload_n 0, 1) := by decide +kernel
theorem dX11_person_72 : decode cX11_person 72 = .ok (.iload 4, 2) := by decide +kernel
theorem dX11_person_74 : decode cX11_person 74 = .ok (.invokevirtual 207, 3) := by decide +kernel
theorem dX11_person_77 : decode cX11_person 77 = .ok (.ireturn, 1) := by decide +kernel
theorem dX11_person_78 : decode cX11_person 78 = .ok (.aload_n 0, 1) := by decide +kernel
theorem dX11_person_79 : decode cX11_person 79 = .ok (.getfield 22, 3) := by decide +kernel
theorem dX11_person_82 : decode cX11_person 82 = .ok (.aload_n 0, 1) := by decide +kernel
theorem dX11_person_83 : decode cX11_person 83 = .ok (.getfield 197, 3) := by decide +kernel
theorem dX11_person_86 : decode cX11_person 86 = .ok (.iload_n 1, 1) := by decide +kernel
theorem dX11_person_87 : decode cX11_person 87 = .ok (.iastore, 1) := by decide +kernel
theorem dX11_person_88 : decode cX11_person 88 = .ok (.aload_n 0, 1) := by decide +kernel
theorem dX11_person_89 : decode cX11_person 89 = .ok (.getfield 25, 3) := by decide +kernel
theorem dX11_person_92 : decode cX11_person 92 = .ok (.aload_n 0, 1) := by decide +kernel
theorem dX11_person_93 : decode cX11_person 93 = .ok (.getfield 197, 3) := by decide +kernel
theorem dX11_person_96 : decode cX11_person 96 = .ok (.iload_n 2, 1) := by decide +kernel
theorem dX11_person_97 : decode cX11_person 97 = .ok (.iastore, 1) := by decide +kernel
theorem dX11_person_98 : decode cX11_person 98 = .ok (.aload_n 0, 1) := by decide +kernel
theorem dX11_person_99 : decode cX11_person 99 = .ok (.getfield 28, 3) := by decide +kernel
theorem dX11_person_102 : decode cX11_person 102 = .ok (.aload_n 0, 1) := by decide +kernel
theorem dX11_person_103 : decode cX11_person 103 = .ok (.getfield 197, 3) := by decide +kernel
theorem dX11_person_106 : decode cX11_person 106 = .ok (.iload_n 3, 1) := by decide +kernel
theorem dX11_person_107 : decode cX11_person 107 = .ok (.iastore, 1) := by decide +kernel
theorem dX11_person_108 : decode cX11_person 108 = .ok (.aload_n 0, 1) := by decide +kernel
theorem dX11_person_109 : decode cX11_person 109 = .ok (.getfield 31, 3) := by decide +kernel
theorem dX11_person_112 : decode cX11_person 112 = .ok (.aload_n 0, 1) := by decide +kernel
theorem dX11_person_113 : decode cX11_person 113 = .ok (.getfield 197, 3) := by decide +kernel
theorem dX11_person_116 : decode cX11_person 116 = .ok (.aload_n 0, 1) := by decide +kernel
theorem dX11_person_117 : decode cX11_person 117 = .ok (.getfield 200, 3) := by decide +kernel
theorem dX11_person_120 : decode cX11_person 120 = .ok (.iastore, 1) := by decide +kernel
theorem dX11_person_121 : decode cX11_person 121 = .ok (.aload_n 0, 1) := by decide +kernel
theorem dX11_person_122 : decode cX11_person 122 = .ok (.dup, 1) := by decide +kernel
theorem dX11_person_123 : decode cX11_person 123 = .ok (.getfield 197, 3) := by decide +kernel
theorem dX11_person_126 : decode cX11_person 126 = .ok (.iconst 1, 1) := by decide +kernel
theorem dX11_person_127 : decode cX11_person 127 = .ok (.iadd, 1) := by decide +kernel
theorem dX11_person_128 : decode cX11_person 128 = .ok (.putfield 197, 3) := by decide +kernel
theorem dX11_person_131 : decode cX11_person 131 = .ok (.aload_n 0, 1) := by decide +kernel
theorem dX11_person_132 : decode cX11_person 132 = .ok (.getfield 197, 3) := by decide +kernel
theorem dX11_person_135 : decode cX11_person 135 = .ok (.iconst 1, 1) := by decide +kernel
theorem dX11_person_136 : decode cX11_person 136 = .ok (.isub, 1) := by decide +kernel
theorem dX11_person_137 : decode cX11_person 137 = .ok (.ireturn, 1) := by decide +kernel
theorem dX11_becomes_0 : decode cX11_becomes 0 = .ok (.aload_n 0, 1) := by decide +kernel
theorem dX11_becomes_1 : decode cX11_becomes 1 = .ok (.getfield 34, 3) := by decide +kernel
theorem dX11_becomes_4 : decode cX11_becomes 4 = .ok (.aload_n 0, 1) := by decide +kernel
theorem dX11_becomes_5 : decode cX11_becomes 5 = .ok (.getfield 240, 3) := by decide +kernel
theorem dX11_becomes_8 : decode cX11_becomes 8 = .ok (.iload_n 1, 1) := by decide +kernel
theorem dX11_becomes_9 : decode cX11_becomes 9 = .ok (.iastore, 1) := by decide +kernel
theorem dX11_becomes_10 : decode cX11_becomes 10 = .ok (.aload_n 0, 1) := by decide +kernel
theorem dX11_becomes_11 : decode cX11_becomes 11 = .ok (.getfield 37, 3) := by decide +kernel
theorem dX11_becomes_14 : decode cX11_becomes 14 = .ok (.aload_n 0, 1) := by decide +kernel
theorem dX11_becomes_15 : decode cX11_becomes 15 = .ok (.getfield 240, 3) := by decide +kernel
theorem dX11_becomes_18 : decode cX11_becomes 18 = .ok (.iload_n 2, 1) := by decide +kernel
theorem dX11_becomes_19 : decode cX11_becomes 19 = .ok (.iastore, 1) := by decide +kernel
theorem dX11_becomes_20 : decode cX11_becomes 20 = .ok (.aload_n 0, 1) := by decide +kernel
theorem dX11_becomes_21 : decode cX11_becomes 21 = .ok (.getfield 40, 3) := by decide +kernel
theorem dX11_becomes_24 : decode cX11_becomes 24 = .ok (.aload_n 0, 1) := by decide +kernel
theorem dX11_becomes_25 : decode cX11_becomes 25 = .ok (.getfield 240, 3) := by decide +kernel
theorem dX11_becomes_28 : decode cX11_becomes 28 = .ok (.aload_n 0, 1) := by decide +kernel
theorem dX11_becomes_29 : decode cX11_becomes 29 = .ok (.getfield 200, 3) := by decide +kernel
theorem dX11_becomes_32 : decode cX11_becomes 32 = .ok (.iastore, 1) := by decide +kernel
theorem dX11_becomes_33 : decode cX11_becomes 33 = .ok (.aload_n 0, 1) := by decide +kernel
theorem dX11_becomes_34 : decode cX11_becomes 34 = .ok (.dup, 1) := by decide +kernel
theorem dX11_becomes_35 : decode cX11_becomes 35 = .ok (.getfield 240, 3) := by decide +kernel
theorem dX11_becomes_38 : decode cX11_becomes 38 = .ok (.iconst 1, 1) := by decide +kernel
theorem dX11_becomes_39 : decode cX11_becomes 39 = .ok (.iadd, 1) := by decide +kernel
theorem dX11_becomes_40 : decode cX11_becomes 40 = .ok (.putfield 240, 3) := by decide +kernel
theorem dX11_becomes_43 : decode cX11_becomes 43 = .ok (.return_, 1) := by decide +kernel
theorem dX11_state_0 : decode cX11_state 0 = .ok (.aload_n 0, 1) := by decide +kernel
theorem dX11_state_1 : decode cX11_state 1 = .ok (.iload_n 1, 1) := by decide +kernel
theorem dX11_state_2 : decode cX11_state 2 = .ok (.invokevirtual 243, 3) := by decide +kernel
theorem dX11_state_5 : decode cX11_state 5 = .ok (.ifCond .ne 9, 3) := by decide +kernel
theorem dX11_state_8 : decode cX11_state 8 = .ok (.aload_n 0, 1) := by decide +kernel
theorem dX11_state_9 : decode cX11_state 9 = .ok (.iconst (-1), 1) := by decide +kernel
theorem dX11_state_10 : decode cX11_state 10 = .ok (.invokevirtual 207, 3) := by decide +kernel
theorem dX11_state_13 : decode cX11_state 13 = .ok (.ireturn, 1) := by decide +kernel
theorem dX11_state_14 : decode cX11_state 14 = .ok (.iload_n 2, 1) := by decide +kernel
theorem dX11_state_15 : decode cX11_state 15 = .ok (.i2l, 1) := by decide +kernel
theorem dX11_state_16 : decode cX11_state 16 = .ok (.lconst 0, 1) := by decide +kernel
theorem dX11_state_17 : decode cX11_state 17 = .ok (.ldc2_w 246, 3) := by decide +kernel
theorem dX11_state_20 : decode cX11_state 20 = .ok (.invokestatic 226, 3) := by decide +kernel
theorem dX11_state_23 : decode cX11_state 23 = .ok (.ifCond .ne 10, 3) := by decide +kernel
theorem dX11_state_26 : decode cX11_state 26 = .ok (.aload_n 0, 1) := by decide +kernel
theorem dX11_state_27 : decode cX11_state 27 = .ok (.bipush (-2), 2) := by decide +kernel
theorem dX11_state_29 : decode cX11_state 29 = .ok (.invokevirtual 207, 3) := by decide +kernel
theorem dX11_state_32 : decode cX11_state 32 = .ok (.ireturn, 1) := by decide +kernel
theorem dX11_state_33 : decode cX11_state 33 = .ok (.iconst 0, 1) := by decide +kernel
theorem dX11_state_34 : decode cX11_state 34 = .ok (.istore_n 3, 1) := by decide +kernel
theorem dX11_state_35 : decode cX11_state 35 = .ok (.iconst 0, 1) := by decide +kernel
theorem dX11_state_36 : decode cX11_state 36 = .ok (.istore 4, 2) := by decide +kernel
theorem dX11_state_38 : decode cX11_state 38 = .ok (.iload 4, 2) := by decide +kernel
theorem dX11_state_40 : decode cX11_state 40 = .ok (.aload_n 0, 1) := by decide +kernel
theorem dX11_state_41 : decode cX11_state 41 = .ok (.getfield 240, 3) := by decide +kernel
theorem dX11_state_44 : decode cX11_state 44 = .ok (.if_icmp .ge 41, 3) := by decide +kernel
theorem dX11_state_47 : decode cX11_state 47 = .ok (.iload_n 3, 1) := by decide +kernel
theorem dX11_state_48 : decode cX11_state 48 = .ok (.ifCond .ne 25, 3) := by decide +kernel
theorem dX11_state_51 : decode cX11_state 51 = .ok (.aload_n 0, 1) := by decide +kernel
theorem dX11_state_52 : decode cX11_state 52 = .ok (.getfield 34, 3) := by decide +kernel
theorem dX11_state_55 : decode cX11_state 55 = .ok (.iload 4, 2) := by decide +kernel
theorem dX11_state_57 : decode cX11_state 57 = .ok (.iaload, 1) := by decide +kernel
theorem dX11_state_58 : decode cX11_state 58 = .ok (.iload_n 1, 1) := by decide +kernel
theorem dX11_state_59 : decode cX11_state 59 = .ok (.if_icmp .ne 18, 3) := by decide +kernel
theorem dX11_state_62 : decode cX11_state 62 = .ok (.aload_n 0, 1) := by decide +kernel
theorem dX11_state_63 : decode cX11_state 63 = .ok (.getfield 37, 3) := by decide +kernel
theorem dX11_state_66 : decode cX11_state 66 = .ok (.iload 4, 2) := by decide +kernel
theorem dX11_state_68 : decode cX11_state 68 = .ok (.iaload, 1) := by decide +kernel
theorem dX11_state_69 : decode cX11_state 69 = .ok (.iconst 4, 1) := by decide +kernel
theorem dX11_state_70 : decode cX11_state 70 = .ok (.if_icmp .ne 7, 3) := by decide +kernel
theorem dX11_state_73 : decode cX11_state 73 = .ok (.iconst 1, 1) := by decide +kernel
theorem dX11_state_74 : decode cX11_state 74 = .ok (.goto 4, 3) := by decide +kernel
theorem dX11_state_77 : decode cX11_state 77 = .ok (.iconst 0, 1) := by decide +kernel
theorem dX11_state_78 : decode cX11_state 78 = .ok (.istore_n 3, 1) := by decide +kernel
theorem dX11_state_79 : decode cX11_state 79 = .ok (.iinc 4 1, 3) := by decide +kernel
theorem dX11_state_82 : decode cX11_state 82 = .ok (.goto (-44), 3) := by decide +kernel
theorem dX11_state_85 : decode cX11_state 85 = .ok (.iload_n 3, 1) := by decide +kernel
theorem dX11_state_86 : decode cX11_state 86 = .ok (.ifCond .eq 10, 3) := by decide +kernel
theorem dX11_state_89 : decode cX11_state 89 = .ok (.aload_n 0, 1) := by decide +kernel
theorem dX11_state_90 : decode cX11_state 90 = .ok (.bipush (-3), 2) := by decide +kernel
theorem dX11_state_92 : decode cX11_state 92 = .ok (.invokevirtual 207, 3) := by decide +kernel
theorem dX11_state_95 : decode cX11_state 95 = .ok (.ireturn, 1) := by decide +kernel
theorem dX11_state_96 : decode cX11_state 96 = .ok (.aload_n 0, 1) := by decide +kernel
theorem dX11_state_97 : decode cX11_state 97 = .ok (.getfield 240, 3) := by decide +kernel
theorem dX11_state_100 : decode cX11_state 100 = .ok (.sipush 150, 3) := by decide +kernel
theorem dX11_state_103 : decode cX11_state 103 = .ok (.if_icmp .ne 10, 3) := by decide +kernel
theorem dX11_state_106 : decode cX11_state 106 = .ok (.aload_n 0, 1) := by decide +kernel
theorem dX11_state_107 : decode cX11_state 107 = .ok (.bipush (-6), 2) := by decide +kernel
theorem dX11_state_109 : decode cX11_state 109 = .ok (.invokevirtual 207, 3) := by decide +kernel
theorem dX11_state_112 : decode cX11_state 112 = .ok (.ireturn, 1) := by decide +kernel
theorem dX11_state_113 : decode cX11_state 113 = .ok (.aload_n 0, 1) := by decide +kernel
theorem dX11_state_114 : decode cX11_state 114 = .ok (.iload_n 1, 1) := by decide +kernel
theorem dX11_state_115 : decode cX11_state 115 = .ok (.iload_n 2, 1) := by decide +kernel
theorem dX11_state_116 : decode cX11_state 116 = .ok (.invokevirtual 248, 3) := by decide +kernel
theorem dX11_state_119 : decode cX11_state 119 = .ok (.aload_n 0, 1) := by decide +kernel
theorem dX11_state_120 : decode cX11_state 120 = .ok (.getfield 240, 3) := by decide +kernel
theorem dX11_state_123 : decode cX11_state 123 = .ok (.ireturn, 1) := by decide +kernel
theorem dX11_stateOn_0 : decode cX11_stateOn 0 = .ok (.iload_n 2, 1) := by decide +kernel
theorem dX11_stateOn_1 : decode cX11_stateOn 1 = .ok (.aload_n 0, 1) := by decide +kernel
theorem dX11_stateOn_2 : decode cX11_stateOn 2 = .ok (.getfield 31, 3) := by decide +kernel
theorem dX11_stateOn_5 : decode cX11_stateOn 5 = .ok (.iload_n 1, 1) := by decide +kernel
theorem dX11_stateOn_6 : decode cX11_stateOn 6 = .ok (.iaload, 1) := by decide +kernel
theorem dX11_stateOn_7 : decode cX11_stateOn 7 = .ok (.if_icmp .ge 6, 3) := by decide +kernel
theorem dX11_stateOn_10 : decode cX11_stateOn 10 = .ok (.bipush (-9), 2) := by decide +kernel
theorem dX11_stateOn_12 : decode cX11_stateOn 12 = .ok (.ireturn, 1) := by decide +kernel
theorem dX11_stateOn_13 : decode cX11_stateOn 13 = .ok (.iconst 0, 1) := by decide +kernel
theorem dX11_stateOn_14 : decode cX11_stateOn 14 = .ok (.istore_n 3, 1) := by decide +kernel
theorem dX11_stateOn_15 : decode cX11_stateOn 15 = .ok (.iconst 0, 1) := by decide +kernel
theorem dX11_stateOn_16 : decode cX11_stateOn 16 = .ok (.istore 4, 2) := by decide +kernel
theorem dX11_stateOn_18 : decode cX11_stateOn 18 = .ok (.iload 4, 2) := by decide +kernel
theorem dX11_stateOn_20 : decode cX11_stateOn 20 = .ok (.aload_n 0, 1) := by decide +kernel
theorem dX11_stateOn_21 : decode cX11_stateOn 21 = .ok (.getfield 240, 3) := by decide +kernel
theorem dX11_stateOn_24 : decode cX11_stateOn 24 = .ok (.if_icmp .ge 43, 3) := by decide +kernel
theorem dX11_stateOn_27 : decode cX11_stateOn 27 = .ok (.aload_n 0, 1) := by decide +kernel
theorem dX11_stateOn_28 : decode cX11_stateOn 28 = .ok (.getfield 34, 3) := by decide +kernel
theorem dX11_stateOn_31 : decode cX11_stateOn 31 = .ok (.iload 4, 2) := by decide +kernel
theorem dX11_stateOn_33 : decode cX11_stateOn 33 = .ok (.iaload, 1) := by decide +kernel
theorem dX11_stateOn_34 : decode cX11_stateOn 34 = .ok (.iload_n 1, 1) := by decide +kernel
theorem dX11_stateOn_35 : decode cX11_stateOn 35 = .ok (.if_icmp .ne 24, 3) := by decide +kernel
theorem dX11_stateOn_38 : decode cX11_stateOn 38 = .ok (.aload_n 0, 1) := by decide +kernel
theorem dX11_stateOn_39 : decode cX11_stateOn 39 = .ok (.getfield 40, 3) := by decide +kernel
theorem dX11_stateOn_42 : decode cX11_stateOn 42 = .ok (.iload 4, 2) := by decide +kernel
theorem dX11_stateOn_44 : decode cX11_stateOn 44 = .ok (.iaload, 1) := by decide +kernel
theorem dX11_stateOn_45 : decode cX11_stateOn 45 = .ok (.iload_n 2, 1) := by decide +kernel
theorem dX11_stateOn_46 : decode cX11_stateOn 46 = .ok (.if_icmp .gt 13, 3) := by decide +kernel
theorem dX11_stateOn_49 : decode cX11_stateOn 49 = .ok (.aload_n 0, 1) := by decide +kernel
theorem dX11_stateOn_50 : decode cX11_stateOn 50 = .ok (.getfield 37, 3) := by decide +kernel
theorem dX11_stateOn_53 : decode cX11_stateOn 53 = .ok (.iload 4, 2) := by decide +kernel
theorem dX11_stateOn_55 : decode cX11_stateOn 55 = .ok (.iaload, 1) := by decide +kernel
theorem dX11_stateOn_56 : decode cX11_stateOn 56 = .ok (.goto 4, 3) := by decide +kernel
theorem dX11_stateOn_59 : decode cX11_stateOn 59 = .ok (.iload_n 3, 1) := by decide +kernel
theorem dX11_stateOn_60 : decode cX11_stateOn 60 = .ok (.istore_n 3, 1) := by decide +kernel
theorem dX11_stateOn_61 : decode cX11_stateOn 61 = .ok (.iinc 4 1, 3) := by decide +kernel
theorem dX11_stateOn_64 : decode cX11_stateOn 64 = .ok (.goto (-46), 3) := by decide +kernel
theorem dX11_stateOn_67 : decode cX11_stateOn 67 = .ok (.iload_n 3, 1) := by decide +kernel
theorem dX11_stateOn_68 : decode cX11_stateOn 68 = .ok (.ireturn, 1) := by decide +kernel
theorem dX11_isHere_0 : decode cX11_isHere 0 = .ok (.aload_n 0, 1) := by decide +kernel
theorem dX11_isHere_1 : decode cX11_isHere 1 = .ok (.iload_n 1, 1) := by decide +kernel
theorem dX11_isHere_2 : decode cX11_isHere 2 = .ok (.iload_n 2, 1) := by decide +kernel
theorem dX11_isHere_3 : decode cX11_isHere 3 = .ok (.invokevirtual 252, 3) := by decide +kernel
theorem dX11_isHere_6 : decode cX11_isHere 6 = .ok (.istore_n 3, 1) := by decide +kernel
theorem dX11_isHere_7 : decode cX11_isHere 7 = .ok (.iload_n 3, 1) := by decide +kernel
theorem dX11_isHere_8 : decode cX11_isHere 8 = .ok (.ifCond .eq 8, 3) := by decide +kernel
theorem dX11_isHere_11 : decode cX11_isHere 11 = .ok (.iload_n 3, 1) := by decide +kernel
theorem dX11_isHere_12 : decode cX11_isHere 12 = .ok (.iconst 2, 1) := by decide +kernel
theorem dX11_isHere_13 : decode cX11_isHere 13 = .ok (.if_icmp .ne 7, 3) := by decide +kernel
theorem dX11_isHere_16 : decode cX11_isHere 16 = .ok (.iconst 1, 1) := by decide +kernel
theorem dX11_isHere_17 : decode cX11_isHere 17 = .ok (.goto 4, 3) := by decide +kernel
theorem dX11_isHere_20 : decode cX11_isHere 20 = .ok (.iconst 0, 1) := by decide +kernel
theorem dX11_isHere_21 : decode cX11_isHere 21 = .ok (.ireturn, 1) := by decide +kernel
theorem dX11_stateOf_0 : decode cX11_stateOf 0 = .ok (.aload_n 0, 1) := by decide +kernel
theorem dX11_stateOf_1 : decode cX11_stateOf 1 = .ok (.iload_n 1, 1) := by decide +kernel
theorem dX11_stateOf_2 : decode cX11_stateOf 2 = .ok (.invokevirtual 243, 3) := by decide +kernel
theorem dX11_stateOf_5 : decode cX11_stateOf 5 = .ok (.ifCond .ne 9, 3) := by decide +kernel
theorem dX11_stateOf_8 : decode cX11_stateOf 8 = .ok (.aload_n 0, 1) := by decide +kernel
theorem dX11_stateOf_9 : decode cX11_stateOf 9 = .ok (.iconst (-1), 1) := by decide +kernel
theorem dX11_stateOf_10 : decode cX11_stateOf 10 = .ok (.invokevirtual 207, 3) := by decide +kernel
theorem dX11_stateOf_13 : decode cX11_stateOf 13 = .ok (.ireturn, 1) := by decide +kernel
theorem dX11_stateOf_14 : decode cX11_stateOf 14 = .ok (.iload_n 2, 1) := by decide +kernel
theorem dX11_stateOf_15 : decode cX11_stateOf 15 = .ok (.i2l, 1) := by decide +kernel
theorem dX11_stateOf_16 : decode cX11_stateOf 16 = .ok (.lconst 0, 1) := by decide +kernel
theorem dX11_stateOf_17 : decode cX11_stateOf 17 = .ok (.ldc2_w 256, 3) := by decide +kernel
theorem dX11_stateOf_20 : decode cX11_stateOf 20 = .ok (.invokestatic 203, 3) := by decide +kernel
theorem dX11_stateOf_23 : decode cX11_stateOf 23 = .ok (.istore_n 3, 1) := by decide +kernel
theorem dX11_stateOf_24 : decode cX11_stateOf 24 = .ok (.iload_n 3, 1) := by decide +kernel
theorem dX11_stateOf_25 : decode cX11_stateOf 25 = .ok (.ifCond .eq 11, 3) := by decide +kernel
theorem dX11_stateOf_28 : decode cX11_stateOf 28 = .ok (.aload_n 0, 1) := by decide +kernel
theorem dX11_stateOf_29 : decode cX11_stateOf 29 = .ok (.iload_n 3, 1) := by decide +kernel
theorem dX11_stateOf_30 : decode cX11_stateOf 30 = .ok (.invokevirtual 207, 3) := by decide +kernel
theorem dX11_stateOf_33 : decode cX11_stateOf 33 = .ok (.goto 9, 3) := by decide +kernel
theorem dX11_stateOf_36 : decode cX11_stateOf 36 = .ok (.aload_n 0, 1) := by decide +kernel
theorem dX11_stateOf_37 : decode cX11_stateOf 37 = .ok (.iload_n 1, 1) := by decide +kernel
theorem dX11_stateOf_38 : decode cX11_stateOf 38 = .ok (.iload_n 2, 1) := by decide +kernel
theorem dX11_stateOf_39 : decode cX11_stateOf 39 = .ok (.invokevirtual 252, 3) := by decide +kernel
theorem dX11_stateOf_42 : decode cX11_stateOf 42 = .ok (.ireturn, 1) := by decide +kernel
theorem dX11_hereOf_0 : decode cX11_hereOf 0 = .ok (.iconst 0, 1) := by decide +kernel
theorem dX11_hereOf_1 : decode cX11_hereOf 1 = .ok (.istore_n 3, 1) := by decide +kernel
theorem dX11_hereOf_2 : decode cX11_hereOf 2 = .ok (.iconst 0, 1) := by decide +kernel
theorem dX11_hereOf_3 : decode cX11_hereOf 3 = .ok (.istore 4, 2) := by decide +kernel
theorem dX11_hereOf_5 : decode cX11_hereOf 5 = .ok (.iload 4, 2) := by decide +kernel
theorem dX11_hereOf_7 : decode cX11_hereOf 7 = .ok (.aload_n 0, 1) := by decide +kernel
theorem dX11_hereOf_8 : decode cX11_hereOf 8 = .ok (.getfield 197, 3) := by decide +kernel
theorem dX11_hereOf_11 : decode cX11_hereOf 11 = .ok (.if_icmp .ge 38, 3) := by decide +kernel
theorem dX11_hereOf_14 : decode cX11_hereOf 14 = .ok (.iload_n 3, 1) := by decide +kernel
theorem dX11_hereOf_15 : decode cX11_hereOf 15 = .ok (.aload_n 0, 1) := by decide +kernel
theorem dX11_hereOf_16 : decode cX11_hereOf 16 = .ok (.getfield 22, 3) := by decide +kernel
theorem dX11_hereOf_19 : decode cX11_hereOf 19 = .ok (.iload 4, 2) := by decide +kernel
theorem dX11_hereOf_21 : decode cX11_hereOf 21 = .ok (.iaload, 1) := by decide +kernel
theorem dX11_hereOf_22 : decode cX11_hereOf 22 = .ok (.iload_n 1, 1) := by decide +kernel
theorem dX11_hereOf_23 : decode cX11_hereOf 23 = .ok (.if_icmp .ne 17, 3) := by decide +kernel
theorem dX11_hereOf_26 : decode cX11_hereOf 26 = .ok (.aload_n 0, 1) := by decide +kernel
theorem dX11_hereOf_27 : decode cX11_hereOf 27 = .ok (.iload 4, 2) := by decide +kernel
theorem dX11_hereOf_29 : decode cX11_hereOf 29 = .ok (.iload_n 2, 1) := by decide +kernel
theorem dX11_hereOf_30 : decode cX11_hereOf 30 = .ok (.invokevirtual 258, 3) := by decide +kernel
theorem dX11_hereOf_33 : decode cX11_hereOf 33 = .ok (.ifCond .eq 7, 3) := by decide +kernel
theorem dX11_hereOf_36 : decode cX11_hereOf 36 = .ok (.iconst 1, 1) := by decide +kernel
theorem dX11_hereOf_37 : decode cX11_hereOf 37 = .ok (.goto 4, 3) := by decide +kernel
theorem dX11_hereOf_40 : decode cX11_hereOf 40 = .ok (.iconst 0, 1) := by decide +kernel
theorem dX11_hereOf_41 : decode cX11_hereOf 41 = .ok (.iadd, 1) := by decide +kernel
theorem dX11_hereOf_42 : decode cX11_hereOf 42 = .ok (.istore_n 3, 1) := by decide +kernel
theorem dX11_hereOf_43 : decode cX11_hereOf 43 = .ok (.iinc 4 1, 3) := by decide +kernel
theorem dX11_hereOf_46 : decode cX11_hereOf 46 = .ok (.goto (-41), 3) := by decide +kernel
theorem dX11_hereOf_49 : decode cX11_hereOf 49 = .ok (.iload_n 3, 1) := by decide +kernel
theorem dX11_hereOf_50 : decode cX11_hereOf 50 = .ok (.ireturn, 1) := by decide +kernel
theorem dX11_here_0 : decode cX11_here 0 = .ok (.aload_n 0, 1) := by decide +kernel
theorem dX11_here_1 : decode cX11_here 1 = .ok (.iload_n 1, 1) := by decide +kernel
theorem dX11_here_2 : decode cX11_here 2 = .ok (.invokevirtual 233, 3) := by decide +kernel
theorem dX11_here_5 : decode cX11_here 5 = .ok (.ifCond .ne 9, 3) := by decide +kernel
theorem dX11_here_8 : decode cX11_here 8 = .ok (.aload_n 0, 1) := by decide +kernel
theorem dX11_here_9 : decode cX11_here 9 = .ok (.iconst (-1), 1) := by decide +kernel
theorem dX11_here_10 : decode cX11_here 10 = .ok (.invokevirtual 207, 3) := by decide +kernel
theorem dX11_here_13 : decode cX11_here 13 = .ok (.ireturn, 1) := by decide +kernel
theorem dX11_here_14 : decode cX11_here 14 = .ok (.iload_n 2, 1) := by decide +kernel
theorem dX11_here_15 : decode cX11_here 15 = .ok (.i2l, 1) := by decide +kernel
theorem dX11_here_16 : decode cX11_here 16 = .ok (.lconst 0, 1) := by decide +kernel
theorem dX11_here_17 : decode cX11_here 17 = .ok (.ldc2_w 256, 3) := by decide +kernel
theorem dX11_here_20 : decode cX11_here 20 = .ok (.invokestatic 203, 3) := by decide +kernel
theorem dX11_here_23 : decode cX11_here 23 = .ok (.istore_n 3, 1) := by decide +kernel
theorem dX11_here_24 : decode cX11_here 24 = .ok (.iload_n 3, 1) := by decide +kernel
theorem dX11_here_25 : decode cX11_here 25 = .ok (.ifCond .eq 11, 3) := by decide +kernel
theorem dX11_here_28 : decode cX11_here 28 = .ok (.aload_n 0, 1) := by decide +kernel
theorem dX11_here_29 : decode cX11_here 29 = .ok (.iload_n 3, 1) := by decide +kernel
theorem dX11_here_30 : decode cX11_here 30 = .ok (.invokevirtual 207, 3) := by decide +kernel
theorem dX11_here_33 : decode cX11_here 33 = .ok (.goto 9, 3) := by decide +kernel
theorem dX11_here_36 : decode cX11_here 36 = .ok (.aload_n 0, 1) := by decide +kernel
theorem dX11_here_37 : decode cX11_here 37 = .ok (.iload_n 1, 1) := by decide +kernel
theorem dX11_here_38 : decode cX11_here 38 = .ok (.iload_n 2, 1) := by decide +kernel
theorem dX11_here_39 : decode cX11_here 39 = .ok (.invokevirtual 262, 3) := by decide +kernel
theorem dX11_here_42 : decode cX11_here 42 = .ok (.ireturn, 1) := by decide +kernel
theorem dX11_feed_0 : decode cX11_feed 0 = .ok (.iload_n 1, 1) := by decide +kernel
theorem dX11_feed_1 : decode cX11_feed 1 = .ok (.i2l, 1) := by decide +kernel
theorem dX11_feed_2 : decode cX11_feed 2 = .ok (.lconst 1, 1) := by decide +kernel
theorem dX11_feed_3 : decode cX11_feed 3 = .ok (.ldc2_w 265, 3) := by decide +kernel
theorem dX11_feed_6 : decode cX11_feed 6 = .ok (.invokestatic 203, 3) := by decide +kernel
theorem dX11_feed_9 : decode cX11_feed 9 = .ok (.istore 4, 2) := by decide +kernel
theorem dX11_feed_11 : decode cX11_feed 11 = .ok (.iload 4, 2) := by decide +kernel
theorem dX11_feed_13 : decode cX11_feed 13 = .ok (.ifCond .ne 18, 3) := by decide +kernel
theorem dX11_feed_16 : decode cX11_feed 16 = .ok (.aload_n 0, 1) := by decide +kernel
theorem dX11_feed_17 : decode cX11_feed 17 = .ok (.getfield 267, 3) := by decide +kernel
theorem dX11_feed_20 : decode cX11_feed 20 = .ok (.iload_n 1, 1) := by decide +kernel
theorem dX11_feed_21 : decode cX11_feed 21 = .ok (.iadd, 1) := by decide +kernel
theorem dX11_feed_22 : decode cX11_feed 22 = .ok (.bipush 60, 2) := by decide +kernel
theorem dX11_feed_24 : decode cX11_feed 24 = .ok (.if_icmp .le 7, 3) := by decide +kernel
theorem dX11_feed_27 : decode cX11_feed 27 = .ok (.bipush (-6), 2) := by decide +kernel
theorem dX11_feed_29 : decode cX11_feed 29 = .ok (.istore 4, 2) := by decide +kernel
theorem dX11_feed_31 : decode cX11_feed 31 = .ok (.iload 4, 2) := by decide +kernel
theorem dX11_feed_33 : decode cX11_feed 33 = .ok (.ifCond .eq 10, 3) := by decide +kernel
theorem dX11_feed_36 : decode cX11_feed 36 = .ok (.aload_n 0, 1) := by decide +kernel
theorem dX11_feed_37 : decode cX11_feed 37 = .ok (.iload 4, 2) := by decide +kernel
theorem dX11_feed_39 : decode cX11_feed 39 = .ok (.invokevirtual 207, 3) := by decide +kernel
theorem dX11_feed_42 : decode cX11_feed 42 = .ok (.ireturn, 1) := by decide +kernel
theorem dX11_feed_43 : decode cX11_feed 43 = .ok (.iconst 0, 1) := by decide +kernel
theorem dX11_feed_44 : decode cX11_feed 44 = .ok (.istore 5, 2) := by decide +kernel
theorem dX11_feed_46 : decode cX11_feed 46 = .ok (.iload 5, 2) := by decide +kernel
theorem dX11_feed_48 : decode cX11_feed 48 = .ok (.iload_n 1, 1) := by decide +kernel
theorem dX11_feed_49 : decode cX11_feed 49 = .ok (.if_icmp .ge 40, 3) := by decide +kernel
theorem dX11_feed_52 : decode cX11_feed 52 = .ok (.aload_n 0, 1) := by decide +kernel
theorem dX11_feed_53 : decode cX11_feed 53 = .ok (.getfield 43, 3) := by decide +kernel
theorem dX11_feed_56 : decode cX11_feed 56 = .ok (.aload_n 0, 1) := by decide +kernel
theorem dX11_feed_57 : decode cX11_feed 57 = .ok (.getfield 267, 3) := by decide +kernel
theorem dX11_feed_60 : decode cX11_feed 60 = .ok (.lload_n 2, 1) := by decide +kernel
