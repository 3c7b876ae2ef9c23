theorem dX2_turnMarks_31 : decode cX2_turnMarks 31 = .ok (.istore 5, 2) := by decide +kernel
theorem dX2_turnMarks_33 : decode cX2_turnMarks 33 = .ok (.iconst 0, 1) := by decide +kernel
theorem dX2_turnMarks_34 : decode cX2_turnMarks 34 = .ok (.istore 6, 2) := by decide +kernel
theorem dX2_turnMarks_36 : decode cX2_turnMarks 36 = .ok (.iload 6, 2) := by decide +kernel
theorem dX2_turnMarks_38 : decode cX2_turnMarks 38 = .ok (.iconst 4, 1) := by decide +kernel
theorem dX2_turnMarks_39 : decode cX2_turnMarks 39 = .ok (.if_icmp .ge 78, 3) := by decide +kernel
theorem dX2_turnMarks_42 : decode cX2_turnMarks 42 = .ok (.iload 6, 2) := by decide +kernel
theorem dX2_turnMarks_44 : decode cX2_turnMarks 44 = .ok (.bipush 40, 2) := by decide +kernel
theorem dX2_turnMarks_46 : decode cX2_turnMarks 46 = .ok (.imul, 1) := by decide +kernel
theorem dX2_turnMarks_47 : decode cX2_turnMarks 47 = .ok (.iload_n 2, 1) := by decide +kernel
theorem dX2_turnMarks_48 : decode cX2_turnMarks 48 = .ok (.iadd, 1) := by decide +kernel
theorem dX2_turnMarks_49 : decode cX2_turnMarks 49 = .ok (.istore 7, 2) := by decide +kernel
theorem dX2_turnMarks_51 : decode cX2_turnMarks 51 = .ok (.aload_n 0, 1) := by decide +kernel
theorem dX2_turnMarks_52 : decode cX2_turnMarks 52 = .ok (.getfield 9, 3) := by decide +kernel
theorem dX2_turnMarks_55 : decode cX2_turnMarks 55 = .ok (.iload 7, 2) := by decide +kernel
theorem dX2_turnMarks_57 : decode cX2_turnMarks 57 = .ok (.iload_n 3, 1) := by decide +kernel
theorem dX2_turnMarks_58 : decode cX2_turnMarks 58 = .ok (.iastore, 1) := by decide +kernel
theorem dX2_turnMarks_59 : decode cX2_turnMarks 59 = .ok (.aload_n 0, 1) := by decide +kernel
theorem dX2_turnMarks_60 : decode cX2_turnMarks 60 = .ok (.getfield 15, 3) := by decide +kernel
theorem dX2_turnMarks_63 : decode cX2_turnMarks 63 = .ok (.iload 7, 2) := by decide +kernel
theorem dX2_turnMarks_65 : decode cX2_turnMarks 65 = .ok (.iload 4, 2) := by decide +kernel
theorem dX2_turnMarks_67 : decode cX2_turnMarks 67 = .ok (.iastore, 1) := by decide +kernel
theorem dX2_turnMarks_68 : decode cX2_turnMarks 68 = .ok (.aload_n 0, 1) := by decide +kernel
theorem dX2_turnMarks_69 : decode cX2_turnMarks 69 = .ok (.getfield 18, 3) := by decide +kernel
theorem dX2_turnMarks_72 : decode cX2_turnMarks 72 = .ok (.iload 7, 2) := by decide +kernel
theorem dX2_turnMarks_74 : decode cX2_turnMarks 74 = .ok (.iload 5, 2) := by decide +kernel
theorem dX2_turnMarks_76 : decode cX2_turnMarks 76 = .ok (.iastore, 1) := by decide +kernel
theorem dX2_turnMarks_77 : decode cX2_turnMarks 77 = .ok (.iload_n 3, 1) := by decide +kernel
theorem dX2_turnMarks_78 : decode cX2_turnMarks 78 = .ok (.istore 8, 2) := by decide +kernel
theorem dX2_turnMarks_80 : decode cX2_turnMarks 80 = .ok (.bipush 23, 2) := by decide +kernel
theorem dX2_turnMarks_82 : decode cX2_turnMarks 82 = .ok (.iload 4, 2) := by decide +kernel
theorem dX2_turnMarks_84 : decode cX2_turnMarks 84 = .ok (.isub, 1) := by decide +kernel
theorem dX2_turnMarks_85 : decode cX2_turnMarks 85 = .ok (.istore_n 3, 1) := by decide +kernel
theorem dX2_turnMarks_86 : decode cX2_turnMarks 86 = .ok (.iload 8, 2) := by decide +kernel
theorem dX2_turnMarks_88 : decode cX2_turnMarks 88 = .ok (.istore 4, 2) := by decide +kernel
theorem dX2_turnMarks_90 : decode cX2_turnMarks 90 = .ok (.iload 5, 2) := by decide +kernel
theorem dX2_turnMarks_92 : decode cX2_turnMarks 92 = .ok (.bipush 8, 2) := by decide +kernel
theorem dX2_turnMarks_94 : decode cX2_turnMarks 94 = .ok (.if_icmp .ne 8, 3) := by decide +kernel
theorem dX2_turnMarks_97 : decode cX2_turnMarks 97 = .ok (.bipush 8, 2) := by decide +kernel
theorem dX2_turnMarks_99 : decode cX2_turnMarks 99 = .ok (.goto 10, 3) := by decide +kernel
theorem dX2_turnMarks_102 : decode cX2_turnMarks 102 = .ok (.iload 5, 2) := by decide +kernel
theorem dX2_turnMarks_104 : decode cX2_turnMarks 104 = .ok (.iconst 2, 1) := by decide +kernel
theorem dX2_turnMarks_105 : decode cX2_turnMarks 105 = .ok (.iadd, 1) := by decide +kernel
theorem dX2_turnMarks_106 : decode cX2_turnMarks 106 = .ok (.bipush 7, 2) := by decide +kernel
theorem dX2_turnMarks_108 : decode cX2_turnMarks 108 = .ok (.iand, 1) := by decide +kernel
theorem dX2_turnMarks_109 : decode cX2_turnMarks 109 = .ok (.istore 5, 2) := by decide +kernel
theorem dX2_turnMarks_111 : decode cX2_turnMarks 111 = .ok (.iinc 6 1, 3) := by decide +kernel
theorem dX2_turnMarks_114 : decode cX2_turnMarks 114 = .ok (.goto (-78), 3) := by decide +kernel
theorem dX2_turnMarks_117 : decode cX2_turnMarks 117 = .ok (.iinc 2 1, 3) := by decide +kernel
theorem dX2_turnMarks_120 : decode cX2_turnMarks 120 = .ok (.goto (-118), 3) := by decide +kernel
theorem dX2_turnMarks_123 : decode cX2_turnMarks 123 = .ok (.return_, 1) := by decide +kernel
theorem dX2_setAround_0 : decode cX2_setAround 0 = .ok (.iload_n 1, 1) := by decide +kernel
theorem dX2_setAround_1 : decode cX2_setAround 1 = .ok (.iload_n 2, 1) := by decide +kernel
theorem dX2_setAround_2 : decode cX2_setAround 2 = .ok (.isub, 1) := by decide +kernel
theorem dX2_setAround_3 : decode cX2_setAround 3 = .ok (.bipush 8, 2) := by decide +kernel
theorem dX2_setAround_5 : decode cX2_setAround 5 = .ok (.iadd, 1) := by decide +kernel
theorem dX2_setAround_6 : decode cX2_setAround 6 = .ok (.istore 5, 2) := by decide +kernel
theorem dX2_setAround_8 : decode cX2_setAround 8 = .ok (.iload 5, 2) := by decide +kernel
theorem dX2_setAround_10 : decode cX2_setAround 10 = .ok (.iload_n 1, 1) := by decide +kernel
theorem dX2_setAround_11 : decode cX2_setAround 11 = .ok (.iload_n 2, 1) := by decide +kernel
theorem dX2_setAround_12 : decode cX2_setAround 12 = .ok (.iadd, 1) := by decide +kernel
theorem dX2_setAround_13 : decode cX2_setAround 13 = .ok (.bipush 8, 2) := by decide +kernel
theorem dX2_setAround_15 : decode cX2_setAround 15 = .ok (.iadd, 1) := by decide +kernel
theorem dX2_setAround_16 : decode cX2_setAround 16 = .ok (.if_icmp .gt 29, 3) := by decide +kernel
theorem dX2_setAround_19 : decode cX2_setAround 19 = .ok (.iload 5, 2) := by decide +kernel
theorem dX2_setAround_21 : decode cX2_setAround 21 = .ok (.ifCond .lt 18, 3) := by decide +kernel
theorem dX2_setAround_24 : decode cX2_setAround 24 = .ok (.iload 5, 2) := by decide +kernel
theorem dX2_setAround_26 : decode cX2_setAround 26 = .ok (.aload_n 0, 1) := by decide +kernel
theorem dX2_setAround_27 : decode cX2_setAround 27 = .ok (.arraylength, 1) := by decide +kernel
theorem dX2_setAround_28 : decode cX2_setAround 28 = .ok (.if_icmp .ge 11, 3) := by decide +kernel
theorem dX2_setAround_31 : decode cX2_setAround 31 = .ok (.aload_n 0, 1) := by decide +kernel
theorem dX2_setAround_32 : decode cX2_setAround 32 = .ok (.iload 5, 2) := by decide +kernel
theorem dX2_setAround_34 : decode cX2_setAround 34 = .ok (.dup2, 1) := by decide +kernel
theorem dX2_setAround_35 : decode cX2_setAround 35 = .ok (.laload, 1) := by decide +kernel
theorem dX2_setAround_36 : decode cX2_setAround 36 = .ok (.lload_n 3, 1) := by decide +kernel
theorem dX2_setAround_37 : decode cX2_setAround 37 = .ok (.lor, 1) := by decide +kernel
theorem dX2_setAround_38 : decode cX2_setAround 38 = .ok (.lastore, 1) := by decide +kernel
theorem dX2_setAround_39 : decode cX2_setAround 39 = .ok (.iinc 5 1, 3) := by decide +kernel
theorem dX2_setAround_42 : decode cX2_setAround 42 = .ok (.goto (-34), 3) := by decide +kernel
theorem dX2_setAround_45 : decode cX2_setAround 45 = .ok (.return_, 1) := by decide +kernel
theorem dX2_setAlike_0 : decode cX2_setAlike 0 = .ok (.iload_n 1, 1) := by decide +kernel
theorem dX2_setAlike_1 : decode cX2_setAlike 1 = .ok (.bipush 8, 2) := by decide +kernel
theorem dX2_setAlike_3 : decode cX2_setAlike 3 = .ok (.if_icmp .ne 15, 3) := by decide +kernel
theorem dX2_setAlike_6 : decode cX2_setAlike 6 = .ok (.aload_n 0, 1) := by decide +kernel
theorem dX2_setAlike_7 : decode cX2_setAlike 7 = .ok (.getfield 28, 3) := by decide +kernel
theorem dX2_setAlike_10 : decode cX2_setAlike 10 = .ok (.bipush 8, 2) := by decide +kernel
theorem dX2_setAlike_12 : decode cX2_setAlike 12 = .ok (.dup2, 1) := by decide +kernel
theorem dX2_setAlike_13 : decode cX2_setAlike 13 = .ok (.laload, 1) := by decide +kernel
theorem dX2_setAlike_14 : decode cX2_setAlike 14 = .ok (.lload_n 2, 1) := by decide +kernel
theorem dX2_setAlike_15 : decode cX2_setAlike 15 = .ok (.lor, 1) := by decide +kernel
theorem dX2_setAlike_16 : decode cX2_setAlike 16 = .ok (.lastore, 1) := by decide +kernel
theorem dX2_setAlike_17 : decode cX2_setAlike 17 = .ok (.return_, 1) := by decide +kernel
theorem dX2_setAlike_18 : decode cX2_setAlike 18 = .ok (.iconst (-1), 1) := by decide +kernel
theorem dX2_setAlike_19 : decode cX2_setAlike 19 = .ok (.istore 4, 2) := by decide +kernel
theorem dX2_setAlike_21 : decode cX2_setAlike 21 = .ok (.iload 4, 2) := by decide +kernel
theorem dX2_setAlike_23 : decode cX2_setAlike 23 = .ok (.iconst 1, 1) := by decide +kernel
theorem dX2_setAlike_24 : decode cX2_setAlike 24 = .ok (.if_icmp .gt 25, 3) := by decide +kernel
theorem dX2_setAlike_27 : decode cX2_setAlike 27 = .ok (.aload_n 0, 1) := by decide +kernel
theorem dX2_setAlike_28 : decode cX2_setAlike 28 = .ok (.getfield 28, 3) := by decide +kernel
theorem dX2_setAlike_31 : decode cX2_setAlike 31 = .ok (.iload_n 1, 1) := by decide +kernel
theorem dX2_setAlike_32 : decode cX2_setAlike 32 = .ok (.iload 4, 2) := by decide +kernel
theorem dX2_setAlike_34 : decode cX2_setAlike 34 = .ok (.iadd, 1) := by decide +kernel
theorem dX2_setAlike_35 : decode cX2_setAlike 35 = .ok (.bipush 7, 2) := by decide +kernel
theorem dX2_setAlike_37 : decode cX2_setAlike 37 = .ok (.iand, 1) := by decide +kernel
theorem dX2_setAlike_38 : decode cX2_setAlike 38 = .ok (.dup2, 1) := by decide +kernel
theorem dX2_setAlike_39 : decode cX2_setAlike 39 = .ok (.laload, 1) := by decide +kernel
theorem dX2_setAlike_40 : decode cX2_setAlike 40 = .ok (.lload_n 2, 1) := by decide +kernel
theorem dX2_setAlike_41 : decode cX2_setAlike 41 = .ok (.lor, 1) := by decide +kernel
theorem dX2_setAlike_42 : decode cX2_setAlike 42 = .ok (.lastore, 1) := by decide +kernel
theorem dX2_setAlike_43 : decode cX2_setAlike 43 = .ok (.iinc 4 1, 3) := by decide +kernel
theorem dX2_setAlike_46 : decode cX2_setAlike 46 = .ok (.goto (-25), 3) := by decide +kernel
theorem dX2_setAlike_49 : decode cX2_setAlike 49 = .ok (.return_, 1) := by decide +kernel
set_option maxRecDepth 20000 in
theorem ggX2_mostPairs_X2_gatherChoices : GoodIn wsX2_mostPairs wsX2_gatherChoices := goodIn_r _ [9, 2, 10, 11, 12, 13, 4, 14, 15, 16, 17, 18, 19, 20, 21, 22, 23, 24, 25, 26, 42, 43, 44, 45, 46, 47, 48, 49, 50, 51, 52, 53, 54] (by decide +kernel) (by decide +kernel)
set_option maxRecDepth 20000 in
theorem gX2_mostPairs_X2_gatherChoices : GoodIn wsX2_mostPairs (wsV RX2 90 RX2 yX2_gatherChoices wsX2_gatherChoices) := goodIn_app (goodIn_of _ (by decide +kernel)) ggX2_mostPairs_X2_gatherChoices
set_option maxRecDepth 20000 in
theorem ggX2_mostPairs_X2_findMate : GoodIn wsX2_mostPairs wsX2_findMate := goodIn_r _ [30, 31, 4, 1, 32, 33, 34, 35, 36, 8, 37, 16, 17, 18, 19, 20, 21, 22, 23, 24, 25, 26, 38, 39, 40, 41, 3, 42, 43, 44, 45, 46, 47, 48, 49, 50, 51, 52, 53, 54] (by decide +kernel) (by decide +kernel)
set_option maxRecDepth 20000 in
theorem gX2_mostPairs_X2_findMate : GoodIn wsX2_mostPairs (wsV RX2 94 RX2 yX2_findMate wsX2_findMate) := goodIn_app (goodIn_of _ (by decide +kernel)) ggX2_mostPairs_X2_findMate
theorem dX2_mostPairs_0 : decode cX2_mostPairs 0 = .ok (.aload_n 0, 1) := by decide +kernel
theorem dX2_mostPairs_1 : decode cX2_mostPairs 1 = .ok (.iload_n 1, 1) := by decide +kernel
theorem dX2_mostPairs_2 : decode cX2_mostPairs 2 = .ok (.iload_n 2, 1) := by decide +kernel
theorem dX2_mostPairs_3 : decode cX2_mostPairs 3 = .ok (.iload_n 3, 1) := by decide +kernel
theorem dX2_mostPairs_4 : decode cX2_mostPairs 4 = .ok (.invokevirtual 90, 3) := by decide +kernel
theorem dX2_mostPairs_7 : decode cX2_mostPairs 7 = .ok (.istore 5, 2) := by decide +kernel
theorem dX2_mostPairs_9 : decode cX2_mostPairs 9 = .ok (.iload 5, 2) := by decide +kernel
theorem dX2_mostPairs_11 : decode cX2_mostPairs 11 = .ok (.iload 4, 2) := by decide +kernel
theorem dX2_mostPairs_13 : decode cX2_mostPairs 13 = .ok (.if_icmp .gt 6, 3) := by decide +kernel
theorem dX2_mostPairs_16 : decode cX2_mostPairs 16 = .ok (.iload 5, 2) := by decide +kernel
theorem dX2_mostPairs_18 : decode cX2_mostPairs 18 = .ok (.ireturn, 1) := by decide +kernel
theorem dX2_mostPairs_19 : decode cX2_mostPairs 19 = .ok (.aload_n 0, 1) := by decide +kernel
theorem dX2_mostPairs_20 : decode cX2_mostPairs 20 = .ok (.lconst 0, 1) := by decide +kernel
theorem dX2_mostPairs_21 : decode cX2_mostPairs 21 = .ok (.putfield 50, 3) := by decide +kernel
theorem dX2_mostPairs_24 : decode cX2_mostPairs 24 = .ok (.iconst 0, 1) := by decide +kernel
theorem dX2_mostPairs_25 : decode cX2_mostPairs 25 = .ok (.istore 6, 2) := by decide +kernel
theorem dX2_mostPairs_27 : decode cX2_mostPairs 27 = .ok (.iload 6, 2) := by decide +kernel
theorem dX2_mostPairs_29 : decode cX2_mostPairs 29 = .ok (.aload_n 0, 1) := by decide +kernel
theorem dX2_mostPairs_30 : decode cX2_mostPairs 30 = .ok (.getfield 46, 3) := by decide +kernel
theorem dX2_mostPairs_33 : decode cX2_mostPairs 33 = .ok (.if_icmp .ge 17, 3) := by decide +kernel
theorem dX2_mostPairs_36 : decode cX2_mostPairs 36 = .ok (.aload_n 0, 1) := by decide +kernel
theorem dX2_mostPairs_37 : decode cX2_mostPairs 37 = .ok (.getfield 34, 3) := by decide +kernel
theorem dX2_mostPairs_40 : decode cX2_mostPairs 40 = .ok (.iload 6, 2) := by decide +kernel
theorem dX2_mostPairs_42 : decode cX2_mostPairs 42 = .ok (.iconst (-1), 1) := by decide +kernel
theorem dX2_mostPairs_43 : decode cX2_mostPairs 43 = .ok (.iastore, 1) := by decide +kernel
theorem dX2_mostPairs_44 : decode cX2_mostPairs 44 = .ok (.iinc 6 1, 3) := by decide +kernel
theorem dX2_mostPairs_47 : decode cX2_mostPairs 47 = .ok (.goto (-20), 3) := by decide +kernel
theorem dX2_mostPairs_50 : decode cX2_mostPairs 50 = .ok (.iconst 0, 1) := by decide +kernel
theorem dX2_mostPairs_51 : decode cX2_mostPairs 51 = .ok (.istore 6, 2) := by decide +kernel
theorem dX2_mostPairs_53 : decode cX2_mostPairs 53 = .ok (.iconst 0, 1) := by decide +kernel
theorem dX2_mostPairs_54 : decode cX2_mostPairs 54 = .ok (.istore 7, 2) := by decide +kernel
theorem dX2_mostPairs_56 : decode cX2_mostPairs 56 = .ok (.iload 7, 2) := by decide +kernel
theorem dX2_mostPairs_58 : decode cX2_mostPairs 58 = .ok (.aload_n 0, 1) := by decide +kernel
theorem dX2_mostPairs_59 : decode cX2_mostPairs 59 = .ok (.getfield 46, 3) := by decide +kernel
theorem dX2_mostPairs_62 : decode cX2_mostPairs 62 = .ok (.if_icmp .ge 33, 3) := by decide +kernel
theorem dX2_mostPairs_65 : decode cX2_mostPairs 65 = .ok (.aload_n 0, 1) := by decide +kernel
theorem dX2_mostPairs_66 : decode cX2_mostPairs 66 = .ok (.getfield 31, 3) := by decide +kernel
theorem dX2_mostPairs_69 : decode cX2_mostPairs 69 = .ok (.iload 7, 2) := by decide +kernel
theorem dX2_mostPairs_71 : decode cX2_mostPairs 71 = .ok (.laload, 1) := by decide +kernel
theorem dX2_mostPairs_72 : decode cX2_mostPairs 72 = .ok (.lconst 0, 1) := by decide +kernel
theorem dX2_mostPairs_73 : decode cX2_mostPairs 73 = .ok (.lcmp, 1) := by decide +kernel
theorem dX2_mostPairs_74 : decode cX2_mostPairs 74 = .ok (.ifCond .eq 15, 3) := by decide +kernel
theorem dX2_mostPairs_77 : decode cX2_mostPairs 77 = .ok (.aload_n 0, 1) := by decide +kernel
theorem dX2_mostPairs_78 : decode cX2_mostPairs 78 = .ok (.iload 7, 2) := by decide +kernel
theorem dX2_mostPairs_80 : decode cX2_mostPairs 80 = .ok (.invokevirtual 94, 3) := by decide +kernel
theorem dX2_mostPairs_83 : decode cX2_mostPairs 83 = .ok (.ifCond .eq 6, 3) := by decide +kernel
theorem dX2_mostPairs_86 : decode cX2_mostPairs 86 = .ok (.iinc 6 1, 3) := by decide +kernel
theorem dX2_mostPairs_89 : decode cX2_mostPairs 89 = .ok (.iinc 7 1, 3) := by decide +kernel
theorem dX2_mostPairs_92 : decode cX2_mostPairs 92 = .ok (.goto (-36), 3) := by decide +kernel
theorem dX2_mostPairs_95 : decode cX2_mostPairs 95 = .ok (.iload 6, 2) := by decide +kernel
theorem dX2_mostPairs_97 : decode cX2_mostPairs 97 = .ok (.ireturn, 1) := by decide +kernel
set_option maxRecDepth 20000 in
theorem ggX2_gatherChoices_J13_bitCount_95d88 : GoodIn wsX2_gatherChoices wsJ13_bitCount_95d88 := goodIn_r _ [16, 17, 18, 19] (by decide +kernel) (by decide +kernel)
set_option maxRecDepth 20000 in
theorem gX2_gatherChoices_J13_bitCount_95d88 : GoodIn wsX2_gatherChoices (va_wsS RX2 98 yJ13_bitCount_95d88 wsJ13_bitCount_95d88) := goodIn_app (goodIn_of _ (by decide +kernel)) ggX2_gatherChoices_J13_bitCount_95d88
theorem dX2_gatherChoices_0 : decode cX2_gatherChoices 0 = .ok (.iconst 0, 1) := by decide +kernel
theorem dX2_gatherChoices_1 : decode cX2_gatherChoices 1 = .ok (.istore 4, 2) := by decide +kernel
theorem dX2_gatherChoices_3 : decode cX2_gatherChoices 3 = .ok (.lconst 0, 1) := by decide +kernel
theorem dX2_gatherChoices_4 : decode cX2_gatherChoices 4 = .ok (.lstore 5, 2) := by decide +kernel
theorem dX2_gatherChoices_6 : decode cX2_gatherChoices 6 = .ok (.iconst 0, 1) := by decide +kernel
theorem dX2_gatherChoices_7 : decode cX2_gatherChoices 7 = .ok (.istore 7, 2) := by decide +kernel
theorem dX2_gatherChoices_9 : decode cX2_gatherChoices 9 = .ok (.iload 7, 2) := by decide +kernel
theorem dX2_gatherChoices_11 : decode cX2_gatherChoices 11 = .ok (.aload_n 0, 1) := by decide +kernel
theorem dX2_gatherChoices_12 : decode cX2_gatherChoices 12 = .ok (.getfield 46, 3) := by decide +kernel
theorem dX2_gatherChoices_15 : decode cX2_gatherChoices 15 = .ok (.if_icmp .ge 186, 3) := by decide +kernel
theorem dX2_gatherChoices_18 : decode cX2_gatherChoices 18 = .ok (.iload_n 1, 1) := by decide +kernel
theorem dX2_gatherChoices_19 : decode cX2_gatherChoices 19 = .ok (.bipush 40, 2) := by decide +kernel
theorem dX2_gatherChoices_21 : decode cX2_gatherChoices 21 = .ok (.imul, 1) := by decide +kernel
theorem dX2_gatherChoices_22 : decode cX2_gatherChoices 22 = .ok (.iload 7, 2) := by decide +kernel
theorem dX2_gatherChoices_24 : decode cX2_gatherChoices 24 = .ok (.iadd, 1) := by decide +kernel
theorem dX2_gatherChoices_25 : decode cX2_gatherChoices 25 = .ok (.istore 8, 2) := by decide +kernel
theorem dX2_gatherChoices_27 : decode cX2_gatherChoices 27 = .ok (.aload_n 0, 1) := by decide +kernel
theorem dX2_gatherChoices_28 : decode cX2_gatherChoices 28 = .ok (.getfield 9, 3) := by decide +kernel
theorem dX2_gatherChoices_31 : decode cX2_gatherChoices 31 = .ok (.iload 8, 2) := by decide +kernel
theorem dX2_gatherChoices_33 : decode cX2_gatherChoices 33 = .ok (.iaload, 1) := by decide +kernel
theorem dX2_gatherChoices_34 : decode cX2_gatherChoices 34 = .ok (.iload_n 2, 1) := by decide +kernel
theorem dX2_gatherChoices_35 : decode cX2_gatherChoices 35 = .ok (.iadd, 1) := by decide +kernel
theorem dX2_gatherChoices_36 : decode cX2_gatherChoices 36 = .ok (.bipush 8, 2) := by decide +kernel
theorem dX2_gatherChoices_38 : decode cX2_gatherChoices 38 = .ok (.iadd, 1) := by decide +kernel
theorem dX2_gatherChoices_39 : decode cX2_gatherChoices 39 = .ok (.istore 9, 2) := by decide +kernel
theorem dX2_gatherChoices_41 : decode cX2_gatherChoices 41 = .ok (.aload_n 0, 1) := by decide +kernel
theorem dX2_gatherChoices_42 : decode cX2_gatherChoices 42 = .ok (.getfield 15, 3) := by decide +kernel
theorem dX2_gatherChoices_45 : decode cX2_gatherChoices 45 = .ok (.iload 8, 2) := by decide +kernel
theorem dX2_gatherChoices_47 : decode cX2_gatherChoices 47 = .ok (.iaload, 1) := by decide +kernel
theorem dX2_gatherChoices_48 : decode cX2_gatherChoices 48 = .ok (.iload_n 3, 1) := by decide +kernel
theorem dX2_gatherChoices_49 : decode cX2_gatherChoices 49 = .ok (.iadd, 1) := by decide +kernel
theorem dX2_gatherChoices_50 : decode cX2_gatherChoices 50 = .ok (.bipush 8, 2) := by decide +kernel
theorem dX2_gatherChoices_52 : decode cX2_gatherChoices 52 = .ok (.iadd, 1) := by decide +kernel
theorem dX2_gatherChoices_53 : decode cX2_gatherChoices 53 = .ok (.istore 10, 2) := by decide +kernel
theorem dX2_gatherChoices_55 : decode cX2_gatherChoices 55 = .ok (.aload_n 0, 1) := by decide +kernel
theorem dX2_gatherChoices_56 : decode cX2_gatherChoices 56 = .ok (.getfield 18, 3) := by decide +kernel
theorem dX2_gatherChoices_59 : decode cX2_gatherChoices 59 = .ok (.iload 8, 2) := by decide +kernel
theorem dX2_gatherChoices_61 : decode cX2_gatherChoices 61 = .ok (.iaload, 1) := by decide +kernel
theorem dX2_gatherChoices_62 : decode cX2_gatherChoices 62 = .ok (.istore 11, 2) := by decide +kernel
theorem dX2_gatherChoices_64 : decode cX2_gatherChoices 64 = .ok (.iload 9, 2) := by decide +kernel
theorem dX2_gatherChoices_66 : decode cX2_gatherChoices 66 = .ok (.ifCond .lt 26, 3) := by decide +kernel
theorem dX2_gatherChoices_69 : decode cX2_gatherChoices 69 = .ok (.iload 9, 2) := by decide +kernel
theorem dX2_gatherChoices_71 : decode cX2_gatherChoices 71 = .ok (.bipush 40, 2) := by decide +kernel
theorem dX2_gatherChoices_73 : decode cX2_gatherChoices 73 = .ok (.if_icmp .ge 19, 3) := by decide +kernel
theorem dX2_gatherChoices_76 : decode cX2_gatherChoices 76 = .ok (.iload 10, 2) := by decide +kernel
theorem dX2_gatherChoices_78 : decode cX2_gatherChoices 78 = .ok (.ifCond .lt 14, 3) := by decide +kernel
theorem dX2_gatherChoices_81 : decode cX2_gatherChoices 81 = .ok (.iload 10, 2) := by decide +kernel
theorem dX2_gatherChoices_83 : decode cX2_gatherChoices 83 = .ok (.bipush 40, 2) := by decide +kernel
theorem dX2_gatherChoices_85 : decode cX2_gatherChoices 85 = .ok (.if_icmp .ge 7, 3) := by decide +kernel
theorem dX2_gatherChoices_88 : decode cX2_gatherChoices 88 = .ok (.iconst 1, 1) := by decide +kernel
theorem dX2_gatherChoices_89 : decode cX2_gatherChoices 89 = .ok (.goto 4, 3) := by decide +kernel
theorem dX2_gatherChoices_92 : decode cX2_gatherChoices 92 = .ok (.iconst 0, 1) := by decide +kernel
theorem dX2_gatherChoices_93 : decode cX2_gatherChoices 93 = .ok (.istore 12, 2) := by decide +kernel
theorem dX2_gatherChoices_95 : decode cX2_gatherChoices 95 = .ok (.iload 11, 2) := by decide +kernel
theorem dX2_gatherChoices_97 : decode cX2_gatherChoices 97 = .ok (.ifCond .lt 17, 3) := by decide +kernel
theorem dX2_gatherChoices_100 : decode cX2_gatherChoices 100 = .ok (.iload 11, 2) := by decide +kernel
theorem dX2_gatherChoices_102 : decode cX2_gatherChoices 102 = .ok (.aload_n 0, 1) := by decide +kernel
theorem dX2_gatherChoices_103 : decode cX2_gatherChoices 103 = .ok (.getfield 28, 3) := by decide +kernel
theorem dX2_gatherChoices_106 : decode cX2_gatherChoices 106 = .ok (.arraylength, 1) := by decide +kernel
theorem dX2_gatherChoices_107 : decode cX2_gatherChoices 107 = .ok (.if_icmp .ge 7, 3) := by decide +kernel
theorem dX2_gatherChoices_110 : decode cX2_gatherChoices 110 = .ok (.iconst 1, 1) := by decide +kernel
theorem dX2_gatherChoices_111 : decode cX2_gatherChoices 111 = .ok (.goto 4, 3) := by decide +kernel
theorem dX2_gatherChoices_114 : decode cX2_gatherChoices 114 = .ok (.iconst 0, 1) := by decide +kernel
theorem dX2_gatherChoices_115 : decode cX2_gatherChoices 115 = .ok (.istore 13, 2) := by decide +kernel
theorem dX2_gatherChoices_117 : decode cX2_gatherChoices 117 = .ok (.aload_n 0, 1) := by decide +kernel
theorem dX2_gatherChoices_118 : decode cX2_gatherChoices 118 = .ok (.getfield 31, 3) := by decide +kernel
theorem dX2_gatherChoices_121 : decode cX2_gatherChoices 121 = .ok (.iload 7, 2) := by decide +kernel
theorem dX2_gatherChoices_123 : decode cX2_gatherChoices 123 = .ok (.iload 12, 2) := by decide +kernel
theorem dX2_gatherChoices_125 : decode cX2_gatherChoices 125 = .ok (.ifCond .eq 34, 3) := by decide +kernel
theorem dX2_gatherChoices_128 : decode cX2_gatherChoices 128 = .ok (.iload 13, 2) := by decide +kernel
theorem dX2_gatherChoices_130 : decode cX2_gatherChoices 130 = .ok (.ifCond .eq 29, 3) := by decide +kernel
theorem dX2_gatherChoices_133 : decode cX2_gatherChoices 133 = .ok (.aload_n 0, 1) := by decide +kernel
theorem dX2_gatherChoices_134 : decode cX2_gatherChoices 134 = .ok (.getfield 28, 3) := by decide +kernel
theorem dX2_gatherChoices_137 : decode cX2_gatherChoices 137 = .ok (.iload 11, 2) := by decide +kernel
theorem dX2_gatherChoices_139 : decode cX2_gatherChoices 139 = .ok (.laload, 1) := by decide +kernel
theorem dX2_gatherChoices_140 : decode cX2_gatherChoices 140 = .ok (.aload_n 0, 1) := by decide +kernel
theorem dX2_gatherChoices_141 : decode cX2_gatherChoices 141 = .ok (.getfield 21, 3) := by decide +kernel
theorem dX2_gatherChoices_144 : decode cX2_gatherChoices 144 = .ok (.iload 9, 2) := by decide +kernel
theorem dX2_gatherChoices_146 : decode cX2_gatherChoices 146 = .ok (.laload, 1) := by decide +kernel
theorem dX2_gatherChoices_147 : decode cX2_gatherChoices 147 = .ok (.land, 1) := by decide +kernel
theorem dX2_gatherChoices_148 : decode cX2_gatherChoices 148 = .ok (.aload_n 0, 1) := by decide +kernel
theorem dX2_gatherChoices_149 : decode cX2_gatherChoices 149 = .ok (.getfield 25, 3) := by decide +kernel
theorem dX2_gatherChoices_152 : decode cX2_gatherChoices 152 = .ok (.iload 10, 2) := by decide +kernel
theorem dX2_gatherChoices_154 : decode cX2_gatherChoices 154 = .ok (.laload, 1) := by decide +kernel
theorem dX2_gatherChoices_155 : decode cX2_gatherChoices 155 = .ok (.land, 1) := by decide +kernel
theorem dX2_gatherChoices_156 : decode cX2_gatherChoices 156 = .ok (.goto 4, 3) := by decide +kernel
theorem dX2_gatherChoices_159 : decode cX2_gatherChoices 159 = .ok (.lconst 0, 1) := by decide +kernel
theorem dX2_gatherChoices_160 : decode cX2_gatherChoices 160 = .ok (.lastore, 1) := by decide +kernel
theorem dX2_gatherChoices_161 : decode cX2_gatherChoices 161 = .ok (.lload 5, 2) := by decide +kernel
theorem dX2_gatherChoices_163 : decode cX2_gatherChoices 163 = .ok (.aload_n 0, 1) := by decide +kernel
theorem dX2_gatherChoices_164 : decode cX2_gatherChoices 164 = .ok (.getfield 31, 3) := by decide +kernel
theorem dX2_gatherChoices_167 : decode cX2_gatherChoices 167 = .ok (.iload 7, 2) := by decide +kernel
theorem dX2_gatherChoices_169 : decode cX2_gatherChoices 169 = .ok (.laload, 1) := by decide +kernel
theorem dX2_gatherChoices_170 : decode cX2_gatherChoices 170 = .ok (.lor, 1) := by decide +kernel
theorem dX2_gatherChoices_171 : decode cX2_gatherChoices 171 = .ok (.lstore 5, 2) := by decide +kernel
theorem dX2_gatherChoices_173 : decode cX2_gatherChoices 173 = .ok (.iload 4, 2) := by decide +kernel
theorem dX2_gatherChoices_175 : decode cX2_gatherChoices 175 = .ok (.aload_n 0, 1) := by decide +kernel
theorem dX2_gatherChoices_176 : decode cX2_gatherChoices 176 = .ok (.getfield 31, 3) := by decide +kernel
theorem dX2_gatherChoices_179 : decode cX2_gatherChoices 179 = .ok (.iload 7, 2) := by decide +kernel
theorem dX2_gatherChoices_181 : decode cX2_gatherChoices 181 = .ok (.laload, 1) := by decide +kernel
theorem dX2_gatherChoices_182 : decode cX2_gatherChoices 182 = .ok (.lconst 0, 1) := by decide +kernel
theorem dX2_gatherChoices_183 : decode cX2_gatherChoices 183 = .ok (.lcmp, 1) := by decide +kernel
theorem dX2_gatherChoices_184 : decode cX2_gatherChoices 184 = .ok (.ifCond .eq 7, 3) := by decide +kernel
theorem dX2_gatherChoices_187 : decode cX2_gatherChoices 187 = .ok (.iconst 1, 1) := by decide +kernel
theorem dX2_gatherChoices_188 : decode cX2_gatherChoices 188 = .ok (.goto 4, 3) := by decide +kernel
theorem dX2_gatherChoices_191 : decode cX2_gatherChoices 191 = .ok (.iconst 0, 1) := by decide +kernel
theorem dX2_gatherChoices_192 : decode cX2_gatherChoices 192 = .ok (.iadd, 1) := by decide +kernel
theorem dX2_gatherChoices_193 : decode cX2_gatherChoices 193 = .ok (.istore 4, 2) := by decide +kernel
theorem dX2_gatherChoices_195 : decode cX2_gatherChoices 195 = .ok (.iinc 7 1, 3) := by decide +kernel
theorem dX2_gatherChoices_198 : decode cX2_gatherChoices 198 = .ok (.goto (-189), 3) := by decide +kernel
theorem dX2_gatherChoices_201 : decode cX2_gatherChoices 201 = .ok (.iload 4, 2) := by decide +kernel
theorem dX2_gatherChoices_203 : decode cX2_gatherChoices 203 = .ok (.lload 5, 2) := by decide +kernel
theorem dX2_gatherChoices_205 : decode cX2_gatherChoices 205 = .ok (.invokestatic 98, 3) := by decide +kernel
theorem dX2_gatherChoices_208 : decode cX2_gatherChoices 208 = .ok (.invokestatic 59, 3) := by decide +kernel
theorem dX2_gatherChoices_211 : decode cX2_gatherChoices 211 = .ok (.ireturn, 1) := by decide +kernel
set_option maxRecDepth 20000 in
theorem ggX2_findMate_X2_lowest : GoodIn wsX2_findMate wsX2_lowest := goodIn_r _ [10, 11, 12, 13, 14, 15, 16, 17, 18, 19, 20, 21] (by decide +kernel) (by decide +kernel)
set_option maxRecDepth 20000 in
theorem gX2_findMate_X2_lowest : GoodIn wsX2_findMate (va_wsS RX2 106 yX2_lowest wsX2_lowest) := goodIn_app (goodIn_of _ (by decide +kernel)) ggX2_findMate_X2_lowest
set_option maxRecDepth 20000 in
theorem ggX2_findMate_X2_pairAlong : GoodIn wsX2_findMate wsX2_pairAlong := goodIn_r _ [25, 3, 26, 6, 5, 27, 28, 29, 30, 31, 32, 33, 34, 35, 36, 37, 38, 39] (by decide +kernel) (by decide +kernel)
set_option maxRecDepth 20000 in
theorem gX2_findMate_X2_pairAlong : GoodIn wsX2_findMate (wsV RX2 109 RX2 yX2_pairAlong wsX2_pairAlong) := goodIn_app (goodIn_of _ (by decide +kernel)) ggX2_findMate_X2_pairAlong
set_option maxRecDepth 20000 in
theorem ggX2_findMate_J13_bitCount_95d88 : GoodIn wsX2_findMate wsJ13_bitCount_95d88 := goodIn_r _ [18, 19, 20, 21] (by decide +kernel) (by decide +kernel)
set_option maxRecDepth 20000 in
theorem gX2_findMate_J13_bitCount_95d88 : GoodIn wsX2_findMate (va_wsS RX2 98 yJ13_bitCount_95d88 wsJ13_bitCount_95d88) := goodIn_app (goodIn_of _ (by decide +kernel)) ggX2_findMate_J13_bitCount_95d88
theorem dX2_findMate_0 : decode cX2_findMate 0 = .ok (.lconst 0, 1) := by decide +kernel
theorem dX2_findMate_1 : decode cX2_findMate 1 = .ok (.lstore_n 2, 1) := by decide +kernel
theorem dX2_findMate_2 : decode cX2_findMate 2 = .ok (.iconst 1, 1) := by decide +kernel
theorem dX2_findMate_3 : decode cX2_findMate 3 = .ok (.istore 4, 2) := by decide +kernel
theorem dX2_findMate_5 : decode cX2_findMate 5 = .ok (.aload_n 0, 1) := by decide +kernel
theorem dX2_findMate_6 : decode cX2_findMate 6 = .ok (.getfield 43, 3) := by decide +kernel
theorem dX2_findMate_9 : decode cX2_findMate 9 = .ok (.iconst 0, 1) := by decide +kernel
theorem dX2_findMate_10 : decode cX2_findMate 10 = .ok (.iload_n 1, 1) := by decide +kernel
theorem dX2_findMate_11 : decode cX2_findMate 11 = .ok (.iastore, 1) := by decide +kernel
theorem dX2_findMate_12 : decode cX2_findMate 12 = .ok (.iconst 0, 1) := by decide +kernel
theorem dX2_findMate_13 : decode cX2_findMate 13 = .ok (.istore 5, 2) := by decide +kernel
theorem dX2_findMate_15 : decode cX2_findMate 15 = .ok (.iload 5, 2) := by decide +kernel
theorem dX2_findMate_17 : decode cX2_findMate 17 = .ok (.iload 4, 2) := by decide +kernel
theorem dX2_findMate_19 : decode cX2_findMate 19 = .ok (.if_icmp .ge 164, 3) := by decide +kernel
theorem dX2_findMate_22 : decode cX2_findMate 22 = .ok (.iload 5, 2) := by decide +kernel
theorem dX2_findMate_24 : decode cX2_findMate 24 = .ok (.bipush 40, 2) := by decide +kernel
theorem dX2_findMate_26 : decode cX2_findMate 26 = .ok (.if_icmp .ge 157, 3) := by decide +kernel
theorem dX2_findMate_29 : decode cX2_findMate 29 = .ok (.aload_n 0, 1) := by decide +kernel
theorem dX2_findMate_30 : decode cX2_findMate 30 = .ok (.getfield 43, 3) := by decide +kernel
theorem dX2_findMate_33 : decode cX2_findMate 33 = .ok (.iload 5, 2) := by decide +kernel
theorem dX2_findMate_35 : decode cX2_findMate 35 = .ok (.iaload, 1) := by decide +kernel
theorem dX2_findMate_36 : decode cX2_findMate 36 = .ok (.istore 6, 2) := by decide +kernel
theorem dX2_findMate_38 : decode cX2_findMate 38 = .ok (.iload 6, 2) := by decide +kernel
theorem dX2_findMate_40 : decode cX2_findMate 40 = .ok (.ifCond .lt 10, 3) := by decide +kernel
theorem dX2_findMate_43 : decode cX2_findMate 43 = .ok (.iload 6, 2) := by decide +kernel
theorem dX2_findMate_45 : decode cX2_findMate 45 = .ok (.bipush 40, 2) := by decide +kernel
theorem dX2_findMate_47 : decode cX2_findMate 47 = .ok (.if_icmp .lt 5, 3) := by decide +kernel
theorem dX2_findMate_50 : decode cX2_findMate 50 = .ok (.iconst 0, 1) := by decide +kernel
theorem dX2_findMate_51 : decode cX2_findMate 51 = .ok (.ireturn, 1) := by decide +kernel
theorem dX2_findMate_52 : decode cX2_findMate 52 = .ok (.aload_n 0, 1) := by decide +kernel
theorem dX2_findMate_53 : decode cX2_findMate 53 = .ok (.getfield 31, 3) := by decide +kernel
theorem dX2_findMate_56 : decode cX2_findMate 56 = .ok (.iload 6, 2) := by decide +kernel
theorem dX2_findMate_58 : decode cX2_findMate 58 = .ok (.laload, 1) := by decide +kernel
theorem dX2_findMate_59 : decode cX2_findMate 59 = .ok (.aload_n 0, 1) := by decide +kernel
theorem dX2_findMate_60 : decode cX2_findMate 60 = .ok (.getfield 50, 3) := by decide +kernel
theorem dX2_findMate_63 : decode cX2_findMate 63 = .ok (.ldc2_w 104, 3) := by decide +kernel
theorem dX2_findMate_66 : decode cX2_findMate 66 = .ok (.lxor, 1) := by decide +kernel
theorem dX2_findMate_67 : decode cX2_findMate 67 = .ok (.land, 1) := by decide +kernel
theorem dX2_findMate_68 : decode cX2_findMate 68 = .ok (.lstore 7, 2) := by decide +kernel
theorem dX2_findMate_70 : decode cX2_findMate 70 = .ok (.lload 7, 2) := by decide +kernel
theorem dX2_findMate_72 : decode cX2_findMate 72 = .ok (.lconst 0, 1) := by decide +kernel
theorem dX2_findMate_73 : decode cX2_findMate 73 = .ok (.lcmp, 1) := by decide +kernel
theorem dX2_findMate_74 : decode cX2_findMate 74 = .ok (.ifCond .eq 16, 3) := by decide +kernel
theorem dX2_findMate_77 : decode cX2_findMate 77 = .ok (.aload_n 0, 1) := by decide +kernel
theorem dX2_findMate_78 : decode cX2_findMate 78 = .ok (.iload 6, 2) := by decide +kernel
theorem dX2_findMate_80 : decode cX2_findMate 80 = .ok (.lload 7, 2) := by decide +kernel
theorem dX2_findMate_82 : decode cX2_findMate 82 = .ok (.invokestatic 106, 3) := by decide +kernel
theorem dX2_findMate_85 : decode cX2_findMate 85 = .ok (.invokevirtual 109, 3) := by decide +kernel
theorem dX2_findMate_88 : decode cX2_findMate 88 = .ok (.iconst 1, 1) := by decide +kernel
theorem dX2_findMate_89 : decode cX2_findMate 89 = .ok (.ireturn, 1) := by decide +kernel
theorem dX2_findMate_90 : decode cX2_findMate 90 = .ok (.aload_n 0, 1) := by decide +kernel
theorem dX2_findMate_91 : decode cX2_findMate 91 = .ok (.getfield 31, 3) := by decide +kernel
theorem dX2_findMate_94 : decode cX2_findMate 94 = .ok (.iload 6, 2) := by decide +kernel
theorem dX2_findMate_96 : decode cX2_findMate 96 = .ok (.laload, 1) := by decide +kernel
theorem dX2_findMate_97 : decode cX2_findMate 97 = .ok (.lload_n 2, 1) := by decide +kernel
theorem dX2_findMate_98 : decode cX2_findMate 98 = .ok (.ldc2_w 104, 3) := by decide +kernel
theorem dX2_findMate_101 : decode cX2_findMate 101 = .ok (.lxor, 1) := by decide +kernel
theorem dX2_findMate_102 : decode cX2_findMate 102 = .ok (.land, 1) := by decide +kernel
theorem dX2_findMate_103 : decode cX2_findMate 103 = .ok (.lstore 9, 2) := by decide +kernel
theorem dX2_findMate_105 : decode cX2_findMate 105 = .ok (.lload_n 2, 1) := by decide +kernel
theorem dX2_findMate_106 : decode cX2_findMate 106 = .ok (.lload 9, 2) := by decide +kernel
theorem dX2_findMate_108 : decode cX2_findMate 108 = .ok (.lor, 1) := by decide +kernel
theorem dX2_findMate_109 : decode cX2_findMate 109 = .ok (.lstore_n 2, 1) := by decide +kernel
theorem dX2_findMate_110 : decode cX2_findMate 110 = .ok (.lload 9, 2) := by decide +kernel
theorem dX2_findMate_112 : decode cX2_findMate 112 = .ok (.invokestatic 98, 3) := by decide +kernel
theorem dX2_findMate_115 : decode cX2_findMate 115 = .ok (.istore 11, 2) := by decide +kernel
theorem dX2_findMate_117 : decode cX2_findMate 117 = .ok (.iload 11, 2) := by decide +kernel
theorem dX2_findMate_119 : decode cX2_findMate 119 = .ok (.ifCond .le 58, 3) := by decide +kernel
theorem dX2_findMate_122 : decode cX2_findMate 122 = .ok (.iload 4, 2) := by decide +kernel
theorem dX2_findMate_124 : decode cX2_findMate 124 = .ok (.bipush 40, 2) := by decide +kernel
theorem dX2_findMate_126 : decode cX2_findMate 126 = .ok (.if_icmp .ge 51, 3) := by decide +kernel
theorem dX2_findMate_129 : decode cX2_findMate 129 = .ok (.lload 9, 2) := by decide +kernel
theorem dX2_findMate_131 : decode cX2_findMate 131 = .ok (.invokestatic 106, 3) := by decide +kernel
theorem dX2_findMate_134 : decode cX2_findMate 134 = .ok (.istore 12, 2) := by decide +kernel
theorem dX2_findMate_136 : decode cX2_findMate 136 = .ok (.lload 9, 2) := by decide +kernel
theorem dX2_findMate_138 : decode cX2_findMate 138 = .ok (.lload 9, 2) := by decide +kernel
theorem dX2_findMate_140 : decode cX2_findMate 140 = .ok (.lconst 1, 1) := by decide +kernel
theorem dX2_findMate_141 : decode cX2_findMate 141 = .ok (.lsub, 1) := by decide +kernel
theorem dX2_findMate_142 : decode cX2_findMate 142 = .ok (.land, 1) := by decide +kernel
theorem dX2_findMate_143 : decode cX2_findMate 143 = .ok (.lstore 9, 2) := by decide +kernel
theorem dX2_findMate_145 : decode cX2_findMate 145 = .ok (.aload_n 0, 1) := by decide +kernel
theorem dX2_findMate_146 : decode cX2_findMate 146 = .ok (.getfield 40, 3) := by decide +kernel
theorem dX2_findMate_149 : decode cX2_findMate 149 = .ok (.iload 12, 2) := by decide +kernel
theorem dX2_findMate_151 : decode cX2_findMate 151 = .ok (.iload 6, 2) := by decide +kernel
theorem dX2_findMate_153 : decode cX2_findMate 153 = .ok (.iastore, 1) := by decide +kernel
theorem dX2_findMate_154 : decode cX2_findMate 154 = .ok (.aload_n 0, 1) := by decide +kernel
theorem dX2_findMate_155 : decode cX2_findMate 155 = .ok (.getfield 43, 3) := by decide +kernel
theorem dX2_findMate_158 : decode cX2_findMate 158 = .ok (.iload 4, 2) := by decide +kernel
theorem dX2_findMate_160 : decode cX2_findMate 160 = .ok (.aload_n 0, 1) := by decide +kernel
theorem dX2_findMate_161 : decode cX2_findMate 161 = .ok (.getfield 37, 3) := by decide +kernel
theorem dX2_findMate_164 : decode cX2_findMate 164 = .ok (.iload 12, 2) := by decide +kernel
theorem dX2_findMate_166 : decode cX2_findMate 166 = .ok (.iaload, 1) := by decide +kernel
theorem dX2_findMate_167 : decode cX2_findMate 167 = .ok (.iastore, 1) := by decide +kernel
theorem dX2_findMate_168 : decode cX2_findMate 168 = .ok (.iinc 4 1, 3) := by decide +kernel
theorem dX2_findMate_171 : decode cX2_findMate 171 = .ok (.iinc 11 (-1), 3) := by decide +kernel
theorem dX2_findMate_174 : decode cX2_findMate 174 = .ok (.goto (-57), 3) := by decide +kernel
theorem dX2_findMate_177 : decode cX2_findMate 177 = .ok (.iinc 5 1, 3) := by decide +kernel
theorem dX2_findMate_180 : decode cX2_findMate 180 = .ok (.goto (-165), 3) := by decide +kernel
theorem dX2_findMate_183 : decode cX2_findMate 183 = .ok (.iconst 0, 1) := by decide +kernel
theorem dX2_findMate_184 : decode cX2_findMate 184 = .ok (.ireturn, 1) := by decide +kernel
set_option maxRecDepth 20000 in
theorem ggX2_lowest_J13_bitCount_95d88 : GoodIn wsX2_lowest wsJ13_bitCount_95d88 := goodIn_r _ [8, 9, 10, 11] (by decide +kernel) (by decide +kernel)
set_option maxRecDepth 20000 in
theorem gX2_lowest_J13_bitCount_95d88 : GoodIn wsX2_lowest (va_wsS RX2 98 yJ13_bitCount_95d88 wsJ13_bitCount_95d88) := goodIn_app (goodIn_of _ (by decide +kernel)) ggX2_lowest_J13_bitCount_95d88
theorem dX2_lowest_0 : decode cX2_lowest 0 = .ok (.lload_n 0, 1) := by decide +kernel
theorem dX2_lowest_1 : decode cX2_lowest 1 = .ok (.lload_n 0, 1) := by decide +kernel
theorem dX2_lowest_2 : decode cX2_lowest 2 = .ok (.lneg, 1) := by decide +kernel
theorem dX2_lowest_3 : decode cX2_lowest 3 = .ok (.land, 1) := by decide +kernel
theorem dX2_lowest_4 : decode cX2_lowest 4 = .ok (.lconst 1, 1) := by decide +kernel
theorem dX2_lowest_5 : decode cX2_lowest 5 = .ok (.lsub, 1) := by decide +kernel
theorem dX2_lowest_6 : decode cX2_lowest 6 = .ok (.invokestatic 98, 3) := by decide +kernel
theorem dX2_lowest_9 : decode cX2_lowest 9 = .ok (.bipush 39, 2) := by decide +kernel
theorem dX2_lowest_11 : decode cX2_lowest 11 = .ok (.invokestatic 59, 3) := by decide +kernel
theorem dX2_lowest_14 : decode cX2_lowest 14 = .ok (.ireturn, 1) := by decide +kernel
theorem dX2_pairAlong_0 : decode cX2_pairAlong 0 = .ok (.aload_n 0, 1) := by decide +kernel
theorem dX2_pairAlong_1 : decode cX2_pairAlong 1 = .ok (.dup, 1) := by decide +kernel
theorem dX2_pairAlong_2 : decode cX2_pairAlong 2 = .ok (.getfield 50, 3) := by decide +kernel
theorem dX2_pairAlong_5 : decode cX2_pairAlong 5 = .ok (.lconst 1, 1) := by decide +kernel
theorem dX2_pairAlong_6 : decode cX2_pairAlong 6 = .ok (.iload_n 2, 1) := by decide +kernel
theorem dX2_pairAlong_7 : decode cX2_pairAlong 7 = .ok (.lshl, 1) := by decide +kernel
theorem dX2_pairAlong_8 : decode cX2_pairAlong 8 = .ok (.lor, 1) := by decide +kernel
theorem dX2_pairAlong_9 : decode cX2_pairAlong 9 = .ok (.putfield 50, 3) := by decide +kernel
theorem dX2_pairAlong_12 : decode cX2_pairAlong 12 = .ok (.iload_n 1, 1) := by decide +kernel
theorem dX2_pairAlong_13 : decode cX2_pairAlong 13 = .ok (.istore_n 3, 1) := by decide +kernel
theorem dX2_pairAlong_14 : decode cX2_pairAlong 14 = .ok (.iload_n 2, 1) := by decide +kernel
theorem dX2_pairAlong_15 : decode cX2_pairAlong 15 = .ok (.istore 4, 2) := by decide +kernel
theorem dX2_pairAlong_17 : decode cX2_pairAlong 17 = .ok (.iconst 0, 1) := by decide +kernel
theorem dX2_pairAlong_18 : decode cX2_pairAlong 18 = .ok (.istore 5, 2) := by decide +kernel
theorem dX2_pairAlong_20 : decode cX2_pairAlong 20 = .ok (.iload 5, 2) := by decide +kernel
theorem dX2_pairAlong_22 : decode cX2_pairAlong 22 = .ok (.bipush 40, 2) := by decide +kernel
theorem dX2_pairAlong_24 : decode cX2_pairAlong 24 = .ok (.if_icmp .ge 75, 3) := by decide +kernel
theorem dX2_pairAlong_27 : decode cX2_pairAlong 27 = .ok (.iload_n 3, 1) := by decide +kernel
theorem dX2_pairAlong_28 : decode cX2_pairAlong 28 = .ok (.ifCond .lt 21, 3) := by decide +kernel
theorem dX2_pairAlong_31 : decode cX2_pairAlong 31 = .ok (.iload_n 3, 1) := by decide +kernel
theorem dX2_pairAlong_32 : decode cX2_pairAlong 32 = .ok (.bipush 40, 2) := by decide +kernel
theorem dX2_pairAlong_34 : decode cX2_pairAlong 34 = .ok (.if_icmp .ge 15, 3) := by decide +kernel
theorem dX2_pairAlong_37 : decode cX2_pairAlong 37 = .ok (.iload 4, 2) := by decide +kernel
theorem dX2_pairAlong_39 : decode cX2_pairAlong 39 = .ok (.ifCond .lt 10, 3) := by decide +kernel
theorem dX2_pairAlong_42 : decode cX2_pairAlong 42 = .ok (.iload 4, 2) := by decide +kernel
theorem dX2_pairAlong_44 : decode cX2_pairAlong 44 = .ok (.bipush 40, 2) := by decide +kernel
theorem dX2_pairAlong_46 : decode cX2_pairAlong 46 = .ok (.if_icmp .lt 4, 3) := by decide +kernel
theorem dX2_pairAlong_49 : decode cX2_pairAlong 49 = .ok (.return_, 1) := by decide +kernel
theorem dX2_pairAlong_50 : decode cX2_pairAlong 50 = .ok (.aload_n 0, 1) := by decide +kernel
theorem dX2_pairAlong_51 : decode cX2_pairAlong 51 = .ok (.getfield 34, 3) := by decide +kernel
theorem dX2_pairAlong_54 : decode cX2_pairAlong 54 = .ok (.iload_n 3, 1) := by decide +kernel
theorem dX2_pairAlong_55 : decode cX2_pairAlong 55 = .ok (.iaload, 1) := by decide +kernel
theorem dX2_pairAlong_56 : decode cX2_pairAlong 56 = .ok (.istore 6, 2) := by decide +kernel
theorem dX2_pairAlong_58 : decode cX2_pairAlong 58 = .ok (.aload_n 0, 1) := by decide +kernel
theorem dX2_pairAlong_59 : decode cX2_pairAlong 59 = .ok (.getfield 34, 3) := by decide +kernel
theorem dX2_pairAlong_62 : decode cX2_pairAlong 62 = .ok (.iload_n 3, 1) := by decide +kernel
theorem dX2_pairAlong_63 : decode cX2_pairAlong 63 = .ok (.iload 4, 2) := by decide +kernel
theorem dX2_pairAlong_65 : decode cX2_pairAlong 65 = .ok (.iastore, 1) := by decide +kernel
theorem dX2_pairAlong_66 : decode cX2_pairAlong 66 = .ok (.aload_n 0, 1) := by decide +kernel
theorem dX2_pairAlong_67 : decode cX2_pairAlong 67 = .ok (.getfield 37, 3) := by decide +kernel
theorem dX2_pairAlong_70 : decode cX2_pairAlong 70 = .ok (.iload 4, 2) := by decide +kernel
theorem dX2_pairAlong_72 : decode cX2_pairAlong 72 = .ok (.iload_n 3, 1) := by decide +kernel
theorem dX2_pairAlong_73 : decode cX2_pairAlong 73 = .ok (.iastore, 1) := by decide +kernel
theorem dX2_pairAlong_74 : decode cX2_pairAlong 74 = .ok (.iload 6, 2) := by decide +kernel
theorem dX2_pairAlong_76 : decode cX2_pairAlong 76 = .ok (.iconst (-1), 1) := by decide +kernel
theorem dX2_pairAlong_77 : decode cX2_pairAlong 77 = .ok (.if_icmp .ne 4, 3) := by decide +kernel
theorem dX2_pairAlong_80 : decode cX2_pairAlong 80 = .ok (.return_, 1) := by decide +kernel
theorem dX2_pairAlong_81 : decode cX2_pairAlong 81 = .ok (.iload 6, 2) := by decide +kernel
theorem dX2_pairAlong_83 : decode cX2_pairAlong 83 = .ok (.istore 4, 2) := by decide +kernel
theorem dX2_pairAlong_85 : decode cX2_pairAlong 85 = .ok (.aload_n 0, 1) := by decide +kernel
theorem dX2_pairAlong_86 : decode cX2_pairAlong 86 = .ok (.getfield 40, 3) := by decide +kernel
theorem dX2_pairAlong_89 : decode cX2_pairAlong 89 = .ok (.iload 4, 2) := by decide +kernel
theorem dX2_pairAlong_91 : decode cX2_pairAlong 91 = .ok (.iaload, 1) := by decide +kernel
theorem dX2_pairAlong_92 : decode cX2_pairAlong 92 = .ok (.istore_n 3, 1) := by decide +kernel
theorem dX2_pairAlong_93 : decode cX2_pairAlong 93 = .ok (.iinc 5 1, 3) := by decide +kernel
theorem dX2_pairAlong_96 : decode cX2_pairAlong 96 = .ok (.goto (-76), 3) := by decide +kernel
theorem dX2_pairAlong_99 : decode cX2_pairAlong 99 = .ok (.return_, 1) := by decide +kernel
set_option maxRecDepth 20000 in
theorem ggX3_init_X4_init : GoodIn wsX3_init wsX4_init := goodIn_r _ [14, 15, 2, 3, 16, 17, 18, 24, 25, 26] (by decide +kernel) (by decide +kernel)
set_option maxRecDepth 20000 in
theorem gX3_init_X4_init_n17 : GoodIn wsX3_init (wsX4_init) := ggX3_init_X4_init
theorem dX3_init_0 : decode cX3_init 0 = .ok (.aload_n 0, 1) := by decide +kernel
theorem dX3_init_1 : decode cX3_init 1 = .ok (.invokespecial 3, 3) := by decide +kernel
theorem dX3_init_4 : decode cX3_init 4 = .ok (.aload_n 0, 1) := by decide +kernel
theorem dX3_init_5 : decode cX3_init 5 = .ok (.bipush 8, 2) := by decide +kernel
theorem dX3_init_7 : decode cX3_init 7 = .ok (.newarray .int, 2) := by decide +kernel
theorem dX3_init_9 : decode cX3_init 9 = .ok (.putfield 9, 3) := by decide +kernel
theorem dX3_init_12 : decode cX3_init 12 = .ok (.aload_n 0, 1) := by decide +kernel
theorem dX3_init_13 : decode cX3_init 13 = .ok (.new 15, 3) := by decide +kernel
theorem dX3_init_16 : decode cX3_init 16 = .ok (.dup, 1) := by decide +kernel
theorem dX3_init_17 : decode cX3_init 17 = .ok (.invokespecial 17, 3) := by decide +kernel
theorem dX3_init_20 : decode cX3_init 20 = .ok (.putfield 18, 3) := by decide +kernel
theorem dX3_init_23 : decode cX3_init 23 = .ok (.aload_n 0, 1) := by decide +kernel
theorem dX3_init_24 : decode cX3_init 24 = .ok (.new 15, 3) := by decide +kernel
theorem dX3_init_27 : decode cX3_init 27 = .ok (.dup, 1) := by decide +kernel
theorem dX3_init_28 : decode cX3_init 28 = .ok (.invokespecial 17, 3) := by decide +kernel
theorem dX3_init_31 : decode cX3_init 31 = .ok (.putfield 22, 3) := by decide +kernel
theorem dX3_init_34 : decode cX3_init 34 = .ok (.aload_n 0, 1) := by decide +kernel
theorem dX3_init_35 : decode cX3_init 35 = .ok (.new 15, 3) := by decide +kernel
theorem dX3_init_38 : decode cX3_init 38 = .ok (.dup, 1) := by decide +kernel
theorem dX3_init_39 : decode cX3_init 39 = .ok (.invokespecial 17, 3) := by decide +kernel
theorem dX3_init_42 : decode cX3_init 42 = .ok (.putfield 25, 3) := by decide +kernel
theorem dX3_init_45 : decode cX3_init 45 = .ok (.aload_n 0, 1) := by decide +kernel
theorem dX3_init_46 : decode cX3_init 46 = .ok (.iconst 0, 1) := by decide +kernel
theorem dX3_init_47 : decode cX3_init 47 = .ok (.putfield 28, 3) := by decide +kernel
theorem dX3_init_50 : decode cX3_init 50 = .ok (.return_, 1) := by decide +kernel
set_option maxRecDepth 20000 in
theorem ggX3_look_X3_rowAt : GoodIn wsX3_look wsX3_rowAt := goodIn_r _ [9] (by decide +kernel) (by decide +kernel)
set_option maxRecDepth 20000 in
theorem gX3_look_X3_rowAt : GoodIn wsX3_look (va_wsS RX3 32 yX3_rowAt wsX3_rowAt) := goodIn_app (goodIn_of _ (by decide +kernel)) ggX3_look_X3_rowAt
set_option maxRecDepth 20000 in
theorem ggX3_look_X4_clear : GoodIn wsX3_look wsX4_clear := goodIn_r _ [14, 15, 16, 17, 27, 28, 29] (by decide +kernel) (by decide +kernel)
set_option maxRecDepth 20000 in
theorem gX3_look_X4_clear : GoodIn wsX3_look (wsV RX3 36 RX4 yX4_clear wsX4_clear) := goodIn_app (goodIn_of _ (by decide +kernel)) ggX3_look_X4_clear
set_option maxRecDepth 20000 in
theorem ggX3_look_X4_add : GoodIn wsX3_look wsX4_add := goodIn_r _ [21, 17, 16, 15, 27, 28, 29] (by decide +kernel) (by decide +kernel)
set_option maxRecDepth 20000 in
theorem gX3_look_X4_add : GoodIn wsX3_look (wsV RX3 39 RX4 yX4_add wsX4_add) := goodIn_app (goodIn_of _ (by decide +kernel)) ggX3_look_X4_add
theorem dX3_look_0 : decode cX3_look 0 = .ok (.aload_n 0, 1) := by decide +kernel
theorem dX3_look_1 : decode cX3_look 1 = .ok (.aload_n 1, 1) := by decide +kernel
theorem dX3_look_2 : decode cX3_look 2 = .ok (.iload_n 2, 1) := by decide +kernel
theorem dX3_look_3 : decode cX3_look 3 = .ok (.invokestatic 32, 3) := by decide +kernel
theorem dX3_look_6 : decode cX3_look 6 = .ok (.putfield 28, 3) := by decide +kernel
theorem dX3_look_9 : decode cX3_look 9 = .ok (.aload_n 1, 1) := by decide +kernel
theorem dX3_look_10 : decode cX3_look 10 = .ok (.iload_n 2, 1) := by decide +kernel
theorem dX3_look_11 : decode cX3_look 11 = .ok (.iconst 1, 1) := by decide +kernel
theorem dX3_look_12 : decode cX3_look 12 = .ok (.iadd, 1) := by decide +kernel
theorem dX3_look_13 : decode cX3_look 13 = .ok (.invokestatic 32, 3) := by decide +kernel
theorem dX3_look_16 : decode cX3_look 16 = .ok (.istore_n 3, 1) := by decide +kernel
theorem dX3_look_17 : decode cX3_look 17 = .ok (.aload_n 1, 1) := by decide +kernel
theorem dX3_look_18 : decode cX3_look 18 = .ok (.iload_n 2, 1) := by decide +kernel
theorem dX3_look_19 : decode cX3_look 19 = .ok (.iconst 1, 1) := by decide +kernel
theorem dX3_look_20 : decode cX3_look 20 = .ok (.isub, 1) := by decide +kernel
theorem dX3_look_21 : decode cX3_look 21 = .ok (.invokestatic 32, 3) := by decide +kernel
theorem dX3_look_24 : decode cX3_look 24 = .ok (.istore 4, 2) := by decide +kernel
theorem dX3_look_26 : decode cX3_look 26 = .ok (.aload_n 0, 1) := by decide +kernel
theorem dX3_look_27 : decode cX3_look 27 = .ok (.getfield 9, 3) := by decide +kernel
theorem dX3_look_30 : decode cX3_look 30 = .ok (.iconst 0, 1) := by decide +kernel
theorem dX3_look_31 : decode cX3_look 31 = .ok (.aload_n 0, 1) := by decide +kernel
theorem dX3_look_32 : decode cX3_look 32 = .ok (.getfield 28, 3) := by decide +kernel
theorem dX3_look_35 : decode cX3_look 35 = .ok (.iconst 1, 1) := by decide +kernel
theorem dX3_look_36 : decode cX3_look 36 = .ok (.iushr, 1) := by decide +kernel
theorem dX3_look_37 : decode cX3_look 37 = .ok (.iastore, 1) := by decide +kernel
theorem dX3_look_38 : decode cX3_look 38 = .ok (.aload_n 0, 1) := by decide +kernel
theorem dX3_look_39 : decode cX3_look 39 = .ok (.getfield 9, 3) := by decide +kernel
theorem dX3_look_42 : decode cX3_look 42 = .ok (.iconst 1, 1) := by decide +kernel
theorem dX3_look_43 : decode cX3_look 43 = .ok (.iload_n 3, 1) := by decide +kernel
theorem dX3_look_44 : decode cX3_look 44 = .ok (.iconst 1, 1) := by decide +kernel
theorem dX3_look_45 : decode cX3_look 45 = .ok (.iushr, 1) := by decide +kernel
theorem dX3_look_46 : decode cX3_look 46 = .ok (.iastore, 1) := by decide +kernel
theorem dX3_look_47 : decode cX3_look 47 = .ok (.aload_n 0, 1) := by decide +kernel
theorem dX3_look_48 : decode cX3_look 48 = .ok (.getfield 9, 3) := by decide +kernel
theorem dX3_look_51 : decode cX3_look 51 = .ok (.iconst 2, 1) := by decide +kernel
theorem dX3_look_52 : decode cX3_look 52 = .ok (.iload_n 3, 1) := by decide +kernel
theorem dX3_look_53 : decode cX3_look 53 = .ok (.iastore, 1) := by decide +kernel
theorem dX3_look_54 : decode cX3_look 54 = .ok (.aload_n 0, 1) := by decide +kernel
theorem dX3_look_55 : decode cX3_look 55 = .ok (.getfield 9, 3) := by decide +kernel
theorem dX3_look_58 : decode cX3_look 58 = .ok (.iconst 3, 1) := by decide +kernel
theorem dX3_look_59 : decode cX3_look 59 = .ok (.iload_n 3, 1) := by decide +kernel
theorem dX3_look_60 : decode cX3_look 60 = .ok (.iconst 1, 1) := by decide +kernel
theorem dX3_look_61 : decode cX3_look 61 = .ok (.ishl, 1) := by decide +kernel
theorem dX3_look_62 : decode cX3_look 62 = .ok (.iastore, 1) := by decide +kernel
theorem dX3_look_63 : decode cX3_look 63 = .ok (.aload_n 0, 1) := by decide +kernel
theorem dX3_look_64 : decode cX3_look 64 = .ok (.getfield 9, 3) := by decide +kernel
theorem dX3_look_67 : decode cX3_look 67 = .ok (.iconst 4, 1) := by decide +kernel
theorem dX3_look_68 : decode cX3_look 68 = .ok (.aload_n 0, 1) := by decide +kernel
theorem dX3_look_69 : decode cX3_look 69 = .ok (.getfield 28, 3) := by decide +kernel
theorem dX3_look_72 : decode cX3_look 72 = .ok (.iconst 1, 1) := by decide +kernel
theorem dX3_look_73 : decode cX3_look 73 = .ok (.ishl, 1) := by decide +kernel
theorem dX3_look_74 : decode cX3_look 74 = .ok (.iastore, 1) := by decide +kernel
theorem dX3_look_75 : decode cX3_look 75 = .ok (.aload_n 0, 1) := by decide +kernel
theorem dX3_look_76 : decode cX3_look 76 = .ok (.getfield 9, 3) := by decide +kernel
theorem dX3_look_79 : decode cX3_look 79 = .ok (.iconst 5, 1) := by decide +kernel
theorem dX3_look_80 : decode cX3_look 80 = .ok (.iload 4, 2) := by decide +kernel
theorem dX3_look_82 : decode cX3_look 82 = .ok (.iconst 1, 1) := by decide +kernel
theorem dX3_look_83 : decode cX3_look 83 = .ok (.ishl, 1) := by decide +kernel
theorem dX3_look_84 : decode cX3_look 84 = .ok (.iastore, 1) := by decide +kernel
theorem dX3_look_85 : decode cX3_look 85 = .ok (.aload_n 0, 1) := by decide +kernel
theorem dX3_look_86 : decode cX3_look 86 = .ok (.getfield 9, 3) := by decide +kernel
theorem dX3_look_89 : decode cX3_look 89 = .ok (.bipush 6, 2) := by decide +kernel
theorem dX3_look_91 : decode cX3_look 91 = .ok (.iload 4, 2) := by decide +kernel
theorem dX3_look_93 : decode cX3_look 93 = .ok (.iastore, 1) := by decide +kernel
theorem dX3_look_94 : decode cX3_look 94 = .ok (.aload_n 0, 1) := by decide +kernel
theorem dX3_look_95 : decode cX3_look 95 = .ok (.getfield 9, 3) := by decide +kernel
theorem dX3_look_98 : decode cX3_look 98 = .ok (.bipush 7, 2) := by decide +kernel
theorem dX3_look_100 : decode cX3_look 100 = .ok (.iload 4, 2) := by decide +kernel
theorem dX3_look_102 : decode cX3_look 102 = .ok (.iconst 1, 1) := by decide +kernel
theorem dX3_look_103 : decode cX3_look 103 = .ok (.iushr, 1) := by decide +kernel
theorem dX3_look_104 : decode cX3_look 104 = .ok (.iastore, 1) := by decide +kernel
theorem dX3_look_105 : decode cX3_look 105 = .ok (.aload_n 0, 1) := by decide +kernel
theorem dX3_look_106 : decode cX3_look 106 = .ok (.getfield 18, 3) := by decide +kernel
theorem dX3_look_109 : decode cX3_look 109 = .ok (.invokevirtual 36, 3) := by decide +kernel
theorem dX3_look_112 : decode cX3_look 112 = .ok (.aload_n 0, 1) := by decide +kernel
theorem dX3_look_113 : decode cX3_look 113 = .ok (.getfield 22, 3) := by decide +kernel
theorem dX3_look_116 : decode cX3_look 116 = .ok (.invokevirtual 36, 3) := by decide +kernel
theorem dX3_look_119 : decode cX3_look 119 = .ok (.aload_n 0, 1) := by decide +kernel
theorem dX3_look_120 : decode cX3_look 120 = .ok (.getfield 25, 3) := by decide +kernel
theorem dX3_look_123 : decode cX3_look 123 = .ok (.invokevirtual 36, 3) := by decide +kernel
theorem dX3_look_126 : decode cX3_look 126 = .ok (.iconst 0, 1) := by decide +kernel
theorem dX3_look_127 : decode cX3_look 127 = .ok (.istore 5, 2) := by decide +kernel
theorem dX3_look_129 : decode cX3_look 129 = .ok (.iload 5, 2) := by decide +kernel
theorem dX3_look_131 : decode cX3_look 131 = .ok (.bipush 8, 2) := by decide +kernel
theorem dX3_look_133 : decode cX3_look 133 = .ok (.if_icmp .ge 82, 3) := by decide +kernel
theorem dX3_look_136 : decode cX3_look 136 = .ok (.iload 5, 2) := by decide +kernel
theorem dX3_look_138 : decode cX3_look 138 = .ok (.iconst 1, 1) := by decide +kernel
theorem dX3_look_139 : decode cX3_look 139 = .ok (.iadd, 1) := by decide +kernel
theorem dX3_look_140 : decode cX3_look 140 = .ok (.bipush 8, 2) := by decide +kernel
theorem dX3_look_142 : decode cX3_look 142 = .ok (.if_icmp .ge 10, 3) := by decide +kernel
theorem dX3_look_145 : decode cX3_look 145 = .ok (.iload 5, 2) := by decide +kernel
theorem dX3_look_147 : decode cX3_look 147 = .ok (.iconst 1, 1) := by decide +kernel
theorem dX3_look_148 : decode cX3_look 148 = .ok (.iadd, 1) := by decide +kernel
theorem dX3_look_149 : decode cX3_look 149 = .ok (.goto 4, 3) := by decide +kernel
theorem dX3_look_152 : decode cX3_look 152 = .ok (.iconst 0, 1) := by decide +kernel
theorem dX3_look_153 : decode cX3_look 153 = .ok (.istore 6, 2) := by decide +kernel
theorem dX3_look_155 : decode cX3_look 155 = .ok (.aload_n 0, 1) := by decide +kernel
theorem dX3_look_156 : decode cX3_look 156 = .ok (.getfield 18, 3) := by decide +kernel
theorem dX3_look_159 : decode cX3_look 159 = .ok (.aload_n 0, 1) := by decide +kernel
theorem dX3_look_160 : decode cX3_look 160 = .ok (.getfield 9, 3) := by decide +kernel
theorem dX3_look_163 : decode cX3_look 163 = .ok (.iload 5, 2) := by decide +kernel
theorem dX3_look_165 : decode cX3_look 165 = .ok (.iaload, 1) := by decide +kernel
theorem dX3_look_166 : decode cX3_look 166 = .ok (.invokevirtual 39, 3) := by decide +kernel
theorem dX3_look_169 : decode cX3_look 169 = .ok (.aload_n 0, 1) := by decide +kernel
theorem dX3_look_170 : decode cX3_look 170 = .ok (.getfield 22, 3) := by decide +kernel
theorem dX3_look_173 : decode cX3_look 173 = .ok (.aload_n 0, 1) := by decide +kernel
theorem dX3_look_174 : decode cX3_look 174 = .ok (.getfield 9, 3) := by decide +kernel
theorem dX3_look_177 : decode cX3_look 177 = .ok (.iload 5, 2) := by decide +kernel
theorem dX3_look_179 : decode cX3_look 179 = .ok (.iaload, 1) := by decide +kernel
theorem dX3_look_180 : decode cX3_look 180 = .ok (.iconst (-1), 1) := by decide +kernel
theorem dX3_look_181 : decode cX3_look 181 = .ok (.ixor, 1) := by decide +kernel
theorem dX3_look_182 : decode cX3_look 182 = .ok (.invokevirtual 39, 3) := by decide +kernel
theorem dX3_look_185 : decode cX3_look 185 = .ok (.aload_n 0, 1) := by decide +kernel
theorem dX3_look_186 : decode cX3_look 186 = .ok (.getfield 25, 3) := by decide +kernel
theorem dX3_look_189 : decode cX3_look 189 = .ok (.aload_n 0, 1) := by decide +kernel
theorem dX3_look_190 : decode cX3_look 190 = .ok (.getfield 9, 3) := by decide +kernel
theorem dX3_look_193 : decode cX3_look 193 = .ok (.iload 5, 2) := by decide +kernel
theorem dX3_look_195 : decode cX3_look 195 = .ok (.iaload, 1) := by decide +kernel
theorem dX3_look_196 : decode cX3_look 196 = .ok (.iconst (-1), 1) := by decide +kernel
theorem dX3_look_197 : decode cX3_look 197 = .ok (.ixor, 1) := by decide +kernel
theorem dX3_look_198 : decode cX3_look 198 = .ok (.aload_n 0, 1) := by decide +kernel
theorem dX3_look_199 : decode cX3_look 199 = .ok (.getfield 9, 3) := by decide +kernel
theorem dX3_look_202 : decode cX3_look 202 = .ok (.iload 6, 2) := by decide +kernel
theorem dX3_look_204 : decode cX3_look 204 = .ok (.iaload, 1) := by decide +kernel
theorem dX3_look_205 : decode cX3_look 205 = .ok (.iand, 1) := by decide +kernel
theorem dX3_look_206 : decode cX3_look 206 = .ok (.invokevirtual 39, 3) := by decide +kernel
theorem dX3_look_209 : decode cX3_look 209 = .ok (.iinc 5 1, 3) := by decide +kernel
theorem dX3_look_212 : decode cX3_look 212 = .ok (.goto (-83), 3) := by decide +kernel
theorem dX3_look_215 : decode cX3_look 215 = .ok (.return_, 1) := by decide +kernel
theorem dX3_rowAt_0 : decode cX3_rowAt 0 = .ok (.iload_n 1, 1) := by decide +kernel
theorem dX3_rowAt_1 : decode cX3_rowAt 1 = .ok (.ifCond .lt 15, 3) := by decide +kernel
theorem dX3_rowAt_4 : decode cX3_rowAt 4 = .ok (.iload_n 1, 1) := by decide +kernel
theorem dX3_rowAt_5 : decode cX3_rowAt 5 = .ok (.aload_n 0, 1) := by decide +kernel
theorem dX3_rowAt_6 : decode cX3_rowAt 6 = .ok (.arraylength, 1) := by decide +kernel
theorem dX3_rowAt_7 : decode cX3_rowAt 7 = .ok (.if_icmp .ge 9, 3) := by decide +kernel
theorem dX3_rowAt_10 : decode cX3_rowAt 10 = .ok (.aload_n 0, 1) := by decide +kernel
theorem dX3_rowAt_11 : decode cX3_rowAt 11 = .ok (.iload_n 1, 1) := by decide +kernel
theorem dX3_rowAt_12 : decode cX3_rowAt 12 = .ok (.iaload, 1) := by decide +kernel
theorem dX3_rowAt_13 : decode cX3_rowAt 13 = .ok (.goto 4, 3) := by decide +kernel
theorem dX3_rowAt_16 : decode cX3_rowAt 16 = .ok (.iconst 0, 1) := by decide +kernel
theorem dX3_rowAt_17 : decode cX3_rowAt 17 = .ok (.ireturn, 1) := by decide +kernel
set_option maxRecDepth 20000 in
theorem ggX3_takenInPass_X4_justOne : GoodIn wsX3_takenInPass wsX4_justOne := goodIn_r _ [11, 12, 13, 19, 20, 21] (by decide +kernel) (by decide +kernel)
set_option maxRecDepth 20000 in
theorem gX3_takenInPass_X4_justOne : GoodIn wsX3_takenInPass (wsV RX3 46 RX4 yX4_justOne wsX4_justOne) := goodIn_app (goodIn_of _ (by decide +kernel)) ggX3_takenInPass_X4_justOne
theorem dX3_takenInPass_0 : decode cX3_takenInPass 0 = .ok (.aload_n 0, 1) := by decide +kernel
theorem dX3_takenInPass_1 : decode cX3_takenInPass 1 = .ok (.getfield 9, 3) := by decide +kernel
theorem dX3_takenInPass_4 : decode cX3_takenInPass 4 = .ok (.iconst 0, 1) := by decide +kernel
theorem dX3_takenInPass_5 : decode cX3_takenInPass 5 = .ok (.iaload, 1) := by decide +kernel
theorem dX3_takenInPass_6 : decode cX3_takenInPass 6 = .ok (.istore_n 2, 1) := by decide +kernel
theorem dX3_takenInPass_7 : decode cX3_takenInPass 7 = .ok (.aload_n 0, 1) := by decide +kernel
theorem dX3_takenInPass_8 : decode cX3_takenInPass 8 = .ok (.getfield 9, 3) := by decide +kernel
theorem dX3_takenInPass_11 : decode cX3_takenInPass 11 = .ok (.iconst 2, 1) := by decide +kernel
theorem dX3_takenInPass_12 : decode cX3_takenInPass 12 = .ok (.iaload, 1) := by decide +kernel
theorem dX3_takenInPass_13 : decode cX3_takenInPass 13 = .ok (.istore_n 3, 1) := by decide +kernel
theorem dX3_takenInPass_14 : decode cX3_takenInPass 14 = .ok (.aload_n 0, 1) := by decide +kernel
theorem dX3_takenInPass_15 : decode cX3_takenInPass 15 = .ok (.getfield 9, 3) := by decide +kernel
theorem dX3_takenInPass_18 : decode cX3_takenInPass 18 = .ok (.iconst 4, 1) := by decide +kernel
theorem dX3_takenInPass_19 : decode cX3_takenInPass 19 = .ok (.iaload, 1) := by decide +kernel
theorem dX3_takenInPass_20 : decode cX3_takenInPass 20 = .ok (.istore 4, 2) := by decide +kernel
theorem dX3_takenInPass_22 : decode cX3_takenInPass 22 = .ok (.aload_n 0, 1) := by decide +kernel
theorem dX3_takenInPass_23 : decode cX3_takenInPass 23 = .ok (.getfield 9, 3) := by decide +kernel
theorem dX3_takenInPass_26 : decode cX3_takenInPass 26 = .ok (.bipush 6, 2) := by decide +kernel
theorem dX3_takenInPass_28 : decode cX3_takenInPass 28 = .ok (.iaload, 1) := by decide +kernel
theorem dX3_takenInPass_29 : decode cX3_takenInPass 29 = .ok (.istore 5, 2) := by decide +kernel
theorem dX3_takenInPass_31 : decode cX3_takenInPass 31 = .ok (.iload_n 1, 1) := by decide +kernel
theorem dX3_takenInPass_32 : decode cX3_takenInPass 32 = .ok (.ifCond .eq 20, 3) := by decide +kernel
theorem dX3_takenInPass_35 : decode cX3_takenInPass 35 = .ok (.iload_n 3, 1) := by decide +kernel
theorem dX3_takenInPass_36 : decode cX3_takenInPass 36 = .ok (.iload_n 2, 1) := by decide +kernel
theorem dX3_takenInPass_37 : decode cX3_takenInPass 37 = .ok (.iand, 1) := by decide +kernel
theorem dX3_takenInPass_38 : decode cX3_takenInPass 38 = .ok (.iload 5, 2) := by decide +kernel
theorem dX3_takenInPass_40 : decode cX3_takenInPass 40 = .ok (.iand, 1) := by decide +kernel
theorem dX3_takenInPass_41 : decode cX3_takenInPass 41 = .ok (.iload_n 2, 1) := by decide +kernel
theorem dX3_takenInPass_42 : decode cX3_takenInPass 42 = .ok (.iload 5, 2) := by decide +kernel
theorem dX3_takenInPass_44 : decode cX3_takenInPass 44 = .ok (.iand, 1) := by decide +kernel
theorem dX3_takenInPass_45 : decode cX3_takenInPass 45 = .ok (.iload 4, 2) := by decide +kernel
theorem dX3_takenInPass_47 : decode cX3_takenInPass 47 = .ok (.iand, 1) := by decide +kernel
theorem dX3_takenInPass_48 : decode cX3_takenInPass 48 = .ok (.ior, 1) := by decide +kernel
theorem dX3_takenInPass_49 : decode cX3_takenInPass 49 = .ok (.goto 17, 3) := by decide +kernel
theorem dX3_takenInPass_52 : decode cX3_takenInPass 52 = .ok (.iload_n 3, 1) := by decide +kernel
theorem dX3_takenInPass_53 : decode cX3_takenInPass 53 = .ok (.iload_n 2, 1) := by decide +kernel
theorem dX3_takenInPass_54 : decode cX3_takenInPass 54 = .ok (.iand, 1) := by decide +kernel
theorem dX3_takenInPass_55 : decode cX3_takenInPass 55 = .ok (.iload 4, 2) := by decide +kernel
theorem dX3_takenInPass_57 : decode cX3_takenInPass 57 = .ok (.iand, 1) := by decide +kernel
theorem dX3_takenInPass_58 : decode cX3_takenInPass 58 = .ok (.iload_n 3, 1) := by decide +kernel
theorem dX3_takenInPass_59 : decode cX3_takenInPass 59 = .ok (.iload 5, 2) := by decide +kernel
theorem dX3_takenInPass_61 : decode cX3_takenInPass 61 = .ok (.iand, 1) := by decide +kernel
theorem dX3_takenInPass_62 : decode cX3_takenInPass 62 = .ok (.iload 4, 2) := by decide +kernel
theorem dX3_takenInPass_64 : decode cX3_takenInPass 64 = .ok (.iand, 1) := by decide +kernel
theorem dX3_takenInPass_65 : decode cX3_takenInPass 65 = .ok (.ior, 1) := by decide +kernel
theorem dX3_takenInPass_66 : decode cX3_takenInPass 66 = .ok (.istore 6, 2) := by decide +kernel
theorem dX3_takenInPass_68 : decode cX3_takenInPass 68 = .ok (.aload_n 0, 1) := by decide +kernel
theorem dX3_takenInPass_69 : decode cX3_takenInPass 69 = .ok (.getfield 28, 3) := by decide +kernel
theorem dX3_takenInPass_72 : decode cX3_takenInPass 72 = .ok (.aload_n 0, 1) := by decide +kernel
theorem dX3_takenInPass_73 : decode cX3_takenInPass 73 = .ok (.getfield 18, 3) := by decide +kernel
theorem dX3_takenInPass_76 : decode cX3_takenInPass 76 = .ok (.getfield 43, 3) := by decide +kernel
theorem dX3_takenInPass_79 : decode cX3_takenInPass 79 = .ok (.iand, 1) := by decide +kernel
theorem dX3_takenInPass_80 : decode cX3_takenInPass 80 = .ok (.aload_n 0, 1) := by decide +kernel
theorem dX3_takenInPass_81 : decode cX3_takenInPass 81 = .ok (.getfield 22, 3) := by decide +kernel
theorem dX3_takenInPass_84 : decode cX3_takenInPass 84 = .ok (.getfield 43, 3) := by decide +kernel
theorem dX3_takenInPass_87 : decode cX3_takenInPass 87 = .ok (.iand, 1) := by decide +kernel
theorem dX3_takenInPass_88 : decode cX3_takenInPass 88 = .ok (.aload_n 0, 1) := by decide +kernel
theorem dX3_takenInPass_89 : decode cX3_takenInPass 89 = .ok (.getfield 25, 3) := by decide +kernel
theorem dX3_takenInPass_92 : decode cX3_takenInPass 92 = .ok (.invokevirtual 46, 3) := by decide +kernel
theorem dX3_takenInPass_95 : decode cX3_takenInPass 95 = .ok (.iand, 1) := by decide +kernel
theorem dX3_takenInPass_96 : decode cX3_takenInPass 96 = .ok (.iload 6, 2) := by decide +kernel
theorem dX3_takenInPass_98 : decode cX3_takenInPass 98 = .ok (.iconst (-1), 1) := by decide +kernel
theorem dX3_takenInPass_99 : decode cX3_takenInPass 99 = .ok (.ixor, 1) := by decide +kernel
theorem dX3_takenInPass_100 : decode cX3_takenInPass 100 = .ok (.iand, 1) := by decide +kernel
theorem dX3_takenInPass_101 : decode cX3_takenInPass 101 = .ok (.ireturn, 1) := by decide +kernel
set_option maxRecDepth 20000 in
theorem ggX3_ends_X4_justOne : GoodIn wsX3_ends wsX4_justOne := goodIn_r _ [7, 8, 9, 15, 16, 17] (by decide +kernel) (by decide +kernel)
set_option maxRecDepth 20000 in
theorem gX3_ends_X4_justOne : GoodIn wsX3_ends (wsV RX3 46 RX4 yX4_justOne wsX4_justOne) := goodIn_app (goodIn_of _ (by decide +kernel)) ggX3_ends_X4_justOne
theorem dX3_ends_0 : decode cX3_ends 0 = .ok (.aload_n 0, 1) := by decide +kernel
theorem dX3_ends_1 : decode cX3_ends 1 = .ok (.getfield 28, 3) := by decide +kernel
theorem dX3_ends_4 : decode cX3_ends 4 = .ok (.aload_n 0, 1) := by decide +kernel
theorem dX3_ends_5 : decode cX3_ends 5 = .ok (.getfield 18, 3) := by decide +kernel
theorem dX3_ends_8 : decode cX3_ends 8 = .ok (.invokevirtual 46, 3) := by decide +kernel
theorem dX3_ends_11 : decode cX3_ends 11 = .ok (.iand, 1) := by decide +kernel
theorem dX3_ends_12 : decode cX3_ends 12 = .ok (.ireturn, 1) := by decide +kernel
theorem dX3_forks_0 : decode cX3_forks 0 = .ok (.aload_n 0, 1) := by decide +kernel
theorem dX3_forks_1 : decode cX3_forks 1 = .ok (.getfield 28, 3) := by decide +kernel
theorem dX3_forks_4 : decode cX3_forks 4 = .ok (.aload_n 0, 1) := by decide +kernel
theorem dX3_forks_5 : decode cX3_forks 5 = .ok (.getfield 25, 3) := by decide +kernel
theorem dX3_forks_8 : decode cX3_forks 8 = .ok (.getfield 50, 3) := by decide +kernel
theorem dX3_forks_11 : decode cX3_forks 11 = .ok (.iand, 1) := by decide +kernel
theorem dX3_forks_12 : decode cX3_forks 12 = .ok (.ireturn, 1) := by decide +kernel
theorem dX3_directionOfEnd_0 : decode cX3_directionOfEnd 0 = .ok (.iconst 0, 1) := by decide +kernel
theorem dX3_directionOfEnd_1 : decode cX3_directionOfEnd 1 = .ok (.istore_n 2, 1) := by decide +kernel
theorem dX3_directionOfEnd_2 : decode cX3_directionOfEnd 2 = .ok (.iload_n 2, 1) := by decide +kernel
theorem dX3_directionOfEnd_3 : decode cX3_directionOfEnd 3 = .ok (.bipush 8, 2) := by decide +kernel
theorem dX3_directionOfEnd_5 : decode cX3_directionOfEnd 5 = .ok (.if_icmp .ge 24, 3) := by decide +kernel
theorem dX3_directionOfEnd_8 : decode cX3_directionOfEnd 8 = .ok (.aload_n 0, 1) := by decide +kernel
theorem dX3_directionOfEnd_9 : decode cX3_directionOfEnd 9 = .ok (.getfield 9, 3) := by decide +kernel
theorem dX3_directionOfEnd_12 : decode cX3_directionOfEnd 12 = .ok (.iload_n 2, 1) := by decide +kernel
theorem dX3_directionOfEnd_13 : decode cX3_directionOfEnd 13 = .ok (.iaload, 1) := by decide +kernel
theorem dX3_directionOfEnd_14 : decode cX3_directionOfEnd 14 = .ok (.iload_n 1, 1) := by decide +kernel
theorem dX3_directionOfEnd_15 : decode cX3_directionOfEnd 15 = .ok (.iushr, 1) := by decide +kernel
theorem dX3_directionOfEnd_16 : decode cX3_directionOfEnd 16 = .ok (.iconst 1, 1) := by decide +kernel
theorem dX3_directionOfEnd_17 : decode cX3_directionOfEnd 17 = .ok (.iand, 1) := by decide +kernel
theorem dX3_directionOfEnd_18 : decode cX3_directionOfEnd 18 = .ok (.ifCond .eq 5, 3) := by decide +kernel
theorem dX3_directionOfEnd_21 : decode cX3_directionOfEnd 21 = .ok (.iload_n 2, 1) := by decide +kernel
theorem dX3_directionOfEnd_22 : decode cX3_directionOfEnd 22 = .ok (.ireturn, 1) := by decide +kernel
theorem dX3_directionOfEnd_23 : decode cX3_directionOfEnd 23 = .ok (.iinc 2 1, 3) := by decide +kernel
theorem dX3_directionOfEnd_26 : decode cX3_directionOfEnd 26 = .ok (.goto (-24), 3) := by decide +kernel
theorem dX3_directionOfEnd_29 : decode cX3_directionOfEnd 29 = .ok (.iconst 0, 1) := by decide +kernel
theorem dX3_directionOfEnd_30 : decode cX3_directionOfEnd 30 = .ok (.ireturn, 1) := by decide +kernel
theorem dX4_init_0 : decode cX4_init 0 = .ok (.aload_n 0, 1) := by decide +kernel
theorem dX4_init_1 : decode cX4_init 1 = .ok (.invokespecial 1, 3) := by decide +kernel
theorem dX4_init_4 : decode cX4_init 4 = .ok (.aload_n 0, 1) := by decide +kernel
theorem dX4_init_5 : decode cX4_init 5 = .ok (.iconst 0, 1) := by decide +kernel
theorem dX4_init_6 : decode cX4_init 6 = .ok (.putfield 7, 3) := by decide +kernel
theorem dX4_init_9 : decode cX4_init 9 = .ok (.aload_n 0, 1) := by decide +kernel
theorem dX4_init_10 : decode cX4_init 10 = .ok (.iconst 0, 1) := by decide +kernel
theorem dX4_init_11 : decode cX4_init 11 = .ok (.putfield 13, 3) := by decide +kernel
theorem dX4_init_14 : decode cX4_init 14 = .ok (.aload_n 0, 1) := by decide +kernel
theorem dX4_init_15 : decode cX4_init 15 = .ok (.iconst 0, 1) := by decide +kernel
theorem dX4_init_16 : decode cX4_init 16 = .ok (.putfield 16, 3) := by decide +kernel
theorem dX4_init_19 : decode cX4_init 19 = .ok (.return_, 1) := by decide +kernel
theorem dX4_clear_0 : decode cX4_clear 0 = .ok (.aload_n 0, 1) := by decide +kernel
theorem dX4_clear_1 : decode cX4_clear 1 = .ok (.iconst 0, 1) := by decide +kernel
theorem dX4_clear_2 : decode cX4_clear 2 = .ok (.putfield 7, 3) := by decide +kernel
theorem dX4_clear_5 : decode cX4_clear 5 = .ok (.aload_n 0, 1) := by decide +kernel
theorem dX4_clear_6 : decode cX4_clear 6 = .ok (.iconst 0, 1) := by decide +kernel
theorem dX4_clear_7 : decode cX4_clear 7 = .ok (.putfield 13, 3) := by decide +kernel
theorem dX4_clear_10 : decode cX4_clear 10 = .ok (.aload_n 0, 1) := by decide +kernel
theorem dX4_clear_11 : decode cX4_clear 11 = .ok (.iconst 0, 1) := by decide +kernel
theorem dX4_clear_12 : decode cX4_clear 12 = .ok (.putfield 16, 3) := by decide +kernel
theorem dX4_clear_15 : decode cX4_clear 15 = .ok (.return_, 1) := by decide +kernel
theorem dX4_add_0 : decode cX4_add 0 = .ok (.aload_n 0, 1) := by decide +kernel
theorem dX4_add_1 : decode cX4_add 1 = .ok (.dup, 1) := by decide +kernel
theorem dX4_add_2 : decode cX4_add 2 = .ok (.getfield 16, 3) := by decide +kernel
theorem dX4_add_5 : decode cX4_add 5 = .ok (.aload_n 0, 1) := by decide +kernel
theorem dX4_add_6 : decode cX4_add 6 = .ok (.getfield 13, 3) := by decide +kernel
theorem dX4_add_9 : decode cX4_add 9 = .ok (.iload_n 1, 1) := by decide +kernel
theorem dX4_add_10 : decode cX4_add 10 = .ok (.iand, 1) := by decide +kernel
theorem dX4_add_11 : decode cX4_add 11 = .ok (.ior, 1) := by decide +kernel
theorem dX4_add_12 : decode cX4_add 12 = .ok (.putfield 16, 3) := by decide +kernel
theorem dX4_add_15 : decode cX4_add 15 = .ok (.aload_n 0, 1) := by decide +kernel
theorem dX4_add_16 : decode cX4_add 16 = .ok (.dup, 1) := by decide +kernel
theorem dX4_add_17 : decode cX4_add 17 = .ok (.getfield 13, 3) := by decide +kernel
theorem dX4_add_20 : decode cX4_add 20 = .ok (.aload_n 0, 1) := by decide +kernel
theorem dX4_add_21 : decode cX4_add 21 = .ok (.getfield 7, 3) := by decide +kernel
theorem dX4_add_24 : decode cX4_add 24 = .ok (.iload_n 1, 1) := by decide +kernel
theorem dX4_add_25 : decode cX4_add 25 = .ok (.iand, 1) := by decide +kernel
theorem dX4_add_26 : decode cX4_add 26 = .ok (.ior, 1) := by decide +kernel
theorem dX4_add_27 : decode cX4_add 27 = .ok (.putfield 13, 3) := by decide +kernel
theorem dX4_add_30 : decode cX4_add 30 = .ok (.aload_n 0, 1) := by decide +kernel
theorem dX4_add_31 : decode cX4_add 31 = .ok (.dup, 1) := by decide +kernel
theorem dX4_add_32 : decode cX4_add 32 = .ok (.getfield 7, 3) := by decide +kernel
theorem dX4_add_35 : decode cX4_add 35 = .ok (.iload_n 1, 1) := by decide +kernel
theorem dX4_add_36 : decode cX4_add 36 = .ok (.ior, 1) := by decide +kernel
theorem dX4_add_37 : decode cX4_add 37 = .ok (.putfield 7, 3) := by decide +kernel
theorem dX4_add_40 : decode cX4_add 40 = .ok (.return_, 1) := by decide +kernel
theorem dX4_justOne_0 : decode cX4_justOne 0 = .ok (.aload_n 0, 1) := by decide +kernel
theorem dX4_justOne_1 : decode cX4_justOne 1 = .ok (.getfield 7, 3) := by decide +kernel
theorem dX4_justOne_4 : decode cX4_justOne 4 = .ok (.aload_n 0, 1) := by decide +kernel
theorem dX4_justOne_5 : decode cX4_justOne 5 = .ok (.getfield 13, 3) := by decide +kernel
theorem dX4_justOne_8 : decode cX4_justOne 8 = .ok (.iconst (-1), 1) := by decide +kernel
theorem dX4_justOne_9 : decode cX4_justOne 9 = .ok (.ixor, 1) := by decide +kernel
theorem dX4_justOne_10 : decode cX4_justOne 10 = .ok (.iand, 1) := by decide +kernel
theorem dX4_justOne_11 : decode cX4_justOne 11 = .ok (.ireturn, 1) := by decide +kernel
set_option maxRecDepth 20000 in
theorem ggX5_init_X3_init : GoodIn wsX5_init wsX3_init := goodIn_r _ [11, 12, 2, 3, 8, 13, 14, 15, 16, 17, 18, 19, 20, 21, 22, 23, 24, 25, 26, 27, 28, 29, 30, 31, 34, 35, 36] (by decide +kernel) (by decide +kernel)
set_option maxRecDepth 20000 in
theorem gX5_init_X3_init_n11 : GoodIn wsX5_init (wsX3_init) := ggX5_init_X3_init
theorem dX5_init_0 : decode cX5_init 0 = .ok (.aload_n 0, 1) := by decide +kernel
theorem dX5_init_1 : decode cX5_init 1 = .ok (.invokespecial 3, 3) := by decide +kernel
theorem dX5_init_4 : decode cX5_init 4 = .ok (.aload_n 0, 1) := by decide +kernel
theorem dX5_init_5 : decode cX5_init 5 = .ok (.new 9, 3) := by decide +kernel
theorem dX5_init_8 : decode cX5_init 8 = .ok (.dup, 1) := by decide +kernel
theorem dX5_init_9 : decode cX5_init 9 = .ok (.invokespecial 11, 3) := by decide +kernel
theorem dX5_init_12 : decode cX5_init 12 = .ok (.putfield 12, 3) := by decide +kernel
theorem dX5_init_15 : decode cX5_init 15 = .ok (.aload_n 0, 1) := by decide +kernel
theorem dX5_init_16 : decode cX5_init 16 = .ok (.bipush 24, 2) := by decide +kernel
theorem dX5_init_18 : decode cX5_init 18 = .ok (.newarray .int, 2) := by decide +kernel
theorem dX5_init_20 : decode cX5_init 20 = .ok (.putfield 18, 3) := by decide +kernel
theorem dX5_init_23 : decode cX5_init 23 = .ok (.return_, 1) := by decide +kernel
set_option maxRecDepth 20000 in
theorem ggX5_refresh_X5_takeAway : GoodIn wsX5_refresh wsX5_takeAway := goodIn_r _ [12, 13, 14, 15, 16, 17, 18, 19, 20, 21, 22, 23, 24, 25, 26, 27, 28, 29, 30, 31, 32, 33, 34, 35, 36, 37, 38, 39, 40, 41, 42, 43, 44, 45, 46, 47, 48, 89, 90, 91, 92, 93, 94, 95, 96, 97, 98] (by decide +kernel) (by decide +kernel)
set_option maxRecDepth 20000 in
theorem gX5_refresh_X5_takeAway : GoodIn wsX5_refresh (wsV RX5 36 RX5 yX5_takeAway wsX5_takeAway) := goodIn_app (goodIn_of _ (by decide +kernel)) ggX5_refresh_X5_takeAway
set_option maxRecDepth 20000 in
theorem ggX5_refresh_X5_listMarks : GoodIn wsX5_refresh wsX5_listMarks := goodIn_r _ [52, 13, 2, 53, 54, 55, 56, 57, 58, 59, 15, 16, 17, 18, 19, 20, 21, 22, 23, 24, 25, 26, 27, 28, 29, 30, 31, 32, 33, 34, 35, 36, 37, 38, 39, 60, 61, 62, 63, 45, 46, 47, 48, 64, 65, 66, 67, 68, 69, 70, 71, 72, 73, 74, 75, 76, 77, 78, 79, 89, 90, 80, 81, 82, 83, 84, 85, 86, 87, 88, 91, 92, 93, 94, 95, 96, 97, 98] (by decide +kernel) (by decide +kernel)
set_option maxRecDepth 20000 in
theorem gX5_refresh_X5_listMarks : GoodIn wsX5_refresh (wsV RX5 40 RX5 yX5_listMarks wsX5_listMarks) := goodIn_app (goodIn_of _ (by decide +kernel)) ggX5_refresh_X5_listMarks
theorem dX5_refresh_0 : decode cX5_refresh 0 = .ok (.aload_n 1, 1) := by decide +kernel
theorem dX5_refresh_1 : decode cX5_refresh 1 = .ok (.getfield 22, 3) := by decide +kernel
theorem dX5_refresh_4 : decode cX5_refresh 4 = .ok (.iconst 0, 1) := by decide +kernel
theorem dX5_refresh_5 : decode cX5_refresh 5 = .ok (.aload_n 1, 1) := by decide +kernel
theorem dX5_refresh_6 : decode cX5_refresh 6 = .ok (.getfield 27, 3) := by decide +kernel
theorem dX5_refresh_9 : decode cX5_refresh 9 = .ok (.iconst 0, 1) := by decide +kernel
theorem dX5_refresh_10 : decode cX5_refresh 10 = .ok (.bipush 24, 2) := by decide +kernel
theorem dX5_refresh_12 : decode cX5_refresh 12 = .ok (.invokestatic 30, 3) := by decide +kernel
theorem dX5_refresh_15 : decode cX5_refresh 15 = .ok (.iconst 1, 1) := by decide +kernel
theorem dX5_refresh_16 : decode cX5_refresh 16 = .ok (.istore_n 2, 1) := by decide +kernel
theorem dX5_refresh_17 : decode cX5_refresh 17 = .ok (.iconst 0, 1) := by decide +kernel
theorem dX5_refresh_18 : decode cX5_refresh 18 = .ok (.istore_n 3, 1) := by decide +kernel
theorem dX5_refresh_19 : decode cX5_refresh 19 = .ok (.iload_n 2, 1) := by decide +kernel
theorem dX5_refresh_20 : decode cX5_refresh 20 = .ok (.ifCond .eq 54, 3) := by decide +kernel
theorem dX5_refresh_23 : decode cX5_refresh 23 = .ok (.iload_n 3, 1) := by decide +kernel
theorem dX5_refresh_24 : decode cX5_refresh 24 = .ok (.sipush 576, 3) := by decide +kernel
theorem dX5_refresh_27 : decode cX5_refresh 27 = .ok (.if_icmp .gt 47, 3) := by decide +kernel
theorem dX5_refresh_30 : decode cX5_refresh 30 = .ok (.aload_n 0, 1) := by decide +kernel
theorem dX5_refresh_31 : decode cX5_refresh 31 = .ok (.aload_n 1, 1) := by decide +kernel
theorem dX5_refresh_32 : decode cX5_refresh 32 = .ok (.getfield 27, 3) := by decide +kernel
theorem dX5_refresh_35 : decode cX5_refresh 35 = .ok (.iconst 1, 1) := by decide +kernel
theorem dX5_refresh_36 : decode cX5_refresh 36 = .ok (.invokevirtual 36, 3) := by decide +kernel
theorem dX5_refresh_39 : decode cX5_refresh 39 = .ok (.istore 4, 2) := by decide +kernel
theorem dX5_refresh_41 : decode cX5_refresh 41 = .ok (.aload_n 0, 1) := by decide +kernel
theorem dX5_refresh_42 : decode cX5_refresh 42 = .ok (.aload_n 1, 1) := by decide +kernel
theorem dX5_refresh_43 : decode cX5_refresh 43 = .ok (.getfield 27, 3) := by decide +kernel
theorem dX5_refresh_46 : decode cX5_refresh 46 = .ok (.iconst 0, 1) := by decide +kernel
theorem dX5_refresh_47 : decode cX5_refresh 47 = .ok (.invokevirtual 36, 3) := by decide +kernel
theorem dX5_refresh_50 : decode cX5_refresh 50 = .ok (.istore 5, 2) := by decide +kernel
theorem dX5_refresh_52 : decode cX5_refresh 52 = .ok (.iload 4, 2) := by decide +kernel
theorem dX5_refresh_54 : decode cX5_refresh 54 = .ok (.ifCond .ne 8, 3) := by decide +kernel
theorem dX5_refresh_57 : decode cX5_refresh 57 = .ok (.iload 5, 2) := by decide +kernel
theorem dX5_refresh_59 : decode cX5_refresh 59 = .ok (.ifCond .eq 7, 3) := by decide +kernel
theorem dX5_refresh_62 : decode cX5_refresh 62 = .ok (.iconst 1, 1) := by decide +kernel
theorem dX5_refresh_63 : decode cX5_refresh 63 = .ok (.goto 4, 3) := by decide +kernel
theorem dX5_refresh_66 : decode cX5_refresh 66 = .ok (.iconst 0, 1) := by decide +kernel
theorem dX5_refresh_67 : decode cX5_refresh 67 = .ok (.istore_n 2, 1) := by decide +kernel
theorem dX5_refresh_68 : decode cX5_refresh 68 = .ok (.iinc 3 1, 3) := by decide +kernel
theorem dX5_refresh_71 : decode cX5_refresh 71 = .ok (.goto (-52), 3) := by decide +kernel
theorem dX5_refresh_74 : decode cX5_refresh 74 = .ok (.aload_n 0, 1) := by decide +kernel
theorem dX5_refresh_75 : decode cX5_refresh 75 = .ok (.aload_n 1, 1) := by decide +kernel
theorem dX5_refresh_76 : decode cX5_refresh 76 = .ok (.invokevirtual 40, 3) := by decide +kernel
theorem dX5_refresh_79 : decode cX5_refresh 79 = .ok (.aload_n 1, 1) := by decide +kernel
theorem dX5_refresh_80 : decode cX5_refresh 80 = .ok (.iconst 0, 1) := by decide +kernel
theorem dX5_refresh_81 : decode cX5_refresh 81 = .ok (.putfield 44, 3) := by decide +kernel
theorem dX5_refresh_84 : decode cX5_refresh 84 = .ok (.return_, 1) := by decide +kernel
set_option maxRecDepth 20000 in
theorem ggX5_takeAway_X3_look : GoodIn wsX5_takeAway wsX3_look := goodIn_r _ [7, 8, 9, 10, 11, 12, 13, 14, 6, 15, 16, 17, 18, 19, 20, 21, 22, 23, 24, 25, 26, 27, 39, 40, 41, 42, 43, 44, 45, 46] (by decide +kernel) (by decide +kernel)
set_option maxRecDepth 20000 in
theorem gX5_takeAway_X3_look : GoodIn wsX5_takeAway (wsV RX5 48 RX3 yX3_look wsX3_look) := goodIn_app (goodIn_of _ (by decide +kernel)) ggX5_takeAway_X3_look
set_option maxRecDepth 20000 in
theorem ggX5_takeAway_X3_takenInPass : GoodIn wsX5_takeAway wsX3_takenInPass := goodIn_r _ [31, 9, 8, 10, 32, 11, 12, 33, 34, 35, 19, 36, 21, 22, 39, 40, 41, 42, 43, 44, 45, 46] (by decide +kernel) (by decide +kernel)
set_option maxRecDepth 20000 in
theorem gX5_takeAway_X3_takenInPass : GoodIn wsX5_takeAway (wsV RX5 52 RX3 yX3_takenInPass wsX3_takenInPass) := goodIn_app (goodIn_of _ (by decide +kernel)) ggX5_takeAway_X3_takenInPass
theorem dX5_takeAway_0 : decode cX5_takeAway 0 = .ok (.iconst 0, 1) := by decide +kernel
theorem dX5_takeAway_1 : decode cX5_takeAway 1 = .ok (.istore_n 3, 1) := by decide +kernel
theorem dX5_takeAway_2 : decode cX5_takeAway 2 = .ok (.iconst 0, 1) := by decide +kernel
theorem dX5_takeAway_3 : decode cX5_takeAway 3 = .ok (.istore 4, 2) := by decide +kernel
theorem dX5_takeAway_5 : decode cX5_takeAway 5 = .ok (.iload 4, 2) := by decide +kernel
theorem dX5_takeAway_7 : decode cX5_takeAway 7 = .ok (.bipush 24, 2) := by decide +kernel
theorem dX5_takeAway_9 : decode cX5_takeAway 9 = .ok (.if_icmp .ge 44, 3) := by decide +kernel
theorem dX5_takeAway_12 : decode cX5_takeAway 12 = .ok (.aload_n 0, 1) := by decide +kernel
theorem dX5_takeAway_13 : decode cX5_takeAway 13 = .ok (.getfield 12, 3) := by decide +kernel
theorem dX5_takeAway_16 : decode cX5_takeAway 16 = .ok (.aload_n 1, 1) := by decide +kernel
theorem dX5_takeAway_17 : decode cX5_takeAway 17 = .ok (.iload 4, 2) := by decide +kernel
theorem dX5_takeAway_19 : decode cX5_takeAway 19 = .ok (.invokevirtual 48, 3) := by decide +kernel
theorem dX5_takeAway_22 : decode cX5_takeAway 22 = .ok (.aload_n 0, 1) := by decide +kernel
theorem dX5_takeAway_23 : decode cX5_takeAway 23 = .ok (.getfield 18, 3) := by decide +kernel
theorem dX5_takeAway_26 : decode cX5_takeAway 26 = .ok (.iload 4, 2) := by decide +kernel
theorem dX5_takeAway_28 : decode cX5_takeAway 28 = .ok (.aload_n 0, 1) := by decide +kernel
theorem dX5_takeAway_29 : decode cX5_takeAway 29 = .ok (.getfield 12, 3) := by decide +kernel
theorem dX5_takeAway_32 : decode cX5_takeAway 32 = .ok (.iload_n 2, 1) := by decide +kernel
theorem dX5_takeAway_33 : decode cX5_takeAway 33 = .ok (.invokevirtual 52, 3) := by decide +kernel
theorem dX5_takeAway_36 : decode cX5_takeAway 36 = .ok (.iastore, 1) := by decide +kernel
theorem dX5_takeAway_37 : decode cX5_takeAway 37 = .ok (.iload_n 3, 1) := by decide +kernel
theorem dX5_takeAway_38 : decode cX5_takeAway 38 = .ok (.aload_n 0, 1) := by decide +kernel
theorem dX5_takeAway_39 : decode cX5_takeAway 39 = .ok (.getfield 18, 3) := by decide +kernel
theorem dX5_takeAway_42 : decode cX5_takeAway 42 = .ok (.iload 4, 2) := by decide +kernel
theorem dX5_takeAway_44 : decode cX5_takeAway 44 = .ok (.iaload, 1) := by decide +kernel
theorem dX5_takeAway_45 : decode cX5_takeAway 45 = .ok (.ior, 1) := by decide +kernel
theorem dX5_takeAway_46 : decode cX5_takeAway 46 = .ok (.istore_n 3, 1) := by decide +kernel
theorem dX5_takeAway_47 : decode cX5_takeAway 47 = .ok (.iinc 4 1, 3) := by decide +kernel
theorem dX5_takeAway_50 : decode cX5_takeAway 50 = .ok (.goto (-45), 3) := by decide +kernel
theorem dX5_takeAway_53 : decode cX5_takeAway 53 = .ok (.iconst 0, 1) := by decide +kernel
theorem dX5_takeAway_54 : decode cX5_takeAway 54 = .ok (.istore 4, 2) := by decide +kernel
theorem dX5_takeAway_56 : decode cX5_takeAway 56 = .ok (.iload 4, 2) := by decide +kernel
theorem dX5_takeAway_58 : decode cX5_takeAway 58 = .ok (.bipush 24, 2) := by decide +kernel
theorem dX5_takeAway_60 : decode cX5_takeAway 60 = .ok (.if_icmp .ge 32, 3) := by decide +kernel
theorem dX5_takeAway_63 : decode cX5_takeAway 63 = .ok (.iload 4, 2) := by decide +kernel
theorem dX5_takeAway_65 : decode cX5_takeAway 65 = .ok (.aload_n 1, 1) := by decide +kernel
theorem dX5_takeAway_66 : decode cX5_takeAway 66 = .ok (.arraylength, 1) := by decide +kernel
theorem dX5_takeAway_67 : decode cX5_takeAway 67 = .ok (.if_icmp .ge 25, 3) := by decide +kernel
theorem dX5_takeAway_70 : decode cX5_takeAway 70 = .ok (.aload_n 1, 1) := by decide +kernel
theorem dX5_takeAway_71 : decode cX5_takeAway 71 = .ok (.iload 4, 2) := by decide +kernel
theorem dX5_takeAway_73 : decode cX5_takeAway 73 = .ok (.dup2, 1) := by decide +kernel
theorem dX5_takeAway_74 : decode cX5_takeAway 74 = .ok (.iaload, 1) := by decide +kernel
theorem dX5_takeAway_75 : decode cX5_takeAway 75 = .ok (.aload_n 0, 1) := by decide +kernel
theorem dX5_takeAway_76 : decode cX5_takeAway 76 = .ok (.getfield 18, 3) := by decide +kernel
theorem dX5_takeAway_79 : decode cX5_takeAway 79 = .ok (.iload 4, 2) := by decide +kernel
theorem dX5_takeAway_81 : decode cX5_takeAway 81 = .ok (.iaload, 1) := by decide +kernel
theorem dX5_takeAway_82 : decode cX5_takeAway 82 = .ok (.iconst (-1), 1) := by decide +kernel
theorem dX5_takeAway_83 : decode cX5_takeAway 83 = .ok (.ixor, 1) := by decide +kernel
theorem dX5_takeAway_84 : decode cX5_takeAway 84 = .ok (.iand, 1) := by decide +kernel
theorem dX5_takeAway_85 : decode cX5_takeAway 85 = .ok (.iastore, 1) := by decide +kernel
theorem dX5_takeAway_86 : decode cX5_takeAway 86 = .ok (.iinc 4 1, 3) := by decide +kernel
theorem dX5_takeAway_89 : decode cX5_takeAway 89 = .ok (.goto (-33), 3) := by decide +kernel
theorem dX5_takeAway_92 : decode cX5_takeAway 92 = .ok (.iload_n 3, 1) := by decide +kernel
theorem dX5_takeAway_93 : decode cX5_takeAway 93 = .ok (.ifCond .eq 7, 3) := by decide +kernel
theorem dX5_takeAway_96 : decode cX5_takeAway 96 = .ok (.iconst 1, 1) := by decide +kernel
theorem dX5_takeAway_97 : decode cX5_takeAway 97 = .ok (.goto 4, 3) := by decide +kernel
theorem dX5_takeAway_100 : decode cX5_takeAway 100 = .ok (.iconst 0, 1) := by decide +kernel
theorem dX5_takeAway_101 : decode cX5_takeAway 101 = .ok (.ireturn, 1) := by decide +kernel
set_option maxRecDepth 20000 in
theorem ggX5_listMarks_X0_clearMarks : GoodIn wsX5_listMarks wsX0_clearMarks := goodIn_r _ [7, 8, 9, 61, 62, 63, 64, 65, 66, 67, 68, 69] (by decide +kernel) (by decide +kernel)
set_option maxRecDepth 20000 in
theorem gX5_listMarks_X0_clearMarks : GoodIn wsX5_listMarks (wsV RX5 56 RX0 yX0_clearMarks wsX0_clearMarks) := goodIn_app (goodIn_of _ (by decide +kernel)) ggX5_listMarks_X0_clearMarks
set_option maxRecDepth 20000 in
theorem ggX5_listMarks_X3_look : GoodIn wsX5_listMarks wsX3_look := goodIn_r _ [14, 15, 16, 17, 18, 19, 20, 21, 13, 22, 23, 24, 25, 26, 27, 28, 29, 30, 31, 32, 33, 34, 70, 71, 72, 73, 74, 75, 76, 77] (by decide +kernel) (by decide +kernel)
set_option maxRecDepth 20000 in
theorem gX5_listMarks_X3_look : GoodIn wsX5_listMarks (wsV RX5 48 RX3 yX3_look wsX3_look) := goodIn_app (goodIn_of _ (by decide +kernel)) ggX5_listMarks_X3_look
set_option maxRecDepth 20000 in
theorem ggX5_listMarks_X3_ends : GoodIn wsX5_listMarks wsX3_ends := goodIn_r _ [38, 15, 17, 39, 40, 41, 26, 42, 28, 29, 70, 71, 72, 73, 74, 75, 76, 77] (by decide +kernel) (by decide +kernel)
set_option maxRecDepth 20000 in
theorem gX5_listMarks_X3_ends : GoodIn wsX5_listMarks (wsV RX5 59 RX3 yX3_ends wsX3_ends) := goodIn_app (goodIn_of _ (by decide +kernel)) ggX5_listMarks_X3_ends
set_option maxRecDepth 20000 in
theorem ggX5_listMarks_X3_forks : GoodIn wsX5_listMarks wsX3_forks := goodIn_r _ [46, 15, 19, 47, 70, 71, 72, 73, 74, 75, 76, 77] (by decide +kernel) (by decide +kernel)
set_option maxRecDepth 20000 in
theorem gX5_listMarks_X3_forks : GoodIn wsX5_listMarks (wsV RX5 63 RX3 yX3_forks wsX3_forks) := goodIn_app (goodIn_of _ (by decide +kernel)) ggX5_listMarks_X3_forks
set_option maxRecDepth 20000 in
theorem ggX5_listMarks_X3_directionOfEnd : GoodIn wsX5_listMarks wsX3_directionOfEnd := goodIn_r _ [51, 16, 70, 71, 72, 73, 74] (by decide +kernel) (by decide +kernel)
set_option maxRecDepth 20000 in
theorem gX5_listMarks_X3_directionOfEnd : GoodIn wsX5_listMarks (wsV RX5 66 RX3 yX3_directionOfEnd wsX3_directionOfEnd) := goodIn_app (goodIn_of _ (by decide +kernel)) ggX5_listMarks_X3_directionOfEnd
set_option maxRecDepth 20000 in
theorem ggX5_listMarks_X0_addMark : GoodIn wsX5_listMarks wsX0_addMark := goodIn_r _ [55, 8, 56, 57, 58, 9, 61, 62, 63, 64, 65, 66, 67, 68, 69] (by decide +kernel) (by decide +kernel)
set_option maxRecDepth 20000 in
theorem gX5_listMarks_X0_addMark : GoodIn wsX5_listMarks (wsV RX5 70 RX0 yX0_addMark wsX0_addMark) := goodIn_app (goodIn_of _ (by decide +kernel)) ggX5_listMarks_X0_addMark
theorem dX5_listMarks_0 : decode cX5_listMarks 0 = .ok (.aload_n 1, 1) := by decide +kernel
theorem dX5_listMarks_1 : decode cX5_listMarks 1 = .ok (.invokevirtual 56, 3) := by decide +kernel
theorem dX5_listMarks_4 : decode cX5_listMarks 4 = .ok (.iconst 1, 1) := by decide +kernel
theorem dX5_listMarks_5 : decode cX5_listMarks 5 = .ok (.istore_n 2, 1) := by decide +kernel
theorem dX5_listMarks_6 : decode cX5_listMarks 6 = .ok (.iload_n 2, 1) := by decide +kernel
theorem dX5_listMarks_7 : decode cX5_listMarks 7 = .ok (.bipush 23, 2) := by decide +kernel
theorem dX5_listMarks_9 : decode cX5_listMarks 9 = .ok (.if_icmp .ge 108, 3) := by decide +kernel
theorem dX5_listMarks_12 : decode cX5_listMarks 12 = .ok (.aload_n 0, 1) := by decide +kernel
theorem dX5_listMarks_13 : decode cX5_listMarks 13 = .ok (.getfield 12, 3) := by decide +kernel
theorem dX5_listMarks_16 : decode cX5_listMarks 16 = .ok (.aload_n 1, 1) := by decide +kernel
theorem dX5_listMarks_17 : decode cX5_listMarks 17 = .ok (.getfield 27, 3) := by decide +kernel
theorem dX5_listMarks_20 : decode cX5_listMarks 20 = .ok (.iload_n 2, 1) := by decide +kernel
theorem dX5_listMarks_21 : decode cX5_listMarks 21 = .ok (.invokevirtual 48, 3) := by decide +kernel
theorem dX5_listMarks_24 : decode cX5_listMarks 24 = .ok (.aload_n 0, 1) := by decide +kernel
theorem dX5_listMarks_25 : decode cX5_listMarks 25 = .ok (.getfield 12, 3) := by decide +kernel
theorem dX5_listMarks_28 : decode cX5_listMarks 28 = .ok (.invokevirtual 59, 3) := by decide +kernel
theorem dX5_listMarks_31 : decode cX5_listMarks 31 = .ok (.istore_n 3, 1) := by decide +kernel
theorem dX5_listMarks_32 : decode cX5_listMarks 32 = .ok (.aload_n 0, 1) := by decide +kernel
theorem dX5_listMarks_33 : decode cX5_listMarks 33 = .ok (.getfield 12, 3) := by decide +kernel
theorem dX5_listMarks_36 : decode cX5_listMarks 36 = .ok (.invokevirtual 63, 3) := by decide +kernel
theorem dX5_listMarks_39 : decode cX5_listMarks 39 = .ok (.istore 4, 2) := by decide +kernel
theorem dX5_listMarks_41 : decode cX5_listMarks 41 = .ok (.iconst 1, 1) := by decide +kernel
theorem dX5_listMarks_42 : decode cX5_listMarks 42 = .ok (.istore 5, 2) := by decide +kernel
theorem dX5_listMarks_44 : decode cX5_listMarks 44 = .ok (.iload_n 3, 1) := by decide +kernel
theorem dX5_listMarks_45 : decode cX5_listMarks 45 = .ok (.iload 4, 2) := by decide +kernel
theorem dX5_listMarks_47 : decode cX5_listMarks 47 = .ok (.ior, 1) := by decide +kernel
theorem dX5_listMarks_48 : decode cX5_listMarks 48 = .ok (.ifCond .eq 63, 3) := by decide +kernel
theorem dX5_listMarks_51 : decode cX5_listMarks 51 = .ok (.iload 5, 2) := by decide +kernel
theorem dX5_listMarks_53 : decode cX5_listMarks 53 = .ok (.bipush 23, 2) := by decide +kernel
theorem dX5_listMarks_55 : decode cX5_listMarks 55 = .ok (.if_icmp .ge 56, 3) := by decide +kernel
theorem dX5_listMarks_58 : decode cX5_listMarks 58 = .ok (.iload_n 3, 1) := by decide +kernel
theorem dX5_listMarks_59 : decode cX5_listMarks 59 = .ok (.iload 5, 2) := by decide +kernel
theorem dX5_listMarks_61 : decode cX5_listMarks 61 = .ok (.iushr, 1) := by decide +kernel
theorem dX5_listMarks_62 : decode cX5_listMarks 62 = .ok (.iconst 1, 1) := by decide +kernel
theorem dX5_listMarks_63 : decode cX5_listMarks 63 = .ok (.iand, 1) := by decide +kernel
theorem dX5_listMarks_64 : decode cX5_listMarks 64 = .ok (.ifCond .eq 22, 3) := by decide +kernel
theorem dX5_listMarks_67 : decode cX5_listMarks 67 = .ok (.aload_n 1, 1) := by decide +kernel
theorem dX5_listMarks_68 : decode cX5_listMarks 68 = .ok (.iload 5, 2) := by decide +kernel
theorem dX5_listMarks_70 : decode cX5_listMarks 70 = .ok (.iload_n 2, 1) := by decide +kernel
theorem dX5_listMarks_71 : decode cX5_listMarks 71 = .ok (.aload_n 0, 1) := by decide +kernel
theorem dX5_listMarks_72 : decode cX5_listMarks 72 = .ok (.getfield 12, 3) := by decide +kernel
theorem dX5_listMarks_75 : decode cX5_listMarks 75 = .ok (.iload 5, 2) := by decide +kernel
theorem dX5_listMarks_77 : decode cX5_listMarks 77 = .ok (.invokevirtual 66, 3) := by decide +kernel
theorem dX5_listMarks_80 : decode cX5_listMarks 80 = .ok (.invokevirtual 70, 3) := by decide +kernel
theorem dX5_listMarks_83 : decode cX5_listMarks 83 = .ok (.goto 22, 3) := by decide +kernel
theorem dX5_listMarks_86 : decode cX5_listMarks 86 = .ok (.iload 4, 2) := by decide +kernel
theorem dX5_listMarks_88 : decode cX5_listMarks 88 = .ok (.iload 5, 2) := by decide +kernel
theorem dX5_listMarks_90 : decode cX5_listMarks 90 = .ok (.iushr, 1) := by decide +kernel
theorem dX5_listMarks_91 : decode cX5_listMarks 91 = .ok (.iconst 1, 1) := by decide +kernel
theorem dX5_listMarks_92 : decode cX5_listMarks 92 = .ok (.iand, 1) := by decide +kernel
theorem dX5_listMarks_93 : decode cX5_listMarks 93 = .ok (.ifCond .eq 12, 3) := by decide +kernel
theorem dX5_listMarks_96 : decode cX5_listMarks 96 = .ok (.aload_n 1, 1) := by decide +kernel
theorem dX5_listMarks_97 : decode cX5_listMarks 97 = .ok (.iload 5, 2) := by decide +kernel
theorem dX5_listMarks_99 : decode cX5_listMarks 99 = .ok (.iload_n 2, 1) := by decide +kernel
theorem dX5_listMarks_100 : decode cX5_listMarks 100 = .ok (.bipush 8, 2) := by decide +kernel
theorem dX5_listMarks_102 : decode cX5_listMarks 102 = .ok (.invokevirtual 70, 3) := by decide +kernel
theorem dX5_listMarks_105 : decode cX5_listMarks 105 = .ok (.iinc 5 1, 3) := by decide +kernel
theorem dX5_listMarks_108 : decode cX5_listMarks 108 = .ok (.goto (-64), 3) := by decide +kernel
theorem dX5_listMarks_111 : decode cX5_listMarks 111 = .ok (.iinc 2 1, 3) := by decide +kernel
theorem dX5_listMarks_114 : decode cX5_listMarks 114 = .ok (.goto (-108), 3) := by decide +kernel
theorem dX5_listMarks_117 : decode cX5_listMarks 117 = .ok (.return_, 1) := by decide +kernel
set_option maxRecDepth 20000 in
theorem ggX6_init_X5_init : GoodIn wsX6_init wsX5_init := goodIn_r _ [22, 23, 2, 3, 24, 25, 26, 27, 28, 29, 30, 31, 32, 33, 34, 35, 36, 37, 38, 39, 40, 41, 42, 43, 44, 45, 46, 86, 87, 88, 89, 90, 71, 72, 91, 92, 93] (by decide +kernel) (by decide +kernel)
set_option maxRecDepth 20000 in
theorem gX6_init_X5_init_n23 : GoodIn wsX6_init (wsX5_init) := ggX6_init_X5_init
set_option maxRecDepth 20000 in
theorem ggX6_init_X2_init : GoodIn wsX6_init wsX2_init := goodIn_r _ [48, 49, 2, 3, 28, 50, 51, 52, 16, 53, 54, 55, 56, 57, 58, 59, 60, 61, 62, 73, 74, 75, 76, 77, 78, 79, 80, 81, 82, 83, 84, 85] (by decide +kernel) (by decide +kernel)
set_option maxRecDepth 20000 in
theorem gX6_init_X2_init_n30 : GoodIn wsX6_init (wsX2_init) := ggX6_init_X2_init
theorem dX6_init_0 : decode cX6_init 0 = .ok (.aload_n 0, 1) := by decide +kernel
theorem dX6_init_1 : decode cX6_init 1 = .ok (.invokespecial 3, 3) := by decide +kernel
theorem dX6_init_4 : decode cX6_init 4 = .ok (.aload_n 0, 1) := by decide +kernel
theorem dX6_init_5 : decode cX6_init 5 = .ok (.bipush 16, 2) := by decide +kernel
theorem dX6_init_7 : decode cX6_init 7 = .ok (.anewarray 9, 3) := by decide +kernel
theorem dX6_init_10 : decode cX6_init 10 = .ok (.putfield 11, 3) := by decide +kernel
theorem dX6_init_13 : decode cX6_init 13 = .ok (.aload_n 0, 1) := by decide +kernel
theorem dX6_init_14 : decode cX6_init 14 = .ok (.sipush 256, 3) := by decide +kernel
theorem dX6_init_17 : decode cX6_init 17 = .ok (.anewarray 15, 3) := by decide +kernel
theorem dX6_init_20 : decode cX6_init 20 = .ok (.putfield 17, 3) := by decide +kernel
theorem dX6_init_23 : decode cX6_init 23 = .ok (.aload_n 0, 1) := by decide +kernel
theorem dX6_init_24 : decode cX6_init 24 = .ok (.new 21, 3) := by decide +kernel
theorem dX6_init_27 : decode cX6_init 27 = .ok (.dup, 1) := by decide +kernel
theorem dX6_init_28 : decode cX6_init 28 = .ok (.invokespecial 23, 3) := by decide +kernel
theorem dX6_init_31 : decode cX6_init 31 = .ok (.putfield 24, 3) := by decide +kernel
theorem dX6_init_34 : decode cX6_init 34 = .ok (.aload_n 0, 1) := by decide +kernel
theorem dX6_init_35 : decode cX6_init 35 = .ok (.new 28, 3) := by decide +kernel
theorem dX6_init_38 : decode cX6_init 38 = .ok (.dup, 1) := by decide +kernel
theorem dX6_init_39 : decode cX6_init 39 = .ok (.invokespecial 30, 3) := by decide +kernel
theorem dX6_init_42 : decode cX6_init 42 = .ok (.putfield 31, 3) := by decide +kernel
theorem dX6_init_45 : decode cX6_init 45 = .ok (.aload_n 0, 1) := by decide +kernel
theorem dX6_init_46 : decode cX6_init 46 = .ok (.bipush 13, 2) := by decide +kernel
theorem dX6_init_48 : decode cX6_init 48 = .ok (.newarray .long, 2) := by decide +kernel
theorem dX6_init_50 : decode cX6_init 50 = .ok (.putfield 35, 3) := by decide +kernel
theorem dX6_init_53 : decode cX6_init 53 = .ok (.aload_n 0, 1) := by decide +kernel
theorem dX6_init_54 : decode cX6_init 54 = .ok (.iconst 0, 1) := by decide +kernel
theorem dX6_init_55 : decode cX6_init 55 = .ok (.putfield 39, 3) := by decide +kernel
theorem dX6_init_58 : decode cX6_init 58 = .ok (.aload_n 0, 1) := by decide +kernel
theorem dX6_init_59 : decode cX6_init 59 = .ok (.iconst 1, 1) := by decide +kernel
theorem dX6_init_60 : decode cX6_init 60 = .ok (.putfield 43, 3) := by decide +kernel
theorem dX6_init_63 : decode cX6_init 63 = .ok (.aload_n 0, 1) := by decide +kernel
theorem dX6_init_64 : decode cX6_init 64 = .ok (.iconst 0, 1) := by decide +kernel
theorem dX6_init_65 : decode cX6_init 65 = .ok (.putfield 46, 3) := by decide +kernel
theorem dX6_init_68 : decode cX6_init 68 = .ok (.return_, 1) := by decide +kernel
set_option maxRecDepth 20000 in
theorem ggX6_print_X6_refuse : GoodIn wsX6_print wsX6_refuse := goodIn_r _ [11, 2, 27, 28, 29, 30, 31, 32, 33, 34] (by decide +kernel) (by decide +kernel)
set_option maxRecDepth 20000 in
theorem gX6_print_X6_refuse : GoodIn wsX6_print (wsV RX6 49 RX6 yX6_refuse wsX6_refuse) := goodIn_app (goodIn_of _ (by decide +kernel)) ggX6_print_X6_refuse
set_option maxRecDepth 20000 in
theorem ggX6_print_X0_init : GoodIn wsX6_print wsX0_init := goodIn_r _ [13, 14, 15, 16, 17, 18, 19, 20, 21, 22, 23, 24, 25, 26, 35, 36, 37, 38, 39, 40, 41, 42, 43] (by decide +kernel) (by decide +kernel)
set_option maxRecDepth 20000 in
theorem gX6_print_X0_init_n53 : GoodIn wsX6_print (wsX0_init) := ggX6_print_X0_init
theorem dX6_print_0 : decode cX6_print 0 = .ok (.aload_n 0, 1) := by decide +kernel
theorem dX6_print_1 : decode cX6_print 1 = .ok (.getfield 39, 3) := by decide +kernel
theorem dX6_print_4 : decode cX6_print 4 = .ok (.bipush 16, 2) := by decide +kernel
theorem dX6_print_6 : decode cX6_print 6 = .ok (.if_icmp .lt 10, 3) := by decide +kernel
theorem dX6_print_9 : decode cX6_print 9 = .ok (.aload_n 0, 1) := by decide +kernel
theorem dX6_print_10 : decode cX6_print 10 = .ok (.bipush (-5), 2) := by decide +kernel
theorem dX6_print_12 : decode cX6_print 12 = .ok (.invokevirtual 49, 3) := by decide +kernel
theorem dX6_print_15 : decode cX6_print 15 = .ok (.ireturn, 1) := by decide +kernel
theorem dX6_print_16 : decode cX6_print 16 = .ok (.aload_n 0, 1) := by decide +kernel
theorem dX6_print_17 : decode cX6_print 17 = .ok (.iconst 0, 1) := by decide +kernel
theorem dX6_print_18 : decode cX6_print 18 = .ok (.putfield 46, 3) := by decide +kernel
theorem dX6_print_21 : decode cX6_print 21 = .ok (.aload_n 0, 1) := by decide +kernel
theorem dX6_print_22 : decode cX6_print 22 = .ok (.getfield 11, 3) := by decide +kernel
theorem dX6_print_25 : decode cX6_print 25 = .ok (.aload_n 0, 1) := by decide +kernel
theorem dX6_print_26 : decode cX6_print 26 = .ok (.getfield 39, 3) := by decide +kernel
theorem dX6_print_29 : decode cX6_print 29 = .ok (.new 9, 3) := by decide +kernel
theorem dX6_print_32 : decode cX6_print 32 = .ok (.dup, 1) := by decide +kernel
theorem dX6_print_33 : decode cX6_print 33 = .ok (.invokespecial 53, 3) := by decide +kernel
theorem dX6_print_36 : decode cX6_print 36 = .ok (.aastore, 1) := by decide +kernel
theorem dX6_print_37 : decode cX6_print 37 = .ok (.aload_n 0, 1) := by decide +kernel
theorem dX6_print_38 : decode cX6_print 38 = .ok (.dup, 1) := by decide +kernel
theorem dX6_print_39 : decode cX6_print 39 = .ok (.getfield 39, 3) := by decide +kernel
theorem dX6_print_42 : decode cX6_print 42 = .ok (.iconst 1, 1) := by decide +kernel
theorem dX6_print_43 : decode cX6_print 43 = .ok (.iadd, 1) := by decide +kernel
theorem dX6_print_44 : decode cX6_print 44 = .ok (.putfield 39, 3) := by decide +kernel
theorem dX6_print_47 : decode cX6_print 47 = .ok (.aload_n 0, 1) := by decide +kernel
theorem dX6_print_48 : decode cX6_print 48 = .ok (.getfield 39, 3) := by decide +kernel
theorem dX6_print_51 : decode cX6_print 51 = .ok (.iconst 1, 1) := by decide +kernel
theorem dX6_print_52 : decode cX6_print 52 = .ok (.isub, 1) := by decide +kernel
theorem dX6_print_53 : decode cX6_print 53 = .ok (.ireturn, 1) := by decide +kernel
set_option maxRecDepth 20000 in
theorem ggX6_row_X6_isOnBoard : GoodIn wsX6_row wsX6_isOnBoard := goodIn_r _ [6] (by decide +kernel) (by decide +kernel)
set_option maxRecDepth 20000 in
theorem gX6_row_X6_isOnBoard : GoodIn wsX6_row (va_wsS RX6 54 yX6_isOnBoard wsX6_isOnBoard) := goodIn_app (goodIn_of _ (by decide +kernel)) ggX6_row_X6_isOnBoard
set_option maxRecDepth 20000 in
theorem ggX6_row_X6_refuse : GoodIn wsX6_row wsX6_refuse := goodIn_r _ [10, 1, 25, 26, 27, 28, 29, 30, 31, 32] (by decide +kernel) (by decide +kernel)
set_option maxRecDepth 20000 in
theorem gX6_row_X6_refuse : GoodIn wsX6_row (wsV RX6 49 RX6 yX6_refuse wsX6_refuse) := goodIn_app (goodIn_of _ (by decide +kernel)) ggX6_row_X6_refuse
set_option maxRecDepth 20000 in
theorem ggX6_row_X6_boardOf : GoodIn wsX6_row wsX6_boardOf := goodIn_r _ [14, 15, 16, 25, 26, 27, 28, 29, 30, 31, 32] (by decide +kernel) (by decide +kernel)
set_option maxRecDepth 20000 in
theorem gX6_row_X6_boardOf : GoodIn wsX6_row (wsV RX6 58 RX6 yX6_boardOf wsX6_boardOf) := goodIn_app (goodIn_of _ (by decide +kernel)) ggX6_row_X6_boardOf
set_option maxRecDepth 20000 in
theorem ggX6_row_X0_tell : GoodIn wsX6_row wsX0_tell := goodIn_r _ [21, 22, 23, 24, 4, 5, 6, 33, 34, 35, 36, 37, 38, 39, 40, 41] (by decide +kernel) (by decide +kernel)
set_option maxRecDepth 20000 in
theorem gX6_row_X0_tell : GoodIn wsX6_row (wsV RX6 63 RX0 yX0_tell wsX0_tell) := goodIn_app (goodIn_of _ (by decide +kernel)) ggX6_row_X0_tell
theorem dX6_row_0 : decode cX6_row 0 = .ok (.iload_n 2, 1) := by decide +kernel
theorem dX6_row_1 : decode cX6_row 1 = .ok (.invokestatic 54, 3) := by decide +kernel
theorem dX6_row_4 : decode cX6_row 4 = .ok (.ifCond .ne 9, 3) := by decide +kernel
theorem dX6_row_7 : decode cX6_row 7 = .ok (.aload_n 0, 1) := by decide +kernel
theorem dX6_row_8 : decode cX6_row 8 = .ok (.iconst (-1), 1) := by decide +kernel
theorem dX6_row_9 : decode cX6_row 9 = .ok (.invokevirtual 49, 3) := by decide +kernel
theorem dX6_row_12 : decode cX6_row 12 = .ok (.ireturn, 1) := by decide +kernel
theorem dX6_row_13 : decode cX6_row 13 = .ok (.aload_n 0, 1) := by decide +kernel
theorem dX6_row_14 : decode cX6_row 14 = .ok (.iload_n 1, 1) := by decide +kernel
theorem dX6_row_15 : decode cX6_row 15 = .ok (.invokevirtual 58, 3) := by decide +kernel
theorem dX6_row_18 : decode cX6_row 18 = .ok (.astore 4, 2) := by decide +kernel
theorem dX6_row_20 : decode cX6_row 20 = .ok (.aload 4, 2) := by decide +kernel
theorem dX6_row_22 : decode cX6_row 22 = .ok (.ifnonnull 10, 3) := by decide +kernel
theorem dX6_row_25 : decode cX6_row 25 = .ok (.aload_n 0, 1) := by decide +kernel
theorem dX6_row_26 : decode cX6_row 26 = .ok (.bipush (-2), 2) := by decide +kernel
theorem dX6_row_28 : decode cX6_row 28 = .ok (.invokevirtual 49, 3) := by decide +kernel
theorem dX6_row_31 : decode cX6_row 31 = .ok (.ireturn, 1) := by decide +kernel
theorem dX6_row_32 : decode cX6_row 32 = .ok (.aload_n 0, 1) := by decide +kernel
theorem dX6_row_33 : decode cX6_row 33 = .ok (.iconst 0, 1) := by decide +kernel
theorem dX6_row_34 : decode cX6_row 34 = .ok (.putfield 46, 3) := by decide +kernel
theorem dX6_row_37 : decode cX6_row 37 = .ok (.aload 4, 2) := by decide +kernel
theorem dX6_row_39 : decode cX6_row 39 = .ok (.iload_n 2, 1) := by decide +kernel
theorem dX6_row_40 : decode cX6_row 40 = .ok (.iload_n 3, 1) := by decide +kernel
theorem dX6_row_41 : decode cX6_row 41 = .ok (.ldc 62, 2) := by decide +kernel
theorem dX6_row_43 : decode cX6_row 43 = .ok (.iand, 1) := by decide +kernel
theorem dX6_row_44 : decode cX6_row 44 = .ok (.invokevirtual 63, 3) := by decide +kernel
theorem dX6_row_47 : decode cX6_row 47 = .ok (.iconst 0, 1) := by decide +kernel
theorem dX6_row_48 : decode cX6_row 48 = .ok (.ireturn, 1) := by decide +kernel
set_option maxRecDepth 20000 in
theorem ggX6_cell_X6_isOnBoard : GoodIn wsX6_cell wsX6_isOnBoard := goodIn_r _ [6] (by decide +kernel) (by decide +kernel)
set_option maxRecDepth 20000 in
theorem gX6_cell_X6_isOnBoard : GoodIn wsX6_cell (va_wsS RX6 54 yX6_isOnBoard wsX6_isOnBoard) := goodIn_app (goodIn_of _ (by decide +kernel)) ggX6_cell_X6_isOnBoard
set_option maxRecDepth 20000 in
theorem ggX6_cell_X6_boardOf : GoodIn wsX6_cell wsX6_boardOf := goodIn_r _ [10, 11, 12, 111, 112, 113, 114, 115, 116, 117, 118] (by decide +kernel) (by decide +kernel)
set_option maxRecDepth 20000 in
theorem gX6_cell_X6_boardOf : GoodIn wsX6_cell (wsV RX6 58 RX6 yX6_boardOf wsX6_boardOf) := goodIn_app (goodIn_of _ (by decide +kernel)) ggX6_cell_X6_boardOf
set_option maxRecDepth 20000 in
theorem ggX6_cell_X6_freshBoard : GoodIn wsX6_cell wsX6_freshBoard := goodIn_r _ [16, 17, 18, 7, 8, 9, 5, 10, 11, 12, 19, 20, 21, 22, 23, 24, 25, 26, 27, 28, 29, 30, 31, 32, 33, 34, 35, 36, 37, 38, 39, 40, 41, 42, 43, 44, 45, 46, 47, 48, 49, 50, 51, 52, 53, 54, 55, 56, 57, 58, 59, 60, 61, 62, 63, 64, 65, 66, 67, 68, 69, 70, 71, 72, 73, 74, 75, 76, 77, 78, 79, 80, 81, 82, 83, 84, 85, 86, 87, 88, 89, 90, 91, 92, 93, 94, 95, 96, 97, 98, 99, 100, 101, 102, 103, 104, 105, 106, 107, 108, 109, 110, 111, 112, 113, 114, 115, 116, 117, 118, 119, 120, 121, 122, 123, 124, 125, 126, 127, 128] (by decide +kernel) (by decide +kernel)
set_option maxRecDepth 20000 in
theorem gX6_cell_X6_freshBoard : GoodIn wsX6_cell (wsV RX6 67 RX6 yX6_freshBoard wsX6_freshBoard) := goodIn_app (goodIn_of _ (by decide +kernel)) ggX6_cell_X6_freshBoard
theorem dX6_cell_0 : decode cX6_cell 0 = .ok (.iload_n 2, 1) := by decide +kernel
theorem dX6_cell_1 : decode cX6_cell 1 = .ok (.invokestatic 54, 3) := by decide +kernel
theorem dX6_cell_4 : decode cX6_cell 4 = .ok (.ifCond .eq 21, 3) := by decide +kernel
theorem dX6_cell_7 : decode cX6_cell 7 = .ok (.iload_n 3, 1) := by decide +kernel
theorem dX6_cell_8 : decode cX6_cell 8 = .ok (.invokestatic 54, 3) := by decide +kernel
theorem dX6_cell_11 : decode cX6_cell 11 = .ok (.ifCond .eq 14, 3) := by decide +kernel
theorem dX6_cell_14 : decode cX6_cell 14 = .ok (.iload 4, 2) := by decide +kernel
theorem dX6_cell_16 : decode cX6_cell 16 = .ok (.ifCond .lt 9, 3) := by decide +kernel
theorem dX6_cell_19 : decode cX6_cell 19 = .ok (.iload 4, 2) := by decide +kernel
theorem dX6_cell_21 : decode cX6_cell 21 = .ok (.iconst 1, 1) := by decide +kernel
theorem dX6_cell_22 : decode cX6_cell 22 = .ok (.if_icmp .le 5, 3) := by decide +kernel
theorem dX6_cell_25 : decode cX6_cell 25 = .ok (.iconst (-1), 1) := by decide +kernel
theorem dX6_cell_26 : decode cX6_cell 26 = .ok (.ireturn, 1) := by decide +kernel
theorem dX6_cell_27 : decode cX6_cell 27 = .ok (.iload 4, 2) := by decide +kernel
theorem dX6_cell_29 : decode cX6_cell 29 = .ok (.ifCond .ne 11, 3) := by decide +kernel
theorem dX6_cell_32 : decode cX6_cell 32 = .ok (.aload_n 0, 1) := by decide +kernel
theorem dX6_cell_33 : decode cX6_cell 33 = .ok (.iload_n 1, 1) := by decide +kernel
theorem dX6_cell_34 : decode cX6_cell 34 = .ok (.invokevirtual 58, 3) := by decide +kernel
theorem dX6_cell_37 : decode cX6_cell 37 = .ok (.goto 8, 3) := by decide +kernel
theorem dX6_cell_40 : decode cX6_cell 40 = .ok (.aload_n 0, 1) := by decide +kernel
theorem dX6_cell_41 : decode cX6_cell 41 = .ok (.iload_n 1, 1) := by decide +kernel
theorem dX6_cell_42 : decode cX6_cell 42 = .ok (.invokevirtual 67, 3) := by decide +kernel
theorem dX6_cell_45 : decode cX6_cell 45 = .ok (.astore 5, 2) := by decide +kernel
theorem dX6_cell_47 : decode cX6_cell 47 = .ok (.aload 5, 2) := by decide +kernel
theorem dX6_cell_49 : decode cX6_cell 49 = .ok (.ifnonnull 5, 3) := by decide +kernel
theorem dX6_cell_52 : decode cX6_cell 52 = .ok (.iconst (-1), 1) := by decide +kernel
theorem dX6_cell_53 : decode cX6_cell 53 = .ok (.ireturn, 1) := by decide +kernel
theorem dX6_cell_54 : decode cX6_cell 54 = .ok (.iload 4, 2) := by decide +kernel
theorem dX6_cell_56 : decode cX6_cell 56 = .ok (.ifCond .ne 13, 3) := by decide +kernel
theorem dX6_cell_59 : decode cX6_cell 59 = .ok (.aload 5, 2) := by decide +kernel
theorem dX6_cell_61 : decode cX6_cell 61 = .ok (.getfield 70, 3) := by decide +kernel
theorem dX6_cell_64 : decode cX6_cell 64 = .ok (.iload_n 3, 1) := by decide +kernel
theorem dX6_cell_65 : decode cX6_cell 65 = .ok (.iaload, 1) := by decide +kernel
theorem dX6_cell_66 : decode cX6_cell 66 = .ok (.goto 10, 3) := by decide +kernel
theorem dX6_cell_69 : decode cX6_cell 69 = .ok (.aload 5, 2) := by decide +kernel
theorem dX6_cell_71 : decode cX6_cell 71 = .ok (.getfield 74, 3) := by decide +kernel
theorem dX6_cell_74 : decode cX6_cell 74 = .ok (.iload_n 3, 1) := by decide +kernel
theorem dX6_cell_75 : decode cX6_cell 75 = .ok (.iaload, 1) := by decide +kernel
theorem dX6_cell_76 : decode cX6_cell 76 = .ok (.istore 6, 2) := by decide +kernel
theorem dX6_cell_78 : decode cX6_cell 78 = .ok (.iload 6, 2) := by decide +kernel
theorem dX6_cell_80 : decode cX6_cell 80 = .ok (.iload_n 2, 1) := by decide +kernel
theorem dX6_cell_81 : decode cX6_cell 81 = .ok (.iushr, 1) := by decide +kernel
theorem dX6_cell_82 : decode cX6_cell 82 = .ok (.iconst 1, 1) := by decide +kernel
theorem dX6_cell_83 : decode cX6_cell 83 = .ok (.iand, 1) := by decide +kernel
theorem dX6_cell_84 : decode cX6_cell 84 = .ok (.ireturn, 1) := by decide +kernel
set_option maxRecDepth 20000 in
theorem ggX6_thin_X6_freshBoard : GoodIn wsX6_thin wsX6_freshBoard := goodIn_r _ [6, 7, 8, 9, 10, 11, 5, 12, 13, 14, 15, 16, 17, 18, 19, 20, 21, 22, 23, 24, 25, 26, 27, 28, 29, 30, 31, 32, 33, 34, 35, 36, 37, 38, 39, 40, 41, 42, 43, 44, 45, 46, 47, 48, 49, 50, 51, 52, 53, 54, 55, 56, 57, 58, 59, 60, 61, 62, 63, 64, 65, 66, 67, 68, 69, 70, 71, 72, 73, 74, 75, 76, 77, 78, 79, 80, 81, 82, 83, 84, 85, 86, 87, 88, 89, 90, 91, 92, 93, 94, 95, 96, 97, 101, 102, 103, 104, 105, 106, 107, 108, 109, 110, 111, 112, 113, 114, 115, 116, 117, 118, 119, 120, 121, 122, 123, 124, 125, 126, 127] (by decide +kernel) (by decide +kernel)
set_option maxRecDepth 20000 in
theorem gX6_thin_X6_freshBoard : GoodIn wsX6_thin (wsV RX6 67 RX6 yX6_freshBoard wsX6_freshBoard) := goodIn_app (goodIn_of _ (by decide +kernel)) ggX6_thin_X6_freshBoard
set_option maxRecDepth 20000 in
theorem ggX6_thin_X6_isOnBoard : GoodIn wsX6_thin wsX6_isOnBoard := goodIn_r _ [100] (by decide +kernel) (by decide +kernel)
set_option maxRecDepth 20000 in
theorem gX6_thin_X6_isOnBoard : GoodIn wsX6_thin (va_wsS RX6 54 yX6_isOnBoard wsX6_isOnBoard) := goodIn_app (goodIn_of _ (by decide +kernel)) ggX6_thin_X6_isOnBoard
theorem dX6_thin_0 : decode cX6_thin 0 = .ok (.aload_n 0, 1) := by decide +kernel
theorem dX6_thin_1 : decode cX6_thin 1 = .ok (.iload_n 1, 1) := by decide +kernel
theorem dX6_thin_2 : decode cX6_thin 2 = .ok (.invokevirtual 67, 3) := by decide +kernel
theorem dX6_thin_5 : decode cX6_thin 5 = .ok (.astore_n 3, 1) := by decide +kernel
theorem dX6_thin_6 : decode cX6_thin 6 = .ok (.aload_n 3, 1) := by decide +kernel
theorem dX6_thin_7 : decode cX6_thin 7 = .ok (.ifnull 10, 3) := by decide +kernel
theorem dX6_thin_10 : decode cX6_thin 10 = .ok (.iload_n 2, 1) := by decide +kernel
theorem dX6_thin_11 : decode cX6_thin 11 = .ok (.invokestatic 54, 3) := by decide +kernel
theorem dX6_thin_14 : decode cX6_thin 14 = .ok (.ifCond .ne 5, 3) := by decide +kernel
theorem dX6_thin_17 : decode cX6_thin 17 = .ok (.iconst 0, 1) := by decide +kernel
theorem dX6_thin_18 : decode cX6_thin 18 = .ok (.ireturn, 1) := by decide +kernel
theorem dX6_thin_19 : decode cX6_thin 19 = .ok (.aload_n 3, 1) := by decide +kernel
theorem dX6_thin_20 : decode cX6_thin 20 = .ok (.getfield 74, 3) := by decide +kernel
theorem dX6_thin_23 : decode cX6_thin 23 = .ok (.iload_n 2, 1) := by decide +kernel
theorem dX6_thin_24 : decode cX6_thin 24 = .ok (.iaload, 1) := by decide +kernel
theorem dX6_thin_25 : decode cX6_thin 25 = .ok (.ireturn, 1) := by decide +kernel
set_option maxRecDepth 20000 in
theorem ggX6_mark_X6_freshBoard : GoodIn wsX6_mark wsX6_freshBoard := goodIn_r _ [10, 11, 12, 13, 14, 15, 9, 16, 17, 18, 19, 20, 21, 22, 23, 24, 25, 26, 27, 28, 29, 30, 31, 32, 33, 34, 35, 36, 37, 38, 39, 40, 41, 42, 43, 44, 45, 46, 47, 48, 49, 50, 51, 52, 53, 54, 55, 56, 57, 58, 59, 60, 61, 62, 63, 64, 65, 66, 67, 68, 69, 70, 71, 72, 73, 74, 75, 76, 77, 78, 79, 80, 81, 82, 83, 84, 85, 86, 87, 88, 89, 90, 91, 92, 93, 94, 95, 96, 97, 98, 99, 100, 101, 106, 107, 108, 109, 110, 111, 112, 113, 114, 115, 116, 117, 118, 119, 120, 121, 122, 123, 124, 125, 126, 127, 128, 129, 130, 131, 132] (by decide +kernel) (by decide +kernel)
set_option maxRecDepth 20000 in
theorem gX6_mark_X6_freshBoard : GoodIn wsX6_mark (wsV RX6 67 RX6 yX6_freshBoard wsX6_freshBoard) := goodIn_app (goodIn_of _ (by decide +kernel)) ggX6_mark_X6_freshBoard
set_option maxRecDepth 20000 in
theorem ggX6_mark_X0_forkCount : GoodIn wsX6_mark wsX0_forkCount := goodIn_r _ [105, 80, 81, 106, 107, 108, 109, 110, 111, 112, 113, 114] (by decide +kernel) (by decide +kernel)
set_option maxRecDepth 20000 in
theorem gX6_mark_X0_forkCount : GoodIn wsX6_mark (wsV RX6 83 RX0 yX0_forkCount wsX0_forkCount) := goodIn_app (goodIn_of _ (by decide +kernel)) ggX6_mark_X0_forkCount
theorem dX6_mark_0 : decode cX6_mark 0 = .ok (.aload_n 0, 1) := by decide +kernel
theorem dX6_mark_1 : decode cX6_mark 1 = .ok (.iload_n 1, 1) := by decide +kernel
theorem dX6_mark_2 : decode cX6_mark 2 = .ok (.invokevirtual 67, 3) := by decide +kernel
theorem dX6_mark_5 : decode cX6_mark 5 = .ok (.astore 4, 2) := by decide +kernel
theorem dX6_mark_7 : decode cX6_mark 7 = .ok (.aload 4, 2) := by decide +kernel
theorem dX6_mark_9 : decode cX6_mark 9 = .ok (.ifnull 12, 3) := by decide +kernel
theorem dX6_mark_12 : decode cX6_mark 12 = .ok (.iload_n 3, 1) := by decide +kernel
theorem dX6_mark_13 : decode cX6_mark 13 = .ok (.ifCond .lt 8, 3) := by decide +kernel
theorem dX6_mark_16 : decode cX6_mark 16 = .ok (.iload_n 3, 1) := by decide +kernel
theorem dX6_mark_17 : decode cX6_mark 17 = .ok (.iconst 2, 1) := by decide +kernel
theorem dX6_mark_18 : decode cX6_mark 18 = .ok (.if_icmp .le 5, 3) := by decide +kernel
theorem dX6_mark_21 : decode cX6_mark 21 = .ok (.iconst (-1), 1) := by decide +kernel
theorem dX6_mark_22 : decode cX6_mark 22 = .ok (.ireturn, 1) := by decide +kernel
theorem dX6_mark_23 : decode cX6_mark 23 = .ok (.iload_n 2, 1) := by decide +kernel
theorem dX6_mark_24 : decode cX6_mark 24 = .ok (.iconst (-1), 1) := by decide +kernel
theorem dX6_mark_25 : decode cX6_mark 25 = .ok (.if_icmp .ne 34, 3) := by decide +kernel
theorem dX6_mark_28 : decode cX6_mark 28 = .ok (.iload_n 3, 1) := by decide +kernel
theorem dX6_mark_29 : decode cX6_mark 29 = .ok (.ifCond .ne 11, 3) := by decide +kernel
theorem dX6_mark_32 : decode cX6_mark 32 = .ok (.aload 4, 2) := by decide +kernel
theorem dX6_mark_34 : decode cX6_mark 34 = .ok (.getfield 77, 3) := by decide +kernel
theorem dX6_mark_37 : decode cX6_mark 37 = .ok (.goto 21, 3) := by decide +kernel
theorem dX6_mark_40 : decode cX6_mark 40 = .ok (.iload_n 3, 1) := by decide +kernel
theorem dX6_mark_41 : decode cX6_mark 41 = .ok (.iconst 1, 1) := by decide +kernel
theorem dX6_mark_42 : decode cX6_mark 42 = .ok (.if_icmp .ne 11, 3) := by decide +kernel
theorem dX6_mark_45 : decode cX6_mark 45 = .ok (.aload 4, 2) := by decide +kernel
theorem dX6_mark_47 : decode cX6_mark 47 = .ok (.getfield 80, 3) := by decide +kernel
theorem dX6_mark_50 : decode cX6_mark 50 = .ok (.goto 8, 3) := by decide +kernel
theorem dX6_mark_53 : decode cX6_mark 53 = .ok (.aload 4, 2) := by decide +kernel
theorem dX6_mark_55 : decode cX6_mark 55 = .ok (.invokevirtual 83, 3) := by decide +kernel
theorem dX6_mark_58 : decode cX6_mark 58 = .ok (.ireturn, 1) := by decide +kernel
theorem dX6_mark_59 : decode cX6_mark 59 = .ok (.iload_n 2, 1) := by decide +kernel
theorem dX6_mark_60 : decode cX6_mark 60 = .ok (.ifCond .lt 18, 3) := by decide +kernel
theorem dX6_mark_63 : decode cX6_mark 63 = .ok (.iload_n 2, 1) := by decide +kernel
theorem dX6_mark_64 : decode cX6_mark 64 = .ok (.aload 4, 2) := by decide +kernel
theorem dX6_mark_66 : decode cX6_mark 66 = .ok (.getfield 77, 3) := by decide +kernel
theorem dX6_mark_69 : decode cX6_mark 69 = .ok (.if_icmp .ge 9, 3) := by decide +kernel
theorem dX6_mark_72 : decode cX6_mark 72 = .ok (.iload_n 2, 1) := by decide +kernel
theorem dX6_mark_73 : decode cX6_mark 73 = .ok (.bipush 40, 2) := by decide +kernel
theorem dX6_mark_75 : decode cX6_mark 75 = .ok (.if_icmp .lt 5, 3) := by decide +kernel
theorem dX6_mark_78 : decode cX6_mark 78 = .ok (.iconst (-1), 1) := by decide +kernel
theorem dX6_mark_79 : decode cX6_mark 79 = .ok (.ireturn, 1) := by decide +kernel
theorem dX6_mark_80 : decode cX6_mark 80 = .ok (.iload_n 3, 1) := by decide +kernel
theorem dX6_mark_81 : decode cX6_mark 81 = .ok (.ifCond .ne 13, 3) := by decide +kernel
theorem dX6_mark_84 : decode cX6_mark 84 = .ok (.aload 4, 2) := by decide +kernel
theorem dX6_mark_86 : decode cX6_mark 86 = .ok (.getfield 87, 3) := by decide +kernel
theorem dX6_mark_89 : decode cX6_mark 89 = .ok (.iload_n 2, 1) := by decide +kernel
theorem dX6_mark_90 : decode cX6_mark 90 = .ok (.iaload, 1) := by decide +kernel
theorem dX6_mark_91 : decode cX6_mark 91 = .ok (.goto 25, 3) := by decide +kernel
theorem dX6_mark_94 : decode cX6_mark 94 = .ok (.iload_n 3, 1) := by decide +kernel
