theorem dX7_thin_28 : decode cX7_thin 28 = .ok (.istore_n 3, 1) := by decide +kernel
theorem dX7_thin_29 : decode cX7_thin 29 = .ok (.iconst 0, 1) := by decide +kernel
theorem dX7_thin_30 : decode cX7_thin 30 = .ok (.istore 4, 2) := by decide +kernel
theorem dX7_thin_32 : decode cX7_thin 32 = .ok (.iload 4, 2) := by decide +kernel
theorem dX7_thin_34 : decode cX7_thin 34 = .ok (.bipush 24, 2) := by decide +kernel
theorem dX7_thin_36 : decode cX7_thin 36 = .ok (.if_icmp .ge 35, 3) := by decide +kernel
theorem dX7_thin_39 : decode cX7_thin 39 = .ok (.iload_n 3, 1) := by decide +kernel
theorem dX7_thin_40 : decode cX7_thin 40 = .ok (.aload_n 0, 1) := by decide +kernel
theorem dX7_thin_41 : decode cX7_thin 41 = .ok (.getfield 17, 3) := by decide +kernel
theorem dX7_thin_44 : decode cX7_thin 44 = .ok (.bipush 24, 2) := by decide +kernel
theorem dX7_thin_46 : decode cX7_thin 46 = .ok (.iload_n 2, 1) := by decide +kernel
theorem dX7_thin_47 : decode cX7_thin 47 = .ok (.imul, 1) := by decide +kernel
theorem dX7_thin_48 : decode cX7_thin 48 = .ok (.iload 4, 2) := by decide +kernel
theorem dX7_thin_50 : decode cX7_thin 50 = .ok (.iadd, 1) := by decide +kernel
theorem dX7_thin_51 : decode cX7_thin 51 = .ok (.baload, 1) := by decide +kernel
theorem dX7_thin_52 : decode cX7_thin 52 = .ok (.ifCond .eq 10, 3) := by decide +kernel
theorem dX7_thin_55 : decode cX7_thin 55 = .ok (.iconst 1, 1) := by decide +kernel
theorem dX7_thin_56 : decode cX7_thin 56 = .ok (.iload 4, 2) := by decide +kernel
theorem dX7_thin_58 : decode cX7_thin 58 = .ok (.ishl, 1) := by decide +kernel
theorem dX7_thin_59 : decode cX7_thin 59 = .ok (.goto 4, 3) := by decide +kernel
theorem dX7_thin_62 : decode cX7_thin 62 = .ok (.iconst 0, 1) := by decide +kernel
theorem dX7_thin_63 : decode cX7_thin 63 = .ok (.ior, 1) := by decide +kernel
theorem dX7_thin_64 : decode cX7_thin 64 = .ok (.istore_n 3, 1) := by decide +kernel
theorem dX7_thin_65 : decode cX7_thin 65 = .ok (.iinc 4 1, 3) := by decide +kernel
theorem dX7_thin_68 : decode cX7_thin 68 = .ok (.goto (-36), 3) := by decide +kernel
theorem dX7_thin_71 : decode cX7_thin 71 = .ok (.iload_n 3, 1) := by decide +kernel
theorem dX7_thin_72 : decode cX7_thin 72 = .ok (.ireturn, 1) := by decide +kernel
set_option maxRecDepth 20000 in
theorem ggX7_findMarks_X7_thinOut : GoodIn wsX7_findMarks wsX7_thinOut := goodIn_r _ [11, 2, 12, 13, 14, 15, 10, 16, 3, 17, 18, 19, 20, 21, 22, 23, 24, 25, 26, 27, 28, 29, 30, 31, 32, 33, 34, 35, 36, 37, 38, 39, 40, 41, 42, 43, 44, 45, 46, 47, 48, 49, 50, 51, 52, 53, 54, 55, 56, 57, 58, 59] (by decide +kernel) (by decide +kernel)
set_option maxRecDepth 20000 in
theorem gX7_findMarks_X7_thinOut : GoodIn wsX7_findMarks (wsV RX7 99 RX7 yX7_thinOut wsX7_thinOut) := goodIn_app (goodIn_of _ (by decide +kernel)) ggX7_findMarks_X7_thinOut
set_option maxRecDepth 20000 in
theorem ggX7_findMarks_X7_look : GoodIn wsX7_findMarks wsX7_look := goodIn_r _ [21, 3, 2, 22, 23, 10, 24, 25, 26, 27, 28, 29, 30, 31, 32, 33, 34, 39, 40, 41, 42, 43, 44, 45, 46, 47, 48, 49, 50, 51, 52, 53, 54, 55, 56, 57, 58, 59] (by decide +kernel) (by decide +kernel)
set_option maxRecDepth 20000 in
theorem gX7_findMarks_X7_look : GoodIn wsX7_findMarks (wsV RX7 87 RX7 yX7_look wsX7_look) := goodIn_app (goodIn_of _ (by decide +kernel)) ggX7_findMarks_X7_look
set_option maxRecDepth 20000 in
theorem ggX7_findMarks_X7_changes : GoodIn wsX7_findMarks wsX7_changes := goodIn_r _ [38, 3, 39, 40, 41, 42, 43, 44, 45, 46, 47, 48, 49, 50, 51, 52, 53, 54, 55, 56, 57, 58, 59] (by decide +kernel) (by decide +kernel)
set_option maxRecDepth 20000 in
theorem gX7_findMarks_X7_changes : GoodIn wsX7_findMarks (wsV RX7 91 RX7 yX7_changes wsX7_changes) := goodIn_app (goodIn_of _ (by decide +kernel)) ggX7_findMarks_X7_changes
theorem dX7_findMarks_0 : decode cX7_findMarks 0 = .ok (.aload_n 0, 1) := by decide +kernel
theorem dX7_findMarks_1 : decode cX7_findMarks 1 = .ok (.iload_n 1, 1) := by decide +kernel
theorem dX7_findMarks_2 : decode cX7_findMarks 2 = .ok (.invokevirtual 99, 3) := by decide +kernel
theorem dX7_findMarks_5 : decode cX7_findMarks 5 = .ok (.aload_n 0, 1) := by decide +kernel
theorem dX7_findMarks_6 : decode cX7_findMarks 6 = .ok (.getfield 27, 3) := by decide +kernel
theorem dX7_findMarks_9 : decode cX7_findMarks 9 = .ok (.iload_n 1, 1) := by decide +kernel
theorem dX7_findMarks_10 : decode cX7_findMarks 10 = .ok (.iconst 0, 1) := by decide +kernel
theorem dX7_findMarks_11 : decode cX7_findMarks 11 = .ok (.iastore, 1) := by decide +kernel
theorem dX7_findMarks_12 : decode cX7_findMarks 12 = .ok (.iconst 1, 1) := by decide +kernel
theorem dX7_findMarks_13 : decode cX7_findMarks 13 = .ok (.istore_n 2, 1) := by decide +kernel
theorem dX7_findMarks_14 : decode cX7_findMarks 14 = .ok (.iload_n 2, 1) := by decide +kernel
theorem dX7_findMarks_15 : decode cX7_findMarks 15 = .ok (.bipush 23, 2) := by decide +kernel
theorem dX7_findMarks_17 : decode cX7_findMarks 17 = .ok (.if_icmp .ge 161, 3) := by decide +kernel
theorem dX7_findMarks_20 : decode cX7_findMarks 20 = .ok (.iconst 1, 1) := by decide +kernel
theorem dX7_findMarks_21 : decode cX7_findMarks 21 = .ok (.istore_n 3, 1) := by decide +kernel
theorem dX7_findMarks_22 : decode cX7_findMarks 22 = .ok (.iload_n 3, 1) := by decide +kernel
theorem dX7_findMarks_23 : decode cX7_findMarks 23 = .ok (.bipush 23, 2) := by decide +kernel
theorem dX7_findMarks_25 : decode cX7_findMarks 25 = .ok (.if_icmp .ge 147, 3) := by decide +kernel
theorem dX7_findMarks_28 : decode cX7_findMarks 28 = .ok (.aload_n 0, 1) := by decide +kernel
theorem dX7_findMarks_29 : decode cX7_findMarks 29 = .ok (.getfield 17, 3) := by decide +kernel
theorem dX7_findMarks_32 : decode cX7_findMarks 32 = .ok (.bipush 24, 2) := by decide +kernel
theorem dX7_findMarks_34 : decode cX7_findMarks 34 = .ok (.iload_n 2, 1) := by decide +kernel
theorem dX7_findMarks_35 : decode cX7_findMarks 35 = .ok (.imul, 1) := by decide +kernel
theorem dX7_findMarks_36 : decode cX7_findMarks 36 = .ok (.iload_n 3, 1) := by decide +kernel
theorem dX7_findMarks_37 : decode cX7_findMarks 37 = .ok (.iadd, 1) := by decide +kernel
theorem dX7_findMarks_38 : decode cX7_findMarks 38 = .ok (.baload, 1) := by decide +kernel
theorem dX7_findMarks_39 : decode cX7_findMarks 39 = .ok (.ifCond .eq 127, 3) := by decide +kernel
theorem dX7_findMarks_42 : decode cX7_findMarks 42 = .ok (.aload_n 0, 1) := by decide +kernel
theorem dX7_findMarks_43 : decode cX7_findMarks 43 = .ok (.getfield 27, 3) := by decide +kernel
theorem dX7_findMarks_46 : decode cX7_findMarks 46 = .ok (.iload_n 1, 1) := by decide +kernel
theorem dX7_findMarks_47 : decode cX7_findMarks 47 = .ok (.iaload, 1) := by decide +kernel
theorem dX7_findMarks_48 : decode cX7_findMarks 48 = .ok (.bipush 40, 2) := by decide +kernel
theorem dX7_findMarks_50 : decode cX7_findMarks 50 = .ok (.if_icmp .ne 6, 3) := by decide +kernel
theorem dX7_findMarks_53 : decode cX7_findMarks 53 = .ok (.goto 113, 3) := by decide +kernel
theorem dX7_findMarks_56 : decode cX7_findMarks 56 = .ok (.aload_n 0, 1) := by decide +kernel
theorem dX7_findMarks_57 : decode cX7_findMarks 57 = .ok (.iload_n 3, 1) := by decide +kernel
theorem dX7_findMarks_58 : decode cX7_findMarks 58 = .ok (.iload_n 2, 1) := by decide +kernel
theorem dX7_findMarks_59 : decode cX7_findMarks 59 = .ok (.invokevirtual 87, 3) := by decide +kernel
theorem dX7_findMarks_62 : decode cX7_findMarks 62 = .ok (.istore 4, 2) := by decide +kernel
theorem dX7_findMarks_64 : decode cX7_findMarks 64 = .ok (.iload 4, 2) := by decide +kernel
theorem dX7_findMarks_66 : decode cX7_findMarks 66 = .ok (.iconst 1, 1) := by decide +kernel
theorem dX7_findMarks_67 : decode cX7_findMarks 67 = .ok (.if_icmp .ne 7, 3) := by decide +kernel
theorem dX7_findMarks_70 : decode cX7_findMarks 70 = .ok (.iconst 0, 1) := by decide +kernel
theorem dX7_findMarks_71 : decode cX7_findMarks 71 = .ok (.goto 17, 3) := by decide +kernel
theorem dX7_findMarks_74 : decode cX7_findMarks 74 = .ok (.aload_n 0, 1) := by decide +kernel
theorem dX7_findMarks_75 : decode cX7_findMarks 75 = .ok (.invokevirtual 91, 3) := by decide +kernel
theorem dX7_findMarks_78 : decode cX7_findMarks 78 = .ok (.iconst 3, 1) := by decide +kernel
theorem dX7_findMarks_79 : decode cX7_findMarks 79 = .ok (.if_icmp .lt 8, 3) := by decide +kernel
theorem dX7_findMarks_82 : decode cX7_findMarks 82 = .ok (.bipush 8, 2) := by decide +kernel
theorem dX7_findMarks_84 : decode cX7_findMarks 84 = .ok (.goto 4, 3) := by decide +kernel
theorem dX7_findMarks_87 : decode cX7_findMarks 87 = .ok (.iconst (-1), 1) := by decide +kernel
theorem dX7_findMarks_88 : decode cX7_findMarks 88 = .ok (.istore 5, 2) := by decide +kernel
theorem dX7_findMarks_90 : decode cX7_findMarks 90 = .ok (.iload 4, 2) := by decide +kernel
theorem dX7_findMarks_92 : decode cX7_findMarks 92 = .ok (.iconst 1, 1) := by decide +kernel
theorem dX7_findMarks_93 : decode cX7_findMarks 93 = .ok (.if_icmp .ne 19, 3) := by decide +kernel
theorem dX7_findMarks_96 : decode cX7_findMarks 96 = .ok (.aload_n 0, 1) := by decide +kernel
theorem dX7_findMarks_97 : decode cX7_findMarks 97 = .ok (.getfield 24, 3) := by decide +kernel
theorem dX7_findMarks_100 : decode cX7_findMarks 100 = .ok (.iload 5, 2) := by decide +kernel
theorem dX7_findMarks_102 : decode cX7_findMarks 102 = .ok (.baload, 1) := by decide +kernel
theorem dX7_findMarks_103 : decode cX7_findMarks 103 = .ok (.ifCond .ne 9, 3) := by decide +kernel
theorem dX7_findMarks_106 : decode cX7_findMarks 106 = .ok (.iinc 5 1, 3) := by decide +kernel
theorem dX7_findMarks_109 : decode cX7_findMarks 109 = .ok (.goto (-19), 3) := by decide +kernel
theorem dX7_findMarks_112 : decode cX7_findMarks 112 = .ok (.iload 5, 2) := by decide +kernel
theorem dX7_findMarks_114 : decode cX7_findMarks 114 = .ok (.iconst (-1), 1) := by decide +kernel
theorem dX7_findMarks_115 : decode cX7_findMarks 115 = .ok (.if_icmp .eq 51, 3) := by decide +kernel
theorem dX7_findMarks_118 : decode cX7_findMarks 118 = .ok (.bipush 40, 2) := by decide +kernel
theorem dX7_findMarks_120 : decode cX7_findMarks 120 = .ok (.iload_n 1, 1) := by decide +kernel
theorem dX7_findMarks_121 : decode cX7_findMarks 121 = .ok (.imul, 1) := by decide +kernel
theorem dX7_findMarks_122 : decode cX7_findMarks 122 = .ok (.aload_n 0, 1) := by decide +kernel
theorem dX7_findMarks_123 : decode cX7_findMarks 123 = .ok (.getfield 27, 3) := by decide +kernel
theorem dX7_findMarks_126 : decode cX7_findMarks 126 = .ok (.iload_n 1, 1) := by decide +kernel
theorem dX7_findMarks_127 : decode cX7_findMarks 127 = .ok (.iaload, 1) := by decide +kernel
theorem dX7_findMarks_128 : decode cX7_findMarks 128 = .ok (.iadd, 1) := by decide +kernel
theorem dX7_findMarks_129 : decode cX7_findMarks 129 = .ok (.istore 6, 2) := by decide +kernel
theorem dX7_findMarks_131 : decode cX7_findMarks 131 = .ok (.aload_n 0, 1) := by decide +kernel
theorem dX7_findMarks_132 : decode cX7_findMarks 132 = .ok (.getfield 30, 3) := by decide +kernel
theorem dX7_findMarks_135 : decode cX7_findMarks 135 = .ok (.iload 6, 2) := by decide +kernel
theorem dX7_findMarks_137 : decode cX7_findMarks 137 = .ok (.iload_n 3, 1) := by decide +kernel
theorem dX7_findMarks_138 : decode cX7_findMarks 138 = .ok (.iastore, 1) := by decide +kernel
theorem dX7_findMarks_139 : decode cX7_findMarks 139 = .ok (.aload_n 0, 1) := by decide +kernel
theorem dX7_findMarks_140 : decode cX7_findMarks 140 = .ok (.getfield 33, 3) := by decide +kernel
theorem dX7_findMarks_143 : decode cX7_findMarks 143 = .ok (.iload 6, 2) := by decide +kernel
theorem dX7_findMarks_145 : decode cX7_findMarks 145 = .ok (.iload_n 2, 1) := by decide +kernel
theorem dX7_findMarks_146 : decode cX7_findMarks 146 = .ok (.iastore, 1) := by decide +kernel
theorem dX7_findMarks_147 : decode cX7_findMarks 147 = .ok (.aload_n 0, 1) := by decide +kernel
theorem dX7_findMarks_148 : decode cX7_findMarks 148 = .ok (.getfield 36, 3) := by decide +kernel
theorem dX7_findMarks_151 : decode cX7_findMarks 151 = .ok (.iload 6, 2) := by decide +kernel
theorem dX7_findMarks_153 : decode cX7_findMarks 153 = .ok (.iload 5, 2) := by decide +kernel
theorem dX7_findMarks_155 : decode cX7_findMarks 155 = .ok (.iastore, 1) := by decide +kernel
theorem dX7_findMarks_156 : decode cX7_findMarks 156 = .ok (.aload_n 0, 1) := by decide +kernel
theorem dX7_findMarks_157 : decode cX7_findMarks 157 = .ok (.getfield 27, 3) := by decide +kernel
theorem dX7_findMarks_160 : decode cX7_findMarks 160 = .ok (.iload_n 1, 1) := by decide +kernel
theorem dX7_findMarks_161 : decode cX7_findMarks 161 = .ok (.dup2, 1) := by decide +kernel
theorem dX7_findMarks_162 : decode cX7_findMarks 162 = .ok (.iaload, 1) := by decide +kernel
theorem dX7_findMarks_163 : decode cX7_findMarks 163 = .ok (.iconst 1, 1) := by decide +kernel
theorem dX7_findMarks_164 : decode cX7_findMarks 164 = .ok (.iadd, 1) := by decide +kernel
theorem dX7_findMarks_165 : decode cX7_findMarks 165 = .ok (.iastore, 1) := by decide +kernel
theorem dX7_findMarks_166 : decode cX7_findMarks 166 = .ok (.iinc 3 1, 3) := by decide +kernel
theorem dX7_findMarks_169 : decode cX7_findMarks 169 = .ok (.goto (-147), 3) := by decide +kernel
theorem dX7_findMarks_172 : decode cX7_findMarks 172 = .ok (.iinc 2 1, 3) := by decide +kernel
theorem dX7_findMarks_175 : decode cX7_findMarks 175 = .ok (.goto (-161), 3) := by decide +kernel
theorem dX7_findMarks_178 : decode cX7_findMarks 178 = .ok (.return_, 1) := by decide +kernel
theorem dX7_endsOf_0 : decode cX7_endsOf 0 = .ok (.iconst 0, 1) := by decide +kernel
theorem dX7_endsOf_1 : decode cX7_endsOf 1 = .ok (.istore_n 2, 1) := by decide +kernel
theorem dX7_endsOf_2 : decode cX7_endsOf 2 = .ok (.iconst 0, 1) := by decide +kernel
theorem dX7_endsOf_3 : decode cX7_endsOf 3 = .ok (.istore_n 3, 1) := by decide +kernel
theorem dX7_endsOf_4 : decode cX7_endsOf 4 = .ok (.iload_n 3, 1) := by decide +kernel
theorem dX7_endsOf_5 : decode cX7_endsOf 5 = .ok (.aload_n 0, 1) := by decide +kernel
theorem dX7_endsOf_6 : decode cX7_endsOf 6 = .ok (.getfield 27, 3) := by decide +kernel
theorem dX7_endsOf_9 : decode cX7_endsOf 9 = .ok (.iload_n 1, 1) := by decide +kernel
theorem dX7_endsOf_10 : decode cX7_endsOf 10 = .ok (.iaload, 1) := by decide +kernel
theorem dX7_endsOf_11 : decode cX7_endsOf 11 = .ok (.if_icmp .ge 33, 3) := by decide +kernel
theorem dX7_endsOf_14 : decode cX7_endsOf 14 = .ok (.iload_n 2, 1) := by decide +kernel
theorem dX7_endsOf_15 : decode cX7_endsOf 15 = .ok (.aload_n 0, 1) := by decide +kernel
theorem dX7_endsOf_16 : decode cX7_endsOf 16 = .ok (.getfield 36, 3) := by decide +kernel
theorem dX7_endsOf_19 : decode cX7_endsOf 19 = .ok (.bipush 40, 2) := by decide +kernel
theorem dX7_endsOf_21 : decode cX7_endsOf 21 = .ok (.iload_n 1, 1) := by decide +kernel
theorem dX7_endsOf_22 : decode cX7_endsOf 22 = .ok (.imul, 1) := by decide +kernel
theorem dX7_endsOf_23 : decode cX7_endsOf 23 = .ok (.iload_n 3, 1) := by decide +kernel
theorem dX7_endsOf_24 : decode cX7_endsOf 24 = .ok (.iadd, 1) := by decide +kernel
theorem dX7_endsOf_25 : decode cX7_endsOf 25 = .ok (.iaload, 1) := by decide +kernel
theorem dX7_endsOf_26 : decode cX7_endsOf 26 = .ok (.bipush 8, 2) := by decide +kernel
theorem dX7_endsOf_28 : decode cX7_endsOf 28 = .ok (.if_icmp .ge 7, 3) := by decide +kernel
theorem dX7_endsOf_31 : decode cX7_endsOf 31 = .ok (.iconst 1, 1) := by decide +kernel
theorem dX7_endsOf_32 : decode cX7_endsOf 32 = .ok (.goto 4, 3) := by decide +kernel
theorem dX7_endsOf_35 : decode cX7_endsOf 35 = .ok (.iconst 0, 1) := by decide +kernel
theorem dX7_endsOf_36 : decode cX7_endsOf 36 = .ok (.iadd, 1) := by decide +kernel
theorem dX7_endsOf_37 : decode cX7_endsOf 37 = .ok (.istore_n 2, 1) := by decide +kernel
theorem dX7_endsOf_38 : decode cX7_endsOf 38 = .ok (.iinc 3 1, 3) := by decide +kernel
theorem dX7_endsOf_41 : decode cX7_endsOf 41 = .ok (.goto (-37), 3) := by decide +kernel
theorem dX7_endsOf_44 : decode cX7_endsOf 44 = .ok (.iload_n 2, 1) := by decide +kernel
theorem dX7_endsOf_45 : decode cX7_endsOf 45 = .ok (.ireturn, 1) := by decide +kernel
set_option maxRecDepth 20000 in
theorem ggX7_mark_X7_isPrint : GoodIn wsX7_mark wsX7_isPrint := goodIn_r _ [11, 12, 13, 14, 10, 15, 54, 55, 56, 57, 58, 59, 60, 61, 62, 63, 64, 65, 66, 67, 68, 69, 70, 71, 72, 73, 74] (by decide +kernel) (by decide +kernel)
set_option maxRecDepth 20000 in
theorem gX7_mark_X7_isPrint : GoodIn wsX7_mark (wsV RX7 77 RX7 yX7_isPrint wsX7_isPrint) := goodIn_app (goodIn_of _ (by decide +kernel)) ggX7_mark_X7_isPrint
set_option maxRecDepth 20000 in
theorem ggX7_mark_X7_in : GoodIn wsX7_mark wsX7_in := goodIn_r _ [15] (by decide +kernel) (by decide +kernel)
set_option maxRecDepth 20000 in
theorem gX7_mark_X7_in : GoodIn wsX7_mark (va_wsS RX7 63 yX7_in wsX7_in) := goodIn_app (goodIn_of _ (by decide +kernel)) ggX7_mark_X7_in
set_option maxRecDepth 20000 in
theorem ggX7_mark_X7_findMarks : GoodIn wsX7_mark wsX7_findMarks := goodIn_r _ [19, 3, 20, 21, 4, 5, 6, 22, 23, 24, 10, 25, 26, 27, 28, 29, 30, 31, 32, 33, 34, 35, 36, 37, 38, 39, 40, 41, 42, 43, 44, 45, 13, 14, 15, 46, 47, 48, 49, 54, 55, 56, 57, 58, 59, 60, 61, 62, 63, 64, 65, 66, 67, 68, 69, 70, 71, 72, 73, 74] (by decide +kernel) (by decide +kernel)
set_option maxRecDepth 20000 in
theorem gX7_mark_X7_findMarks : GoodIn wsX7_mark (wsV RX7 105 RX7 yX7_findMarks wsX7_findMarks) := goodIn_app (goodIn_of _ (by decide +kernel)) ggX7_mark_X7_findMarks
set_option maxRecDepth 20000 in
theorem ggX7_mark_X7_endsOf : GoodIn wsX7_mark wsX7_endsOf := goodIn_r _ [53, 3, 6, 54, 55, 56, 57, 58, 59, 60, 61, 62, 63, 64, 65, 66, 67, 68, 69, 70, 71, 72, 73, 74] (by decide +kernel) (by decide +kernel)
set_option maxRecDepth 20000 in
theorem gX7_mark_X7_endsOf : GoodIn wsX7_mark (wsV RX7 108 RX7 yX7_endsOf wsX7_endsOf) := goodIn_app (goodIn_of _ (by decide +kernel)) ggX7_mark_X7_endsOf
theorem dX7_mark_0 : decode cX7_mark 0 = .ok (.aload_n 0, 1) := by decide +kernel
theorem dX7_mark_1 : decode cX7_mark 1 = .ok (.iconst 0, 1) := by decide +kernel
theorem dX7_mark_2 : decode cX7_mark 2 = .ok (.putfield 54, 3) := by decide +kernel
theorem dX7_mark_5 : decode cX7_mark 5 = .ok (.aload_n 0, 1) := by decide +kernel
theorem dX7_mark_6 : decode cX7_mark 6 = .ok (.iload_n 1, 1) := by decide +kernel
theorem dX7_mark_7 : decode cX7_mark 7 = .ok (.invokevirtual 77, 3) := by decide +kernel
theorem dX7_mark_10 : decode cX7_mark 10 = .ok (.ifCond .eq 15, 3) := by decide +kernel
theorem dX7_mark_13 : decode cX7_mark 13 = .ok (.iload_n 3, 1) := by decide +kernel
theorem dX7_mark_14 : decode cX7_mark 14 = .ok (.i2l, 1) := by decide +kernel
theorem dX7_mark_15 : decode cX7_mark 15 = .ok (.lconst 0, 1) := by decide +kernel
theorem dX7_mark_16 : decode cX7_mark 16 = .ok (.ldc2_w 103, 3) := by decide +kernel
theorem dX7_mark_19 : decode cX7_mark 19 = .ok (.invokestatic 63, 3) := by decide +kernel
theorem dX7_mark_22 : decode cX7_mark 22 = .ok (.ifCond .ne 5, 3) := by decide +kernel
theorem dX7_mark_25 : decode cX7_mark 25 = .ok (.iconst (-1), 1) := by decide +kernel
theorem dX7_mark_26 : decode cX7_mark 26 = .ok (.ireturn, 1) := by decide +kernel
theorem dX7_mark_27 : decode cX7_mark 27 = .ok (.aload_n 0, 1) := by decide +kernel
theorem dX7_mark_28 : decode cX7_mark 28 = .ok (.iload_n 1, 1) := by decide +kernel
theorem dX7_mark_29 : decode cX7_mark 29 = .ok (.invokevirtual 105, 3) := by decide +kernel
theorem dX7_mark_32 : decode cX7_mark 32 = .ok (.iload_n 2, 1) := by decide +kernel
theorem dX7_mark_33 : decode cX7_mark 33 = .ok (.iconst (-1), 1) := by decide +kernel
theorem dX7_mark_34 : decode cX7_mark 34 = .ok (.if_icmp .ne 42, 3) := by decide +kernel
theorem dX7_mark_37 : decode cX7_mark 37 = .ok (.iload_n 3, 1) := by decide +kernel
theorem dX7_mark_38 : decode cX7_mark 38 = .ok (.ifCond .ne 12, 3) := by decide +kernel
theorem dX7_mark_41 : decode cX7_mark 41 = .ok (.aload_n 0, 1) := by decide +kernel
theorem dX7_mark_42 : decode cX7_mark 42 = .ok (.getfield 27, 3) := by decide +kernel
theorem dX7_mark_45 : decode cX7_mark 45 = .ok (.iload_n 1, 1) := by decide +kernel
theorem dX7_mark_46 : decode cX7_mark 46 = .ok (.iaload, 1) := by decide +kernel
theorem dX7_mark_47 : decode cX7_mark 47 = .ok (.goto 28, 3) := by decide +kernel
theorem dX7_mark_50 : decode cX7_mark 50 = .ok (.iload_n 3, 1) := by decide +kernel
theorem dX7_mark_51 : decode cX7_mark 51 = .ok (.iconst 1, 1) := by decide +kernel
theorem dX7_mark_52 : decode cX7_mark 52 = .ok (.if_icmp .ne 11, 3) := by decide +kernel
theorem dX7_mark_55 : decode cX7_mark 55 = .ok (.aload_n 0, 1) := by decide +kernel
theorem dX7_mark_56 : decode cX7_mark 56 = .ok (.iload_n 1, 1) := by decide +kernel
theorem dX7_mark_57 : decode cX7_mark 57 = .ok (.invokevirtual 108, 3) := by decide +kernel
theorem dX7_mark_60 : decode cX7_mark 60 = .ok (.goto 15, 3) := by decide +kernel
theorem dX7_mark_63 : decode cX7_mark 63 = .ok (.aload_n 0, 1) := by decide +kernel
theorem dX7_mark_64 : decode cX7_mark 64 = .ok (.getfield 27, 3) := by decide +kernel
theorem dX7_mark_67 : decode cX7_mark 67 = .ok (.iload_n 1, 1) := by decide +kernel
theorem dX7_mark_68 : decode cX7_mark 68 = .ok (.iaload, 1) := by decide +kernel
theorem dX7_mark_69 : decode cX7_mark 69 = .ok (.aload_n 0, 1) := by decide +kernel
theorem dX7_mark_70 : decode cX7_mark 70 = .ok (.iload_n 1, 1) := by decide +kernel
theorem dX7_mark_71 : decode cX7_mark 71 = .ok (.invokevirtual 108, 3) := by decide +kernel
theorem dX7_mark_74 : decode cX7_mark 74 = .ok (.isub, 1) := by decide +kernel
theorem dX7_mark_75 : decode cX7_mark 75 = .ok (.ireturn, 1) := by decide +kernel
theorem dX7_mark_76 : decode cX7_mark 76 = .ok (.bipush 40, 2) := by decide +kernel
theorem dX7_mark_78 : decode cX7_mark 78 = .ok (.iload_n 1, 1) := by decide +kernel
theorem dX7_mark_79 : decode cX7_mark 79 = .ok (.imul, 1) := by decide +kernel
theorem dX7_mark_80 : decode cX7_mark 80 = .ok (.iload_n 2, 1) := by decide +kernel
theorem dX7_mark_81 : decode cX7_mark 81 = .ok (.iadd, 1) := by decide +kernel
theorem dX7_mark_82 : decode cX7_mark 82 = .ok (.istore 4, 2) := by decide +kernel
theorem dX7_mark_84 : decode cX7_mark 84 = .ok (.iload_n 2, 1) := by decide +kernel
theorem dX7_mark_85 : decode cX7_mark 85 = .ok (.i2l, 1) := by decide +kernel
theorem dX7_mark_86 : decode cX7_mark 86 = .ok (.lconst 0, 1) := by decide +kernel
theorem dX7_mark_87 : decode cX7_mark 87 = .ok (.aload_n 0, 1) := by decide +kernel
theorem dX7_mark_88 : decode cX7_mark 88 = .ok (.getfield 27, 3) := by decide +kernel
theorem dX7_mark_91 : decode cX7_mark 91 = .ok (.iload_n 1, 1) := by decide +kernel
theorem dX7_mark_92 : decode cX7_mark 92 = .ok (.iaload, 1) := by decide +kernel
theorem dX7_mark_93 : decode cX7_mark 93 = .ok (.i2l, 1) := by decide +kernel
theorem dX7_mark_94 : decode cX7_mark 94 = .ok (.lconst 1, 1) := by decide +kernel
theorem dX7_mark_95 : decode cX7_mark 95 = .ok (.lsub, 1) := by decide +kernel
theorem dX7_mark_96 : decode cX7_mark 96 = .ok (.invokestatic 63, 3) := by decide +kernel
theorem dX7_mark_99 : decode cX7_mark 99 = .ok (.ifCond .ne 7, 3) := by decide +kernel
theorem dX7_mark_102 : decode cX7_mark 102 = .ok (.iconst (-1), 1) := by decide +kernel
theorem dX7_mark_103 : decode cX7_mark 103 = .ok (.goto 39, 3) := by decide +kernel
theorem dX7_mark_106 : decode cX7_mark 106 = .ok (.iload_n 3, 1) := by decide +kernel
theorem dX7_mark_107 : decode cX7_mark 107 = .ok (.ifCond .ne 13, 3) := by decide +kernel
theorem dX7_mark_110 : decode cX7_mark 110 = .ok (.aload_n 0, 1) := by decide +kernel
theorem dX7_mark_111 : decode cX7_mark 111 = .ok (.getfield 30, 3) := by decide +kernel
theorem dX7_mark_114 : decode cX7_mark 114 = .ok (.iload 4, 2) := by decide +kernel
theorem dX7_mark_116 : decode cX7_mark 116 = .ok (.iaload, 1) := by decide +kernel
theorem dX7_mark_117 : decode cX7_mark 117 = .ok (.goto 25, 3) := by decide +kernel
theorem dX7_mark_120 : decode cX7_mark 120 = .ok (.iload_n 3, 1) := by decide +kernel
theorem dX7_mark_121 : decode cX7_mark 121 = .ok (.iconst 1, 1) := by decide +kernel
theorem dX7_mark_122 : decode cX7_mark 122 = .ok (.if_icmp .ne 13, 3) := by decide +kernel
theorem dX7_mark_125 : decode cX7_mark 125 = .ok (.aload_n 0, 1) := by decide +kernel
theorem dX7_mark_126 : decode cX7_mark 126 = .ok (.getfield 33, 3) := by decide +kernel
theorem dX7_mark_129 : decode cX7_mark 129 = .ok (.iload 4, 2) := by decide +kernel
theorem dX7_mark_131 : decode cX7_mark 131 = .ok (.iaload, 1) := by decide +kernel
theorem dX7_mark_132 : decode cX7_mark 132 = .ok (.goto 10, 3) := by decide +kernel
theorem dX7_mark_135 : decode cX7_mark 135 = .ok (.aload_n 0, 1) := by decide +kernel
theorem dX7_mark_136 : decode cX7_mark 136 = .ok (.getfield 36, 3) := by decide +kernel
theorem dX7_mark_139 : decode cX7_mark 139 = .ok (.iload 4, 2) := by decide +kernel
theorem dX7_mark_141 : decode cX7_mark 141 = .ok (.iaload, 1) := by decide +kernel
theorem dX7_mark_142 : decode cX7_mark 142 = .ok (.ireturn, 1) := by decide +kernel
set_option maxRecDepth 20000 in
theorem ggX7_within_X7_in : GoodIn wsX7_within wsX7_in := goodIn_r _ [7] (by decide +kernel) (by decide +kernel)
set_option maxRecDepth 20000 in
theorem gX7_within_X7_in : GoodIn wsX7_within (va_wsS RX7 63 yX7_in wsX7_in) := goodIn_app (goodIn_of _ (by decide +kernel)) ggX7_within_X7_in
set_option maxRecDepth 20000 in
theorem ggX7_within_X7_told : GoodIn wsX7_within wsX7_told := goodIn_r _ [11, 12, 13, 14, 15, 16, 17, 18, 19, 20, 21, 22, 23, 24, 25, 26, 27, 28, 29, 30, 31, 32, 33] (by decide +kernel) (by decide +kernel)
set_option maxRecDepth 20000 in
theorem gX7_within_X7_told : GoodIn wsX7_within (wsV RX7 69 RX7 yX7_told wsX7_told) := goodIn_app (goodIn_of _ (by decide +kernel)) ggX7_within_X7_told
theorem dX7_within_0 : decode cX7_within 0 = .ok (.aload_n 0, 1) := by decide +kernel
theorem dX7_within_1 : decode cX7_within 1 = .ok (.iconst 0, 1) := by decide +kernel
theorem dX7_within_2 : decode cX7_within 2 = .ok (.putfield 54, 3) := by decide +kernel
theorem dX7_within_5 : decode cX7_within 5 = .ok (.iload_n 1, 1) := by decide +kernel
theorem dX7_within_6 : decode cX7_within 6 = .ok (.i2l, 1) := by decide +kernel
theorem dX7_within_7 : decode cX7_within 7 = .ok (.lconst 0, 1) := by decide +kernel
theorem dX7_within_8 : decode cX7_within 8 = .ok (.ldc2_w 111, 3) := by decide +kernel
theorem dX7_within_11 : decode cX7_within 11 = .ok (.invokestatic 63, 3) := by decide +kernel
theorem dX7_within_14 : decode cX7_within 14 = .ok (.ifCond .ne 9, 3) := by decide +kernel
theorem dX7_within_17 : decode cX7_within 17 = .ok (.aload_n 0, 1) := by decide +kernel
theorem dX7_within_18 : decode cX7_within 18 = .ok (.iconst (-1), 1) := by decide +kernel
theorem dX7_within_19 : decode cX7_within 19 = .ok (.invokevirtual 69, 3) := by decide +kernel
theorem dX7_within_22 : decode cX7_within 22 = .ok (.ireturn, 1) := by decide +kernel
theorem dX7_within_23 : decode cX7_within 23 = .ok (.aload_n 0, 1) := by decide +kernel
theorem dX7_within_24 : decode cX7_within 24 = .ok (.getfield 13, 3) := by decide +kernel
theorem dX7_within_27 : decode cX7_within 27 = .ok (.istore_n 2, 1) := by decide +kernel
theorem dX7_within_28 : decode cX7_within 28 = .ok (.aload_n 0, 1) := by decide +kernel
theorem dX7_within_29 : decode cX7_within 29 = .ok (.iload_n 1, 1) := by decide +kernel
theorem dX7_within_30 : decode cX7_within 30 = .ok (.putfield 13, 3) := by decide +kernel
theorem dX7_within_33 : decode cX7_within 33 = .ok (.aload_n 0, 1) := by decide +kernel
theorem dX7_within_34 : decode cX7_within 34 = .ok (.iload_n 2, 1) := by decide +kernel
theorem dX7_within_35 : decode cX7_within 35 = .ok (.invokevirtual 69, 3) := by decide +kernel
theorem dX7_within_38 : decode cX7_within 38 = .ok (.ireturn, 1) := by decide +kernel
set_option maxRecDepth 20000 in
theorem ggX7_agree_X7_in : GoodIn wsX7_agree wsX7_in := goodIn_r _ [10] (by decide +kernel) (by decide +kernel)
set_option maxRecDepth 20000 in
theorem gX7_agree_X7_in : GoodIn wsX7_agree (va_wsS RX7 63 yX7_in wsX7_in) := goodIn_app (goodIn_of _ (by decide +kernel)) ggX7_agree_X7_in
theorem dX7_agree_0 : decode cX7_agree 0 = .ok (.iconst 0, 1) := by decide +kernel
theorem dX7_agree_1 : decode cX7_agree 1 = .ok (.istore 6, 2) := by decide +kernel
theorem dX7_agree_3 : decode cX7_agree 3 = .ok (.iconst 0, 1) := by decide +kernel
theorem dX7_agree_4 : decode cX7_agree 4 = .ok (.istore 7, 2) := by decide +kernel
theorem dX7_agree_6 : decode cX7_agree 6 = .ok (.iload 7, 2) := by decide +kernel
theorem dX7_agree_8 : decode cX7_agree 8 = .ok (.aload_n 0, 1) := by decide +kernel
theorem dX7_agree_9 : decode cX7_agree 9 = .ok (.getfield 27, 3) := by decide +kernel
theorem dX7_agree_12 : decode cX7_agree 12 = .ok (.iload_n 1, 1) := by decide +kernel
theorem dX7_agree_13 : decode cX7_agree 13 = .ok (.iaload, 1) := by decide +kernel
theorem dX7_agree_14 : decode cX7_agree 14 = .ok (.if_icmp .ge 347, 3) := by decide +kernel
theorem dX7_agree_17 : decode cX7_agree 17 = .ok (.aload_n 0, 1) := by decide +kernel
theorem dX7_agree_18 : decode cX7_agree 18 = .ok (.getfield 30, 3) := by decide +kernel
theorem dX7_agree_21 : decode cX7_agree 21 = .ok (.bipush 40, 2) := by decide +kernel
theorem dX7_agree_23 : decode cX7_agree 23 = .ok (.iload_n 1, 1) := by decide +kernel
theorem dX7_agree_24 : decode cX7_agree 24 = .ok (.imul, 1) := by decide +kernel
theorem dX7_agree_25 : decode cX7_agree 25 = .ok (.iload 7, 2) := by decide +kernel
theorem dX7_agree_27 : decode cX7_agree 27 = .ok (.iadd, 1) := by decide +kernel
theorem dX7_agree_28 : decode cX7_agree 28 = .ok (.iaload, 1) := by decide +kernel
theorem dX7_agree_29 : decode cX7_agree 29 = .ok (.istore 8, 2) := by decide +kernel
theorem dX7_agree_31 : decode cX7_agree 31 = .ok (.aload_n 0, 1) := by decide +kernel
theorem dX7_agree_32 : decode cX7_agree 32 = .ok (.getfield 33, 3) := by decide +kernel
theorem dX7_agree_35 : decode cX7_agree 35 = .ok (.bipush 40, 2) := by decide +kernel
theorem dX7_agree_37 : decode cX7_agree 37 = .ok (.iload_n 1, 1) := by decide +kernel
theorem dX7_agree_38 : decode cX7_agree 38 = .ok (.imul, 1) := by decide +kernel
theorem dX7_agree_39 : decode cX7_agree 39 = .ok (.iload 7, 2) := by decide +kernel
theorem dX7_agree_41 : decode cX7_agree 41 = .ok (.iadd, 1) := by decide +kernel
theorem dX7_agree_42 : decode cX7_agree 42 = .ok (.iaload, 1) := by decide +kernel
theorem dX7_agree_43 : decode cX7_agree 43 = .ok (.istore 9, 2) := by decide +kernel
theorem dX7_agree_45 : decode cX7_agree 45 = .ok (.aload_n 0, 1) := by decide +kernel
theorem dX7_agree_46 : decode cX7_agree 46 = .ok (.getfield 36, 3) := by decide +kernel
theorem dX7_agree_49 : decode cX7_agree 49 = .ok (.bipush 40, 2) := by decide +kernel
theorem dX7_agree_51 : decode cX7_agree 51 = .ok (.iload_n 1, 1) := by decide +kernel
theorem dX7_agree_52 : decode cX7_agree 52 = .ok (.imul, 1) := by decide +kernel
theorem dX7_agree_53 : decode cX7_agree 53 = .ok (.iload 7, 2) := by decide +kernel
theorem dX7_agree_55 : decode cX7_agree 55 = .ok (.iadd, 1) := by decide +kernel
theorem dX7_agree_56 : decode cX7_agree 56 = .ok (.iaload, 1) := by decide +kernel
theorem dX7_agree_57 : decode cX7_agree 57 = .ok (.istore 10, 2) := by decide +kernel
theorem dX7_agree_59 : decode cX7_agree 59 = .ok (.iconst 0, 1) := by decide +kernel
theorem dX7_agree_60 : decode cX7_agree 60 = .ok (.istore 11, 2) := by decide +kernel
theorem dX7_agree_62 : decode cX7_agree 62 = .ok (.iload 11, 2) := by decide +kernel
theorem dX7_agree_64 : decode cX7_agree 64 = .ok (.iload_n 3, 1) := by decide +kernel
theorem dX7_agree_65 : decode cX7_agree 65 = .ok (.if_icmp .ge 24, 3) := by decide +kernel
theorem dX7_agree_68 : decode cX7_agree 68 = .ok (.iload 8, 2) := by decide +kernel
theorem dX7_agree_70 : decode cX7_agree 70 = .ok (.istore 12, 2) := by decide +kernel
theorem dX7_agree_72 : decode cX7_agree 72 = .ok (.bipush 23, 2) := by decide +kernel
theorem dX7_agree_74 : decode cX7_agree 74 = .ok (.iload 9, 2) := by decide +kernel
theorem dX7_agree_76 : decode cX7_agree 76 = .ok (.isub, 1) := by decide +kernel
theorem dX7_agree_77 : decode cX7_agree 77 = .ok (.istore 8, 2) := by decide +kernel
theorem dX7_agree_79 : decode cX7_agree 79 = .ok (.iload 12, 2) := by decide +kernel
theorem dX7_agree_81 : decode cX7_agree 81 = .ok (.istore 9, 2) := by decide +kernel
theorem dX7_agree_83 : decode cX7_agree 83 = .ok (.iinc 11 1, 3) := by decide +kernel
theorem dX7_agree_86 : decode cX7_agree 86 = .ok (.goto (-24), 3) := by decide +kernel
theorem dX7_agree_89 : decode cX7_agree 89 = .ok (.iload 10, 2) := by decide +kernel
theorem dX7_agree_91 : decode cX7_agree 91 = .ok (.bipush 8, 2) := by decide +kernel
theorem dX7_agree_93 : decode cX7_agree 93 = .ok (.if_icmp .ne 8, 3) := by decide +kernel
theorem dX7_agree_96 : decode cX7_agree 96 = .ok (.bipush 8, 2) := by decide +kernel
theorem dX7_agree_98 : decode cX7_agree 98 = .ok (.goto 12, 3) := by decide +kernel
theorem dX7_agree_101 : decode cX7_agree 101 = .ok (.iload 10, 2) := by decide +kernel
theorem dX7_agree_103 : decode cX7_agree 103 = .ok (.iconst 2, 1) := by decide +kernel
theorem dX7_agree_104 : decode cX7_agree 104 = .ok (.iload_n 3, 1) := by decide +kernel
theorem dX7_agree_105 : decode cX7_agree 105 = .ok (.imul, 1) := by decide +kernel
theorem dX7_agree_106 : decode cX7_agree 106 = .ok (.iadd, 1) := by decide +kernel
theorem dX7_agree_107 : decode cX7_agree 107 = .ok (.bipush 8, 2) := by decide +kernel
theorem dX7_agree_109 : decode cX7_agree 109 = .ok (.irem, 1) := by decide +kernel
theorem dX7_agree_110 : decode cX7_agree 110 = .ok (.istore 10, 2) := by decide +kernel
theorem dX7_agree_112 : decode cX7_agree 112 = .ok (.iload 8, 2) := by decide +kernel
theorem dX7_agree_114 : decode cX7_agree 114 = .ok (.iload 4, 2) := by decide +kernel
theorem dX7_agree_116 : decode cX7_agree 116 = .ok (.iadd, 1) := by decide +kernel
theorem dX7_agree_117 : decode cX7_agree 117 = .ok (.istore 8, 2) := by decide +kernel
theorem dX7_agree_119 : decode cX7_agree 119 = .ok (.iload 9, 2) := by decide +kernel
theorem dX7_agree_121 : decode cX7_agree 121 = .ok (.iload 5, 2) := by decide +kernel
theorem dX7_agree_123 : decode cX7_agree 123 = .ok (.iadd, 1) := by decide +kernel
theorem dX7_agree_124 : decode cX7_agree 124 = .ok (.istore 9, 2) := by decide +kernel
theorem dX7_agree_126 : decode cX7_agree 126 = .ok (.iconst 0, 1) := by decide +kernel
theorem dX7_agree_127 : decode cX7_agree 127 = .ok (.istore 11, 2) := by decide +kernel
theorem dX7_agree_129 : decode cX7_agree 129 = .ok (.iconst 0, 1) := by decide +kernel
theorem dX7_agree_130 : decode cX7_agree 130 = .ok (.istore 12, 2) := by decide +kernel
theorem dX7_agree_132 : decode cX7_agree 132 = .ok (.iload 12, 2) := by decide +kernel
theorem dX7_agree_134 : decode cX7_agree 134 = .ok (.aload_n 0, 1) := by decide +kernel
theorem dX7_agree_135 : decode cX7_agree 135 = .ok (.getfield 27, 3) := by decide +kernel
theorem dX7_agree_138 : decode cX7_agree 138 = .ok (.iload_n 2, 1) := by decide +kernel
theorem dX7_agree_139 : decode cX7_agree 139 = .ok (.iaload, 1) := by decide +kernel
theorem dX7_agree_140 : decode cX7_agree 140 = .ok (.if_icmp .ge 200, 3) := by decide +kernel
theorem dX7_agree_143 : decode cX7_agree 143 = .ok (.aload_n 0, 1) := by decide +kernel
theorem dX7_agree_144 : decode cX7_agree 144 = .ok (.getfield 36, 3) := by decide +kernel
theorem dX7_agree_147 : decode cX7_agree 147 = .ok (.bipush 40, 2) := by decide +kernel
theorem dX7_agree_149 : decode cX7_agree 149 = .ok (.iload_n 2, 1) := by decide +kernel
theorem dX7_agree_150 : decode cX7_agree 150 = .ok (.imul, 1) := by decide +kernel
theorem dX7_agree_151 : decode cX7_agree 151 = .ok (.iload 12, 2) := by decide +kernel
theorem dX7_agree_153 : decode cX7_agree 153 = .ok (.iadd, 1) := by decide +kernel
theorem dX7_agree_154 : decode cX7_agree 154 = .ok (.iaload, 1) := by decide +kernel
theorem dX7_agree_155 : decode cX7_agree 155 = .ok (.istore 13, 2) := by decide +kernel
theorem dX7_agree_157 : decode cX7_agree 157 = .ok (.iload 13, 2) := by decide +kernel
theorem dX7_agree_159 : decode cX7_agree 159 = .ok (.iload 10, 2) := by decide +kernel
theorem dX7_agree_161 : decode cX7_agree 161 = .ok (.isub, 1) := by decide +kernel
theorem dX7_agree_162 : decode cX7_agree 162 = .ok (.bipush 8, 2) := by decide +kernel
theorem dX7_agree_164 : decode cX7_agree 164 = .ok (.iadd, 1) := by decide +kernel
theorem dX7_agree_165 : decode cX7_agree 165 = .ok (.bipush 8, 2) := by decide +kernel
theorem dX7_agree_167 : decode cX7_agree 167 = .ok (.irem, 1) := by decide +kernel
theorem dX7_agree_168 : decode cX7_agree 168 = .ok (.istore 14, 2) := by decide +kernel
theorem dX7_agree_170 : decode cX7_agree 170 = .ok (.iload 10, 2) := by decide +kernel
theorem dX7_agree_172 : decode cX7_agree 172 = .ok (.bipush 8, 2) := by decide +kernel
theorem dX7_agree_174 : decode cX7_agree 174 = .ok (.if_icmp .eq 10, 3) := by decide +kernel
theorem dX7_agree_177 : decode cX7_agree 177 = .ok (.iload 13, 2) := by decide +kernel
theorem dX7_agree_179 : decode cX7_agree 179 = .ok (.bipush 8, 2) := by decide +kernel
theorem dX7_agree_181 : decode cX7_agree 181 = .ok (.if_icmp .ne 18, 3) := by decide +kernel
theorem dX7_agree_184 : decode cX7_agree 184 = .ok (.iload 10, 2) := by decide +kernel
theorem dX7_agree_186 : decode cX7_agree 186 = .ok (.iload 13, 2) := by decide +kernel
theorem dX7_agree_188 : decode cX7_agree 188 = .ok (.if_icmp .ne 7, 3) := by decide +kernel
theorem dX7_agree_191 : decode cX7_agree 191 = .ok (.iconst 1, 1) := by decide +kernel
theorem dX7_agree_192 : decode cX7_agree 192 = .ok (.goto 30, 3) := by decide +kernel
theorem dX7_agree_195 : decode cX7_agree 195 = .ok (.iconst 0, 1) := by decide +kernel
theorem dX7_agree_196 : decode cX7_agree 196 = .ok (.goto 26, 3) := by decide +kernel
theorem dX7_agree_199 : decode cX7_agree 199 = .ok (.iload 14, 2) := by decide +kernel
theorem dX7_agree_201 : decode cX7_agree 201 = .ok (.ifCond .eq 16, 3) := by decide +kernel
theorem dX7_agree_204 : decode cX7_agree 204 = .ok (.iload 14, 2) := by decide +kernel
theorem dX7_agree_206 : decode cX7_agree 206 = .ok (.iconst 1, 1) := by decide +kernel
theorem dX7_agree_207 : decode cX7_agree 207 = .ok (.if_icmp .eq 10, 3) := by decide +kernel
theorem dX7_agree_210 : decode cX7_agree 210 = .ok (.iload 14, 2) := by decide +kernel
theorem dX7_agree_212 : decode cX7_agree 212 = .ok (.bipush 7, 2) := by decide +kernel
theorem dX7_agree_214 : decode cX7_agree 214 = .ok (.if_icmp .ne 7, 3) := by decide +kernel
theorem dX7_agree_217 : decode cX7_agree 217 = .ok (.iconst 1, 1) := by decide +kernel
theorem dX7_agree_218 : decode cX7_agree 218 = .ok (.goto 4, 3) := by decide +kernel
theorem dX7_agree_221 : decode cX7_agree 221 = .ok (.iconst 0, 1) := by decide +kernel
theorem dX7_agree_222 : decode cX7_agree 222 = .ok (.istore 15, 2) := by decide +kernel
theorem dX7_agree_224 : decode cX7_agree 224 = .ok (.iload 15, 2) := by decide +kernel
theorem dX7_agree_226 : decode cX7_agree 226 = .ok (.ifCond .eq 73, 3) := by decide +kernel
theorem dX7_agree_229 : decode cX7_agree 229 = .ok (.aload_n 0, 1) := by decide +kernel
theorem dX7_agree_230 : decode cX7_agree 230 = .ok (.getfield 30, 3) := by decide +kernel
theorem dX7_agree_233 : decode cX7_agree 233 = .ok (.bipush 40, 2) := by decide +kernel
theorem dX7_agree_235 : decode cX7_agree 235 = .ok (.iload_n 2, 1) := by decide +kernel
theorem dX7_agree_236 : decode cX7_agree 236 = .ok (.imul, 1) := by decide +kernel
theorem dX7_agree_237 : decode cX7_agree 237 = .ok (.iload 12, 2) := by decide +kernel
theorem dX7_agree_239 : decode cX7_agree 239 = .ok (.iadd, 1) := by decide +kernel
theorem dX7_agree_240 : decode cX7_agree 240 = .ok (.iaload, 1) := by decide +kernel
theorem dX7_agree_241 : decode cX7_agree 241 = .ok (.iload 8, 2) := by decide +kernel
theorem dX7_agree_243 : decode cX7_agree 243 = .ok (.isub, 1) := by decide +kernel
theorem dX7_agree_244 : decode cX7_agree 244 = .ok (.i2l, 1) := by decide +kernel
theorem dX7_agree_245 : decode cX7_agree 245 = .ok (.aload_n 0, 1) := by decide +kernel
theorem dX7_agree_246 : decode cX7_agree 246 = .ok (.getfield 13, 3) := by decide +kernel
theorem dX7_agree_249 : decode cX7_agree 249 = .ok (.ineg, 1) := by decide +kernel
theorem dX7_agree_250 : decode cX7_agree 250 = .ok (.i2l, 1) := by decide +kernel
theorem dX7_agree_251 : decode cX7_agree 251 = .ok (.aload_n 0, 1) := by decide +kernel
theorem dX7_agree_252 : decode cX7_agree 252 = .ok (.getfield 13, 3) := by decide +kernel
theorem dX7_agree_255 : decode cX7_agree 255 = .ok (.i2l, 1) := by decide +kernel
theorem dX7_agree_256 : decode cX7_agree 256 = .ok (.invokestatic 63, 3) := by decide +kernel
theorem dX7_agree_259 : decode cX7_agree 259 = .ok (.ifCond .eq 40, 3) := by decide +kernel
theorem dX7_agree_262 : decode cX7_agree 262 = .ok (.aload_n 0, 1) := by decide +kernel
theorem dX7_agree_263 : decode cX7_agree 263 = .ok (.getfield 33, 3) := by decide +kernel
theorem dX7_agree_266 : decode cX7_agree 266 = .ok (.bipush 40, 2) := by decide +kernel
theorem dX7_agree_268 : decode cX7_agree 268 = .ok (.iload_n 2, 1) := by decide +kernel
theorem dX7_agree_269 : decode cX7_agree 269 = .ok (.imul, 1) := by decide +kernel
theorem dX7_agree_270 : decode cX7_agree 270 = .ok (.iload 12, 2) := by decide +kernel
theorem dX7_agree_272 : decode cX7_agree 272 = .ok (.iadd, 1) := by decide +kernel
theorem dX7_agree_273 : decode cX7_agree 273 = .ok (.iaload, 1) := by decide +kernel
theorem dX7_agree_274 : decode cX7_agree 274 = .ok (.iload 9, 2) := by decide +kernel
theorem dX7_agree_276 : decode cX7_agree 276 = .ok (.isub, 1) := by decide +kernel
theorem dX7_agree_277 : decode cX7_agree 277 = .ok (.i2l, 1) := by decide +kernel
theorem dX7_agree_278 : decode cX7_agree 278 = .ok (.aload_n 0, 1) := by decide +kernel
theorem dX7_agree_279 : decode cX7_agree 279 = .ok (.getfield 13, 3) := by decide +kernel
theorem dX7_agree_282 : decode cX7_agree 282 = .ok (.ineg, 1) := by decide +kernel
theorem dX7_agree_283 : decode cX7_agree 283 = .ok (.i2l, 1) := by decide +kernel
theorem dX7_agree_284 : decode cX7_agree 284 = .ok (.aload_n 0, 1) := by decide +kernel
theorem dX7_agree_285 : decode cX7_agree 285 = .ok (.getfield 13, 3) := by decide +kernel
theorem dX7_agree_288 : decode cX7_agree 288 = .ok (.i2l, 1) := by decide +kernel
theorem dX7_agree_289 : decode cX7_agree 289 = .ok (.invokestatic 63, 3) := by decide +kernel
theorem dX7_agree_292 : decode cX7_agree 292 = .ok (.ifCond .eq 7, 3) := by decide +kernel
theorem dX7_agree_295 : decode cX7_agree 295 = .ok (.iconst 1, 1) := by decide +kernel
theorem dX7_agree_296 : decode cX7_agree 296 = .ok (.goto 4, 3) := by decide +kernel
theorem dX7_agree_299 : decode cX7_agree 299 = .ok (.iconst 0, 1) := by decide +kernel
theorem dX7_agree_300 : decode cX7_agree 300 = .ok (.istore 16, 2) := by decide +kernel
theorem dX7_agree_302 : decode cX7_agree 302 = .ok (.aload_n 0, 1) := by decide +kernel
theorem dX7_agree_303 : decode cX7_agree 303 = .ok (.getfield 39, 3) := by decide +kernel
theorem dX7_agree_306 : decode cX7_agree 306 = .ok (.bipush 40, 2) := by decide +kernel
theorem dX7_agree_308 : decode cX7_agree 308 = .ok (.iload 7, 2) := by decide +kernel
theorem dX7_agree_310 : decode cX7_agree 310 = .ok (.imul, 1) := by decide +kernel
theorem dX7_agree_311 : decode cX7_agree 311 = .ok (.iload 12, 2) := by decide +kernel
theorem dX7_agree_313 : decode cX7_agree 313 = .ok (.iadd, 1) := by decide +kernel
theorem dX7_agree_314 : decode cX7_agree 314 = .ok (.iload 16, 2) := by decide +kernel
theorem dX7_agree_316 : decode cX7_agree 316 = .ok (.bastore, 1) := by decide +kernel
theorem dX7_agree_317 : decode cX7_agree 317 = .ok (.iload 11, 2) := by decide +kernel
theorem dX7_agree_319 : decode cX7_agree 319 = .ok (.ifCond .ne 8, 3) := by decide +kernel
theorem dX7_agree_322 : decode cX7_agree 322 = .ok (.iload 16, 2) := by decide +kernel
theorem dX7_agree_324 : decode cX7_agree 324 = .ok (.ifCond .eq 7, 3) := by decide +kernel
theorem dX7_agree_327 : decode cX7_agree 327 = .ok (.iconst 1, 1) := by decide +kernel
theorem dX7_agree_328 : decode cX7_agree 328 = .ok (.goto 4, 3) := by decide +kernel
theorem dX7_agree_331 : decode cX7_agree 331 = .ok (.iconst 0, 1) := by decide +kernel
theorem dX7_agree_332 : decode cX7_agree 332 = .ok (.istore 11, 2) := by decide +kernel
theorem dX7_agree_334 : decode cX7_agree 334 = .ok (.iinc 12 1, 3) := by decide +kernel
theorem dX7_agree_337 : decode cX7_agree 337 = .ok (.goto (-205), 3) := by decide +kernel
theorem dX7_agree_340 : decode cX7_agree 340 = .ok (.iload 6, 2) := by decide +kernel
theorem dX7_agree_342 : decode cX7_agree 342 = .ok (.iload 11, 2) := by decide +kernel
theorem dX7_agree_344 : decode cX7_agree 344 = .ok (.ifCond .eq 7, 3) := by decide +kernel
theorem dX7_agree_347 : decode cX7_agree 347 = .ok (.iconst 1, 1) := by decide +kernel
theorem dX7_agree_348 : decode cX7_agree 348 = .ok (.goto 4, 3) := by decide +kernel
theorem dX7_agree_351 : decode cX7_agree 351 = .ok (.iconst 0, 1) := by decide +kernel
theorem dX7_agree_352 : decode cX7_agree 352 = .ok (.iadd, 1) := by decide +kernel
theorem dX7_agree_353 : decode cX7_agree 353 = .ok (.istore 6, 2) := by decide +kernel
theorem dX7_agree_355 : decode cX7_agree 355 = .ok (.iinc 7 1, 3) := by decide +kernel
theorem dX7_agree_358 : decode cX7_agree 358 = .ok (.goto (-352), 3) := by decide +kernel
theorem dX7_agree_361 : decode cX7_agree 361 = .ok (.iload 6, 2) := by decide +kernel
theorem dX7_agree_363 : decode cX7_agree 363 = .ok (.ireturn, 1) := by decide +kernel
set_option maxRecDepth 20000 in
theorem ggX7_pair_X7_turnOver : GoodIn wsX7_pair wsX7_turnOver := goodIn_r _ [9, 1, 4, 10, 11, 12, 13, 14, 15, 16, 17, 18, 19, 20, 21, 22, 23, 24, 25, 26, 27, 28, 29, 30] (by decide +kernel) (by decide +kernel)
set_option maxRecDepth 20000 in
theorem gX7_pair_X7_turnOver : GoodIn wsX7_pair (wsV RX7 113 RX7 yX7_turnOver wsX7_turnOver) := goodIn_app (goodIn_of _ (by decide +kernel)) ggX7_pair_X7_turnOver
theorem dX7_pair_0 : decode cX7_pair 0 = .ok (.iconst 0, 1) := by decide +kernel
theorem dX7_pair_1 : decode cX7_pair 1 = .ok (.istore_n 3, 1) := by decide +kernel
theorem dX7_pair_2 : decode cX7_pair 2 = .ok (.iload_n 3, 1) := by decide +kernel
theorem dX7_pair_3 : decode cX7_pair 3 = .ok (.iload_n 2, 1) := by decide +kernel
theorem dX7_pair_4 : decode cX7_pair 4 = .ok (.if_icmp .ge 16, 3) := by decide +kernel
theorem dX7_pair_7 : decode cX7_pair 7 = .ok (.aload_n 0, 1) := by decide +kernel
theorem dX7_pair_8 : decode cX7_pair 8 = .ok (.getfield 45, 3) := by decide +kernel
theorem dX7_pair_11 : decode cX7_pair 11 = .ok (.iload_n 3, 1) := by decide +kernel
theorem dX7_pair_12 : decode cX7_pair 12 = .ok (.iconst (-1), 1) := by decide +kernel
theorem dX7_pair_13 : decode cX7_pair 13 = .ok (.iastore, 1) := by decide +kernel
theorem dX7_pair_14 : decode cX7_pair 14 = .ok (.iinc 3 1, 3) := by decide +kernel
theorem dX7_pair_17 : decode cX7_pair 17 = .ok (.goto (-15), 3) := by decide +kernel
theorem dX7_pair_20 : decode cX7_pair 20 = .ok (.iconst 0, 1) := by decide +kernel
theorem dX7_pair_21 : decode cX7_pair 21 = .ok (.istore_n 3, 1) := by decide +kernel
theorem dX7_pair_22 : decode cX7_pair 22 = .ok (.iconst 1, 1) := by decide +kernel
theorem dX7_pair_23 : decode cX7_pair 23 = .ok (.istore 4, 2) := by decide +kernel
theorem dX7_pair_25 : decode cX7_pair 25 = .ok (.aload_n 0, 1) := by decide +kernel
theorem dX7_pair_26 : decode cX7_pair 26 = .ok (.getfield 48, 3) := by decide +kernel
theorem dX7_pair_29 : decode cX7_pair 29 = .ok (.iconst 0, 1) := by decide +kernel
theorem dX7_pair_30 : decode cX7_pair 30 = .ok (.iload_n 1, 1) := by decide +kernel
theorem dX7_pair_31 : decode cX7_pair 31 = .ok (.iastore, 1) := by decide +kernel
theorem dX7_pair_32 : decode cX7_pair 32 = .ok (.iload_n 3, 1) := by decide +kernel
theorem dX7_pair_33 : decode cX7_pair 33 = .ok (.iload 4, 2) := by decide +kernel
theorem dX7_pair_35 : decode cX7_pair 35 = .ok (.if_icmp .ge 108, 3) := by decide +kernel
theorem dX7_pair_38 : decode cX7_pair 38 = .ok (.aload_n 0, 1) := by decide +kernel
theorem dX7_pair_39 : decode cX7_pair 39 = .ok (.getfield 48, 3) := by decide +kernel
theorem dX7_pair_42 : decode cX7_pair 42 = .ok (.iload_n 3, 1) := by decide +kernel
theorem dX7_pair_43 : decode cX7_pair 43 = .ok (.iaload, 1) := by decide +kernel
theorem dX7_pair_44 : decode cX7_pair 44 = .ok (.istore 5, 2) := by decide +kernel
theorem dX7_pair_46 : decode cX7_pair 46 = .ok (.iinc 3 1, 3) := by decide +kernel
theorem dX7_pair_49 : decode cX7_pair 49 = .ok (.iconst 0, 1) := by decide +kernel
theorem dX7_pair_50 : decode cX7_pair 50 = .ok (.istore 6, 2) := by decide +kernel
theorem dX7_pair_52 : decode cX7_pair 52 = .ok (.iload 6, 2) := by decide +kernel
theorem dX7_pair_54 : decode cX7_pair 54 = .ok (.iload_n 2, 1) := by decide +kernel
theorem dX7_pair_55 : decode cX7_pair 55 = .ok (.if_icmp .ge 85, 3) := by decide +kernel
theorem dX7_pair_58 : decode cX7_pair 58 = .ok (.aload_n 0, 1) := by decide +kernel
theorem dX7_pair_59 : decode cX7_pair 59 = .ok (.getfield 39, 3) := by decide +kernel
theorem dX7_pair_62 : decode cX7_pair 62 = .ok (.bipush 40, 2) := by decide +kernel
theorem dX7_pair_64 : decode cX7_pair 64 = .ok (.iload 5, 2) := by decide +kernel
theorem dX7_pair_66 : decode cX7_pair 66 = .ok (.imul, 1) := by decide +kernel
theorem dX7_pair_67 : decode cX7_pair 67 = .ok (.iload 6, 2) := by decide +kernel
theorem dX7_pair_69 : decode cX7_pair 69 = .ok (.iadd, 1) := by decide +kernel
theorem dX7_pair_70 : decode cX7_pair 70 = .ok (.baload, 1) := by decide +kernel
theorem dX7_pair_71 : decode cX7_pair 71 = .ok (.ifCond .eq 63, 3) := by decide +kernel
theorem dX7_pair_74 : decode cX7_pair 74 = .ok (.aload_n 0, 1) := by decide +kernel
theorem dX7_pair_75 : decode cX7_pair 75 = .ok (.getfield 45, 3) := by decide +kernel
theorem dX7_pair_78 : decode cX7_pair 78 = .ok (.iload 6, 2) := by decide +kernel
theorem dX7_pair_80 : decode cX7_pair 80 = .ok (.iaload, 1) := by decide +kernel
theorem dX7_pair_81 : decode cX7_pair 81 = .ok (.iconst (-1), 1) := by decide +kernel
theorem dX7_pair_82 : decode cX7_pair 82 = .ok (.if_icmp .eq 6, 3) := by decide +kernel
theorem dX7_pair_85 : decode cX7_pair 85 = .ok (.goto 49, 3) := by decide +kernel
theorem dX7_pair_88 : decode cX7_pair 88 = .ok (.aload_n 0, 1) := by decide +kernel
theorem dX7_pair_89 : decode cX7_pair 89 = .ok (.getfield 45, 3) := by decide +kernel
theorem dX7_pair_92 : decode cX7_pair 92 = .ok (.iload 6, 2) := by decide +kernel
theorem dX7_pair_94 : decode cX7_pair 94 = .ok (.iload 5, 2) := by decide +kernel
theorem dX7_pair_96 : decode cX7_pair 96 = .ok (.iastore, 1) := by decide +kernel
theorem dX7_pair_97 : decode cX7_pair 97 = .ok (.aload_n 0, 1) := by decide +kernel
theorem dX7_pair_98 : decode cX7_pair 98 = .ok (.getfield 42, 3) := by decide +kernel
theorem dX7_pair_101 : decode cX7_pair 101 = .ok (.iload 6, 2) := by decide +kernel
theorem dX7_pair_103 : decode cX7_pair 103 = .ok (.iaload, 1) := by decide +kernel
theorem dX7_pair_104 : decode cX7_pair 104 = .ok (.iconst (-1), 1) := by decide +kernel
theorem dX7_pair_105 : decode cX7_pair 105 = .ok (.if_icmp .ne 12, 3) := by decide +kernel
theorem dX7_pair_108 : decode cX7_pair 108 = .ok (.aload_n 0, 1) := by decide +kernel
theorem dX7_pair_109 : decode cX7_pair 109 = .ok (.iload 6, 2) := by decide +kernel
theorem dX7_pair_111 : decode cX7_pair 111 = .ok (.iload_n 1, 1) := by decide +kernel
theorem dX7_pair_112 : decode cX7_pair 112 = .ok (.invokevirtual 113, 3) := by decide +kernel
theorem dX7_pair_115 : decode cX7_pair 115 = .ok (.iconst 1, 1) := by decide +kernel
theorem dX7_pair_116 : decode cX7_pair 116 = .ok (.ireturn, 1) := by decide +kernel
theorem dX7_pair_117 : decode cX7_pair 117 = .ok (.aload_n 0, 1) := by decide +kernel
theorem dX7_pair_118 : decode cX7_pair 118 = .ok (.getfield 48, 3) := by decide +kernel
theorem dX7_pair_121 : decode cX7_pair 121 = .ok (.iload 4, 2) := by decide +kernel
theorem dX7_pair_123 : decode cX7_pair 123 = .ok (.aload_n 0, 1) := by decide +kernel
theorem dX7_pair_124 : decode cX7_pair 124 = .ok (.getfield 42, 3) := by decide +kernel
theorem dX7_pair_127 : decode cX7_pair 127 = .ok (.iload 6, 2) := by decide +kernel
theorem dX7_pair_129 : decode cX7_pair 129 = .ok (.iaload, 1) := by decide +kernel
theorem dX7_pair_130 : decode cX7_pair 130 = .ok (.iastore, 1) := by decide +kernel
theorem dX7_pair_131 : decode cX7_pair 131 = .ok (.iinc 4 1, 3) := by decide +kernel
theorem dX7_pair_134 : decode cX7_pair 134 = .ok (.iinc 6 1, 3) := by decide +kernel
theorem dX7_pair_137 : decode cX7_pair 137 = .ok (.goto (-85), 3) := by decide +kernel
theorem dX7_pair_140 : decode cX7_pair 140 = .ok (.goto (-108), 3) := by decide +kernel
theorem dX7_pair_143 : decode cX7_pair 143 = .ok (.iconst 0, 1) := by decide +kernel
theorem dX7_pair_144 : decode cX7_pair 144 = .ok (.ireturn, 1) := by decide +kernel
theorem dX7_turnOver_0 : decode cX7_turnOver 0 = .ok (.iload_n 1, 1) := by decide +kernel
theorem dX7_turnOver_1 : decode cX7_turnOver 1 = .ok (.istore_n 3, 1) := by decide +kernel
theorem dX7_turnOver_2 : decode cX7_turnOver 2 = .ok (.iconst 1, 1) := by decide +kernel
theorem dX7_turnOver_3 : decode cX7_turnOver 3 = .ok (.istore 4, 2) := by decide +kernel
theorem dX7_turnOver_5 : decode cX7_turnOver 5 = .ok (.iload 4, 2) := by decide +kernel
theorem dX7_turnOver_7 : decode cX7_turnOver 7 = .ok (.ifCond .eq 98, 3) := by decide +kernel
theorem dX7_turnOver_10 : decode cX7_turnOver 10 = .ok (.aload_n 0, 1) := by decide +kernel
theorem dX7_turnOver_11 : decode cX7_turnOver 11 = .ok (.getfield 45, 3) := by decide +kernel
theorem dX7_turnOver_14 : decode cX7_turnOver 14 = .ok (.iload_n 3, 1) := by decide +kernel
theorem dX7_turnOver_15 : decode cX7_turnOver 15 = .ok (.iaload, 1) := by decide +kernel
theorem dX7_turnOver_16 : decode cX7_turnOver 16 = .ok (.istore 5, 2) := by decide +kernel
theorem dX7_turnOver_18 : decode cX7_turnOver 18 = .ok (.iconst (-1), 1) := by decide +kernel
theorem dX7_turnOver_19 : decode cX7_turnOver 19 = .ok (.istore 6, 2) := by decide +kernel
theorem dX7_turnOver_21 : decode cX7_turnOver 21 = .ok (.iconst 0, 1) := by decide +kernel
theorem dX7_turnOver_22 : decode cX7_turnOver 22 = .ok (.istore 7, 2) := by decide +kernel
theorem dX7_turnOver_24 : decode cX7_turnOver 24 = .ok (.iload 7, 2) := by decide +kernel
theorem dX7_turnOver_26 : decode cX7_turnOver 26 = .ok (.bipush 40, 2) := by decide +kernel
theorem dX7_turnOver_28 : decode cX7_turnOver 28 = .ok (.if_icmp .ge 30, 3) := by decide +kernel
theorem dX7_turnOver_31 : decode cX7_turnOver 31 = .ok (.aload_n 0, 1) := by decide +kernel
theorem dX7_turnOver_32 : decode cX7_turnOver 32 = .ok (.getfield 42, 3) := by decide +kernel
theorem dX7_turnOver_35 : decode cX7_turnOver 35 = .ok (.iload 7, 2) := by decide +kernel
theorem dX7_turnOver_37 : decode cX7_turnOver 37 = .ok (.iaload, 1) := by decide +kernel
theorem dX7_turnOver_38 : decode cX7_turnOver 38 = .ok (.iload 5, 2) := by decide +kernel
theorem dX7_turnOver_40 : decode cX7_turnOver 40 = .ok (.if_icmp .ne 8, 3) := by decide +kernel
theorem dX7_turnOver_43 : decode cX7_turnOver 43 = .ok (.iload 7, 2) := by decide +kernel
theorem dX7_turnOver_45 : decode cX7_turnOver 45 = .ok (.goto 5, 3) := by decide +kernel
theorem dX7_turnOver_48 : decode cX7_turnOver 48 = .ok (.iload 6, 2) := by decide +kernel
theorem dX7_turnOver_50 : decode cX7_turnOver 50 = .ok (.istore 6, 2) := by decide +kernel
theorem dX7_turnOver_52 : decode cX7_turnOver 52 = .ok (.iinc 7 1, 3) := by decide +kernel
theorem dX7_turnOver_55 : decode cX7_turnOver 55 = .ok (.goto (-31), 3) := by decide +kernel
theorem dX7_turnOver_58 : decode cX7_turnOver 58 = .ok (.aload_n 0, 1) := by decide +kernel
theorem dX7_turnOver_59 : decode cX7_turnOver 59 = .ok (.getfield 42, 3) := by decide +kernel
theorem dX7_turnOver_62 : decode cX7_turnOver 62 = .ok (.iload_n 3, 1) := by decide +kernel
theorem dX7_turnOver_63 : decode cX7_turnOver 63 = .ok (.iload 5, 2) := by decide +kernel
theorem dX7_turnOver_65 : decode cX7_turnOver 65 = .ok (.iastore, 1) := by decide +kernel
theorem dX7_turnOver_66 : decode cX7_turnOver 66 = .ok (.iload 6, 2) := by decide +kernel
theorem dX7_turnOver_68 : decode cX7_turnOver 68 = .ok (.iconst (-1), 1) := by decide +kernel
theorem dX7_turnOver_69 : decode cX7_turnOver 69 = .ok (.if_icmp .eq 17, 3) := by decide +kernel
theorem dX7_turnOver_72 : decode cX7_turnOver 72 = .ok (.iload 6, 2) := by decide +kernel
theorem dX7_turnOver_74 : decode cX7_turnOver 74 = .ok (.iload_n 3, 1) := by decide +kernel
theorem dX7_turnOver_75 : decode cX7_turnOver 75 = .ok (.if_icmp .eq 11, 3) := by decide +kernel
theorem dX7_turnOver_78 : decode cX7_turnOver 78 = .ok (.aload_n 0, 1) := by decide +kernel
theorem dX7_turnOver_79 : decode cX7_turnOver 79 = .ok (.getfield 42, 3) := by decide +kernel
theorem dX7_turnOver_82 : decode cX7_turnOver 82 = .ok (.iload 6, 2) := by decide +kernel
theorem dX7_turnOver_84 : decode cX7_turnOver 84 = .ok (.iconst (-1), 1) := by decide +kernel
theorem dX7_turnOver_85 : decode cX7_turnOver 85 = .ok (.iastore, 1) := by decide +kernel
theorem dX7_turnOver_86 : decode cX7_turnOver 86 = .ok (.iload 5, 2) := by decide +kernel
theorem dX7_turnOver_88 : decode cX7_turnOver 88 = .ok (.iload_n 2, 1) := by decide +kernel
theorem dX7_turnOver_89 : decode cX7_turnOver 89 = .ok (.if_icmp .eq 7, 3) := by decide +kernel
theorem dX7_turnOver_92 : decode cX7_turnOver 92 = .ok (.iconst 1, 1) := by decide +kernel
theorem dX7_turnOver_93 : decode cX7_turnOver 93 = .ok (.goto 4, 3) := by decide +kernel
theorem dX7_turnOver_96 : decode cX7_turnOver 96 = .ok (.iconst 0, 1) := by decide +kernel
theorem dX7_turnOver_97 : decode cX7_turnOver 97 = .ok (.istore 4, 2) := by decide +kernel
theorem dX7_turnOver_99 : decode cX7_turnOver 99 = .ok (.iload 6, 2) := by decide +kernel
theorem dX7_turnOver_101 : decode cX7_turnOver 101 = .ok (.istore_n 3, 1) := by decide +kernel
theorem dX7_turnOver_102 : decode cX7_turnOver 102 = .ok (.goto (-97), 3) := by decide +kernel
theorem dX7_turnOver_105 : decode cX7_turnOver 105 = .ok (.return_, 1) := by decide +kernel
set_option maxRecDepth 20000 in
theorem ggX7_matched_X7_pair : GoodIn wsX7_matched wsX7_pair := goodIn_r _ [7, 8, 9, 10, 1, 11, 12, 13, 6, 14, 15, 16, 17, 18, 19, 20, 21, 22, 23, 24, 25, 26, 27, 28, 29, 30, 31, 32, 33, 34, 35] (by decide +kernel) (by decide +kernel)
set_option maxRecDepth 20000 in
theorem gX7_matched_X7_pair : GoodIn wsX7_matched (wsV RX7 117 RX7 yX7_pair wsX7_pair) := goodIn_app (goodIn_of _ (by decide +kernel)) ggX7_matched_X7_pair
theorem dX7_matched_0 : decode cX7_matched 0 = .ok (.iconst 0, 1) := by decide +kernel
theorem dX7_matched_1 : decode cX7_matched 1 = .ok (.istore_n 3, 1) := by decide +kernel
theorem dX7_matched_2 : decode cX7_matched 2 = .ok (.iload_n 3, 1) := by decide +kernel
theorem dX7_matched_3 : decode cX7_matched 3 = .ok (.bipush 40, 2) := by decide +kernel
theorem dX7_matched_5 : decode cX7_matched 5 = .ok (.if_icmp .ge 16, 3) := by decide +kernel
theorem dX7_matched_8 : decode cX7_matched 8 = .ok (.aload_n 0, 1) := by decide +kernel
theorem dX7_matched_9 : decode cX7_matched 9 = .ok (.getfield 42, 3) := by decide +kernel
theorem dX7_matched_12 : decode cX7_matched 12 = .ok (.iload_n 3, 1) := by decide +kernel
theorem dX7_matched_13 : decode cX7_matched 13 = .ok (.iconst (-1), 1) := by decide +kernel
theorem dX7_matched_14 : decode cX7_matched 14 = .ok (.iastore, 1) := by decide +kernel
theorem dX7_matched_15 : decode cX7_matched 15 = .ok (.iinc 3 1, 3) := by decide +kernel
theorem dX7_matched_18 : decode cX7_matched 18 = .ok (.goto (-16), 3) := by decide +kernel
theorem dX7_matched_21 : decode cX7_matched 21 = .ok (.iconst 0, 1) := by decide +kernel
theorem dX7_matched_22 : decode cX7_matched 22 = .ok (.istore_n 3, 1) := by decide +kernel
theorem dX7_matched_23 : decode cX7_matched 23 = .ok (.iconst 0, 1) := by decide +kernel
theorem dX7_matched_24 : decode cX7_matched 24 = .ok (.istore 4, 2) := by decide +kernel
theorem dX7_matched_26 : decode cX7_matched 26 = .ok (.iload 4, 2) := by decide +kernel
theorem dX7_matched_28 : decode cX7_matched 28 = .ok (.aload_n 0, 1) := by decide +kernel
theorem dX7_matched_29 : decode cX7_matched 29 = .ok (.getfield 27, 3) := by decide +kernel
theorem dX7_matched_32 : decode cX7_matched 32 = .ok (.iload_n 1, 1) := by decide +kernel
theorem dX7_matched_33 : decode cX7_matched 33 = .ok (.iaload, 1) := by decide +kernel
theorem dX7_matched_34 : decode cX7_matched 34 = .ok (.if_icmp .ge 32, 3) := by decide +kernel
theorem dX7_matched_37 : decode cX7_matched 37 = .ok (.iload_n 3, 1) := by decide +kernel
theorem dX7_matched_38 : decode cX7_matched 38 = .ok (.aload_n 0, 1) := by decide +kernel
theorem dX7_matched_39 : decode cX7_matched 39 = .ok (.iload 4, 2) := by decide +kernel
theorem dX7_matched_41 : decode cX7_matched 41 = .ok (.aload_n 0, 1) := by decide +kernel
theorem dX7_matched_42 : decode cX7_matched 42 = .ok (.getfield 27, 3) := by decide +kernel
theorem dX7_matched_45 : decode cX7_matched 45 = .ok (.iload_n 2, 1) := by decide +kernel
theorem dX7_matched_46 : decode cX7_matched 46 = .ok (.iaload, 1) := by decide +kernel
theorem dX7_matched_47 : decode cX7_matched 47 = .ok (.invokevirtual 117, 3) := by decide +kernel
theorem dX7_matched_50 : decode cX7_matched 50 = .ok (.ifCond .eq 7, 3) := by decide +kernel
theorem dX7_matched_53 : decode cX7_matched 53 = .ok (.iconst 1, 1) := by decide +kernel
theorem dX7_matched_54 : decode cX7_matched 54 = .ok (.goto 4, 3) := by decide +kernel
theorem dX7_matched_57 : decode cX7_matched 57 = .ok (.iconst 0, 1) := by decide +kernel
theorem dX7_matched_58 : decode cX7_matched 58 = .ok (.iadd, 1) := by decide +kernel
theorem dX7_matched_59 : decode cX7_matched 59 = .ok (.istore_n 3, 1) := by decide +kernel
theorem dX7_matched_60 : decode cX7_matched 60 = .ok (.iinc 4 1, 3) := by decide +kernel
theorem dX7_matched_63 : decode cX7_matched 63 = .ok (.goto (-37), 3) := by decide +kernel
theorem dX7_matched_66 : decode cX7_matched 66 = .ok (.iload_n 3, 1) := by decide +kernel
theorem dX7_matched_67 : decode cX7_matched 67 = .ok (.ireturn, 1) := by decide +kernel
set_option maxRecDepth 20000 in
theorem ggX7_pairs_X7_isPrint : GoodIn wsX7_pairs wsX7_isPrint := goodIn_r _ [9, 10, 11, 12, 8, 13, 73, 74, 75, 76, 77, 78, 79, 80, 81, 82, 83, 84, 85, 86, 87, 88, 89, 90, 91, 92, 93] (by decide +kernel) (by decide +kernel)
set_option maxRecDepth 20000 in
theorem gX7_pairs_X7_isPrint : GoodIn wsX7_pairs (wsV RX7 77 RX7 yX7_isPrint wsX7_isPrint) := goodIn_app (goodIn_of _ (by decide +kernel)) ggX7_pairs_X7_isPrint
set_option maxRecDepth 20000 in
theorem ggX7_pairs_X7_in : GoodIn wsX7_pairs wsX7_in := goodIn_r _ [13] (by decide +kernel) (by decide +kernel)
set_option maxRecDepth 20000 in
theorem gX7_pairs_X7_in : GoodIn wsX7_pairs (va_wsS RX7 63 yX7_in wsX7_in) := goodIn_app (goodIn_of _ (by decide +kernel)) ggX7_pairs_X7_in
set_option maxRecDepth 20000 in
theorem ggX7_pairs_X7_findMarks : GoodIn wsX7_pairs wsX7_findMarks := goodIn_r _ [17, 18, 19, 20, 21, 22, 23, 24, 25, 26, 8, 27, 28, 29, 30, 31, 32, 33, 34, 35, 36, 37, 38, 39, 40, 41, 42, 43, 44, 45, 46, 47, 11, 12, 13, 48, 49, 50, 51, 73, 74, 75, 76, 77, 78, 79, 80, 81, 82, 83, 84, 85, 86, 87, 88, 89, 90, 91, 92, 93] (by decide +kernel) (by decide +kernel)
set_option maxRecDepth 20000 in
theorem gX7_pairs_X7_findMarks : GoodIn wsX7_pairs (wsV RX7 105 RX7 yX7_findMarks wsX7_findMarks) := goodIn_app (goodIn_of _ (by decide +kernel)) ggX7_pairs_X7_findMarks
set_option maxRecDepth 20000 in
theorem ggX7_pairs_X7_agree : GoodIn wsX7_pairs wsX7_agree := goodIn_r _ [55, 18, 21, 22, 23, 56, 57, 11, 12, 8, 13, 73, 74, 75, 76, 77, 78, 79, 80, 81, 82, 83, 84, 85, 86, 87, 88, 89, 90, 91, 92, 93] (by decide +kernel) (by decide +kernel)
set_option maxRecDepth 20000 in
theorem gX7_pairs_X7_agree : GoodIn wsX7_pairs (wsV RX7 125 RX7 yX7_agree wsX7_agree) := goodIn_app (goodIn_of _ (by decide +kernel)) ggX7_pairs_X7_agree
set_option maxRecDepth 20000 in
theorem ggX7_pairs_X7_matched : GoodIn wsX7_pairs wsX7_matched := goodIn_r _ [61, 62, 18, 63, 64, 65, 8, 66, 67, 68, 57, 69, 70, 71, 72, 73, 74, 75, 76, 77, 78, 79, 80, 81, 82, 83, 84, 85, 86, 87, 88, 89, 90, 91, 92, 93] (by decide +kernel) (by decide +kernel)
set_option maxRecDepth 20000 in
theorem gX7_pairs_X7_matched : GoodIn wsX7_pairs (wsV RX7 129 RX7 yX7_matched wsX7_matched) := goodIn_app (goodIn_of _ (by decide +kernel)) ggX7_pairs_X7_matched
theorem dX7_pairs_0 : decode cX7_pairs 0 = .ok (.aload_n 0, 1) := by decide +kernel
theorem dX7_pairs_1 : decode cX7_pairs 1 = .ok (.iconst 0, 1) := by decide +kernel
theorem dX7_pairs_2 : decode cX7_pairs 2 = .ok (.putfield 54, 3) := by decide +kernel
theorem dX7_pairs_5 : decode cX7_pairs 5 = .ok (.aload_n 0, 1) := by decide +kernel
theorem dX7_pairs_6 : decode cX7_pairs 6 = .ok (.iload_n 1, 1) := by decide +kernel
theorem dX7_pairs_7 : decode cX7_pairs 7 = .ok (.invokevirtual 77, 3) := by decide +kernel
theorem dX7_pairs_10 : decode cX7_pairs 10 = .ok (.ifCond .eq 53, 3) := by decide +kernel
theorem dX7_pairs_13 : decode cX7_pairs 13 = .ok (.aload_n 0, 1) := by decide +kernel
theorem dX7_pairs_14 : decode cX7_pairs 14 = .ok (.iload_n 2, 1) := by decide +kernel
theorem dX7_pairs_15 : decode cX7_pairs 15 = .ok (.invokevirtual 77, 3) := by decide +kernel
theorem dX7_pairs_18 : decode cX7_pairs 18 = .ok (.ifCond .eq 45, 3) := by decide +kernel
theorem dX7_pairs_21 : decode cX7_pairs 21 = .ok (.iload_n 3, 1) := by decide +kernel
theorem dX7_pairs_22 : decode cX7_pairs 22 = .ok (.i2l, 1) := by decide +kernel
theorem dX7_pairs_23 : decode cX7_pairs 23 = .ok (.lconst 0, 1) := by decide +kernel
theorem dX7_pairs_24 : decode cX7_pairs 24 = .ok (.ldc2_w 111, 3) := by decide +kernel
theorem dX7_pairs_27 : decode cX7_pairs 27 = .ok (.invokestatic 63, 3) := by decide +kernel
theorem dX7_pairs_30 : decode cX7_pairs 30 = .ok (.ifCond .eq 33, 3) := by decide +kernel
theorem dX7_pairs_33 : decode cX7_pairs 33 = .ok (.iload 4, 2) := by decide +kernel
theorem dX7_pairs_35 : decode cX7_pairs 35 = .ok (.i2l, 1) := by decide +kernel
theorem dX7_pairs_36 : decode cX7_pairs 36 = .ok (.ldc2_w 121, 3) := by decide +kernel
theorem dX7_pairs_39 : decode cX7_pairs 39 = .ok (.ldc2_w 123, 3) := by decide +kernel
theorem dX7_pairs_42 : decode cX7_pairs 42 = .ok (.invokestatic 63, 3) := by decide +kernel
theorem dX7_pairs_45 : decode cX7_pairs 45 = .ok (.ifCond .eq 18, 3) := by decide +kernel
theorem dX7_pairs_48 : decode cX7_pairs 48 = .ok (.iload 5, 2) := by decide +kernel
theorem dX7_pairs_50 : decode cX7_pairs 50 = .ok (.i2l, 1) := by decide +kernel
theorem dX7_pairs_51 : decode cX7_pairs 51 = .ok (.ldc2_w 121, 3) := by decide +kernel
theorem dX7_pairs_54 : decode cX7_pairs 54 = .ok (.ldc2_w 123, 3) := by decide +kernel
theorem dX7_pairs_57 : decode cX7_pairs 57 = .ok (.invokestatic 63, 3) := by decide +kernel
theorem dX7_pairs_60 : decode cX7_pairs 60 = .ok (.ifCond .ne 5, 3) := by decide +kernel
theorem dX7_pairs_63 : decode cX7_pairs 63 = .ok (.iconst (-1), 1) := by decide +kernel
theorem dX7_pairs_64 : decode cX7_pairs 64 = .ok (.ireturn, 1) := by decide +kernel
theorem dX7_pairs_65 : decode cX7_pairs 65 = .ok (.aload_n 0, 1) := by decide +kernel
theorem dX7_pairs_66 : decode cX7_pairs 66 = .ok (.iload_n 1, 1) := by decide +kernel
theorem dX7_pairs_67 : decode cX7_pairs 67 = .ok (.invokevirtual 105, 3) := by decide +kernel
theorem dX7_pairs_70 : decode cX7_pairs 70 = .ok (.aload_n 0, 1) := by decide +kernel
theorem dX7_pairs_71 : decode cX7_pairs 71 = .ok (.iload_n 2, 1) := by decide +kernel
theorem dX7_pairs_72 : decode cX7_pairs 72 = .ok (.invokevirtual 105, 3) := by decide +kernel
theorem dX7_pairs_75 : decode cX7_pairs 75 = .ok (.aload_n 0, 1) := by decide +kernel
theorem dX7_pairs_76 : decode cX7_pairs 76 = .ok (.iload_n 1, 1) := by decide +kernel
theorem dX7_pairs_77 : decode cX7_pairs 77 = .ok (.iload_n 2, 1) := by decide +kernel
theorem dX7_pairs_78 : decode cX7_pairs 78 = .ok (.iload_n 3, 1) := by decide +kernel
theorem dX7_pairs_79 : decode cX7_pairs 79 = .ok (.iload 4, 2) := by decide +kernel
theorem dX7_pairs_81 : decode cX7_pairs 81 = .ok (.iload 5, 2) := by decide +kernel
theorem dX7_pairs_83 : decode cX7_pairs 83 = .ok (.invokevirtual 125, 3) := by decide +kernel
theorem dX7_pairs_86 : decode cX7_pairs 86 = .ok (.pop, 1) := by decide +kernel
theorem dX7_pairs_87 : decode cX7_pairs 87 = .ok (.aload_n 0, 1) := by decide +kernel
theorem dX7_pairs_88 : decode cX7_pairs 88 = .ok (.iload_n 1, 1) := by decide +kernel
theorem dX7_pairs_89 : decode cX7_pairs 89 = .ok (.iload_n 2, 1) := by decide +kernel
theorem dX7_pairs_90 : decode cX7_pairs 90 = .ok (.invokevirtual 129, 3) := by decide +kernel
theorem dX7_pairs_93 : decode cX7_pairs 93 = .ok (.ireturn, 1) := by decide +kernel
set_option maxRecDepth 20000 in
theorem ggX7_findBest_X7_agree : GoodIn wsX7_findBest wsX7_agree := goodIn_r _ [9, 10, 11, 12, 13, 14, 15, 16, 17, 8, 18, 34, 35, 36, 37, 38, 39, 40, 41, 42, 43, 44, 45, 46, 47, 48, 49, 50, 51, 52, 53, 54] (by decide +kernel) (by decide +kernel)
set_option maxRecDepth 20000 in
theorem gX7_findBest_X7_agree : GoodIn wsX7_findBest (wsV RX7 125 RX7 yX7_agree wsX7_agree) := goodIn_app (goodIn_of _ (by decide +kernel)) ggX7_findBest_X7_agree
set_option maxRecDepth 20000 in
theorem ggX7_findBest_X7_matched : GoodIn wsX7_findBest wsX7_matched := goodIn_r _ [22, 23, 10, 24, 25, 26, 8, 27, 28, 29, 15, 30, 31, 32, 33, 34, 35, 36, 37, 38, 39, 40, 41, 42, 43, 44, 45, 46, 47, 48, 49, 50, 51, 52, 53, 54] (by decide +kernel) (by decide +kernel)
set_option maxRecDepth 20000 in
theorem gX7_findBest_X7_matched : GoodIn wsX7_findBest (wsV RX7 129 RX7 yX7_matched wsX7_matched) := goodIn_app (goodIn_of _ (by decide +kernel)) ggX7_findBest_X7_matched
theorem dX7_findBest_0 : decode cX7_findBest 0 = .ok (.aload_n 0, 1) := by decide +kernel
theorem dX7_findBest_1 : decode cX7_findBest 1 = .ok (.iconst (-1), 1) := by decide +kernel
theorem dX7_findBest_2 : decode cX7_findBest 2 = .ok (.putfield 132, 3) := by decide +kernel
theorem dX7_findBest_5 : decode cX7_findBest 5 = .ok (.iconst 0, 1) := by decide +kernel
theorem dX7_findBest_6 : decode cX7_findBest 6 = .ok (.istore_n 3, 1) := by decide +kernel
theorem dX7_findBest_7 : decode cX7_findBest 7 = .ok (.iload_n 3, 1) := by decide +kernel
theorem dX7_findBest_8 : decode cX7_findBest 8 = .ok (.bipush 16, 2) := by decide +kernel
theorem dX7_findBest_10 : decode cX7_findBest 10 = .ok (.if_icmp .gt 161, 3) := by decide +kernel
theorem dX7_findBest_13 : decode cX7_findBest 13 = .ok (.iconst 0, 1) := by decide +kernel
theorem dX7_findBest_14 : decode cX7_findBest 14 = .ok (.istore 4, 2) := by decide +kernel
theorem dX7_findBest_16 : decode cX7_findBest 16 = .ok (.iload 4, 2) := by decide +kernel
theorem dX7_findBest_18 : decode cX7_findBest 18 = .ok (.iconst 4, 1) := by decide +kernel
theorem dX7_findBest_19 : decode cX7_findBest 19 = .ok (.if_icmp .ge 146, 3) := by decide +kernel
theorem dX7_findBest_22 : decode cX7_findBest 22 = .ok (.bipush (-8), 2) := by decide +kernel
theorem dX7_findBest_24 : decode cX7_findBest 24 = .ok (.istore 5, 2) := by decide +kernel
theorem dX7_findBest_26 : decode cX7_findBest 26 = .ok (.iload 5, 2) := by decide +kernel
theorem dX7_findBest_28 : decode cX7_findBest 28 = .ok (.bipush 8, 2) := by decide +kernel
theorem dX7_findBest_30 : decode cX7_findBest 30 = .ok (.if_icmp .gt 129, 3) := by decide +kernel
theorem dX7_findBest_33 : decode cX7_findBest 33 = .ok (.bipush (-8), 2) := by decide +kernel
theorem dX7_findBest_35 : decode cX7_findBest 35 = .ok (.istore 6, 2) := by decide +kernel
theorem dX7_findBest_37 : decode cX7_findBest 37 = .ok (.iload 6, 2) := by decide +kernel
theorem dX7_findBest_39 : decode cX7_findBest 39 = .ok (.bipush 8, 2) := by decide +kernel
theorem dX7_findBest_41 : decode cX7_findBest 41 = .ok (.if_icmp .gt 112, 3) := by decide +kernel
theorem dX7_findBest_44 : decode cX7_findBest 44 = .ok (.iload 5, 2) := by decide +kernel
theorem dX7_findBest_46 : decode cX7_findBest 46 = .ok (.ifCond .ge 9, 3) := by decide +kernel
theorem dX7_findBest_49 : decode cX7_findBest 49 = .ok (.iload 5, 2) := by decide +kernel
theorem dX7_findBest_51 : decode cX7_findBest 51 = .ok (.ineg, 1) := by decide +kernel
theorem dX7_findBest_52 : decode cX7_findBest 52 = .ok (.goto 5, 3) := by decide +kernel
theorem dX7_findBest_55 : decode cX7_findBest 55 = .ok (.iload 5, 2) := by decide +kernel
theorem dX7_findBest_57 : decode cX7_findBest 57 = .ok (.iload 6, 2) := by decide +kernel
theorem dX7_findBest_59 : decode cX7_findBest 59 = .ok (.ifCond .ge 9, 3) := by decide +kernel
theorem dX7_findBest_62 : decode cX7_findBest 62 = .ok (.iload 6, 2) := by decide +kernel
theorem dX7_findBest_64 : decode cX7_findBest 64 = .ok (.ineg, 1) := by decide +kernel
theorem dX7_findBest_65 : decode cX7_findBest 65 = .ok (.goto 5, 3) := by decide +kernel
theorem dX7_findBest_68 : decode cX7_findBest 68 = .ok (.iload 6, 2) := by decide +kernel
theorem dX7_findBest_70 : decode cX7_findBest 70 = .ok (.iadd, 1) := by decide +kernel
theorem dX7_findBest_71 : decode cX7_findBest 71 = .ok (.iload_n 3, 1) := by decide +kernel
theorem dX7_findBest_72 : decode cX7_findBest 72 = .ok (.if_icmp .ne 7, 3) := by decide +kernel
theorem dX7_findBest_75 : decode cX7_findBest 75 = .ok (.iconst 1, 1) := by decide +kernel
theorem dX7_findBest_76 : decode cX7_findBest 76 = .ok (.goto 4, 3) := by decide +kernel
theorem dX7_findBest_79 : decode cX7_findBest 79 = .ok (.iconst 0, 1) := by decide +kernel
theorem dX7_findBest_80 : decode cX7_findBest 80 = .ok (.istore 7, 2) := by decide +kernel
theorem dX7_findBest_82 : decode cX7_findBest 82 = .ok (.iload 7, 2) := by decide +kernel
theorem dX7_findBest_84 : decode cX7_findBest 84 = .ok (.ifCond .eq 63, 3) := by decide +kernel
theorem dX7_findBest_87 : decode cX7_findBest 87 = .ok (.aload_n 0, 1) := by decide +kernel
theorem dX7_findBest_88 : decode cX7_findBest 88 = .ok (.iload_n 1, 1) := by decide +kernel
theorem dX7_findBest_89 : decode cX7_findBest 89 = .ok (.iload_n 2, 1) := by decide +kernel
theorem dX7_findBest_90 : decode cX7_findBest 90 = .ok (.iload 4, 2) := by decide +kernel
theorem dX7_findBest_92 : decode cX7_findBest 92 = .ok (.iload 5, 2) := by decide +kernel
theorem dX7_findBest_94 : decode cX7_findBest 94 = .ok (.iload 6, 2) := by decide +kernel
theorem dX7_findBest_96 : decode cX7_findBest 96 = .ok (.invokevirtual 125, 3) := by decide +kernel
theorem dX7_findBest_99 : decode cX7_findBest 99 = .ok (.aload_n 0, 1) := by decide +kernel
theorem dX7_findBest_100 : decode cX7_findBest 100 = .ok (.getfield 132, 3) := by decide +kernel
theorem dX7_findBest_103 : decode cX7_findBest 103 = .ok (.if_icmp .le 44, 3) := by decide +kernel
theorem dX7_findBest_106 : decode cX7_findBest 106 = .ok (.aload_n 0, 1) := by decide +kernel
theorem dX7_findBest_107 : decode cX7_findBest 107 = .ok (.iload_n 1, 1) := by decide +kernel
theorem dX7_findBest_108 : decode cX7_findBest 108 = .ok (.iload_n 2, 1) := by decide +kernel
theorem dX7_findBest_109 : decode cX7_findBest 109 = .ok (.invokevirtual 129, 3) := by decide +kernel
theorem dX7_findBest_112 : decode cX7_findBest 112 = .ok (.istore 8, 2) := by decide +kernel
theorem dX7_findBest_114 : decode cX7_findBest 114 = .ok (.iload 8, 2) := by decide +kernel
theorem dX7_findBest_116 : decode cX7_findBest 116 = .ok (.aload_n 0, 1) := by decide +kernel
theorem dX7_findBest_117 : decode cX7_findBest 117 = .ok (.getfield 132, 3) := by decide +kernel
theorem dX7_findBest_120 : decode cX7_findBest 120 = .ok (.if_icmp .le 27, 3) := by decide +kernel
theorem dX7_findBest_123 : decode cX7_findBest 123 = .ok (.aload_n 0, 1) := by decide +kernel
theorem dX7_findBest_124 : decode cX7_findBest 124 = .ok (.iload 8, 2) := by decide +kernel
theorem dX7_findBest_126 : decode cX7_findBest 126 = .ok (.putfield 132, 3) := by decide +kernel
theorem dX7_findBest_129 : decode cX7_findBest 129 = .ok (.aload_n 0, 1) := by decide +kernel
theorem dX7_findBest_130 : decode cX7_findBest 130 = .ok (.iload 4, 2) := by decide +kernel
theorem dX7_findBest_132 : decode cX7_findBest 132 = .ok (.putfield 135, 3) := by decide +kernel
theorem dX7_findBest_135 : decode cX7_findBest 135 = .ok (.aload_n 0, 1) := by decide +kernel
theorem dX7_findBest_136 : decode cX7_findBest 136 = .ok (.iload 5, 2) := by decide +kernel
theorem dX7_findBest_138 : decode cX7_findBest 138 = .ok (.putfield 138, 3) := by decide +kernel
theorem dX7_findBest_141 : decode cX7_findBest 141 = .ok (.aload_n 0, 1) := by decide +kernel
theorem dX7_findBest_142 : decode cX7_findBest 142 = .ok (.iload 6, 2) := by decide +kernel
theorem dX7_findBest_144 : decode cX7_findBest 144 = .ok (.putfield 141, 3) := by decide +kernel
theorem dX7_findBest_147 : decode cX7_findBest 147 = .ok (.iinc 6 1, 3) := by decide +kernel
theorem dX7_findBest_150 : decode cX7_findBest 150 = .ok (.goto (-113), 3) := by decide +kernel
theorem dX7_findBest_153 : decode cX7_findBest 153 = .ok (.iinc 5 1, 3) := by decide +kernel
theorem dX7_findBest_156 : decode cX7_findBest 156 = .ok (.goto (-130), 3) := by decide +kernel
theorem dX7_findBest_159 : decode cX7_findBest 159 = .ok (.iinc 4 1, 3) := by decide +kernel
theorem dX7_findBest_162 : decode cX7_findBest 162 = .ok (.goto (-146), 3) := by decide +kernel
theorem dX7_findBest_165 : decode cX7_findBest 165 = .ok (.iinc 3 1, 3) := by decide +kernel
theorem dX7_findBest_168 : decode cX7_findBest 168 = .ok (.goto (-161), 3) := by decide +kernel
theorem dX7_findBest_171 : decode cX7_findBest 171 = .ok (.return_, 1) := by decide +kernel
set_option maxRecDepth 20000 in
theorem ggX7_best_X7_isPrint : GoodIn wsX7_best wsX7_isPrint := goodIn_r _ [11, 12, 13, 14, 10, 15, 79, 80, 81, 82, 83, 84, 85, 86, 87, 88, 89, 90, 91, 92, 93, 94, 95, 96, 97, 98, 99] (by decide +kernel) (by decide +kernel)
set_option maxRecDepth 20000 in
theorem gX7_best_X7_isPrint : GoodIn wsX7_best (wsV RX7 77 RX7 yX7_isPrint wsX7_isPrint) := goodIn_app (goodIn_of _ (by decide +kernel)) ggX7_best_X7_isPrint
set_option maxRecDepth 20000 in
theorem ggX7_best_X7_in : GoodIn wsX7_best wsX7_in := goodIn_r _ [15] (by decide +kernel) (by decide +kernel)
set_option maxRecDepth 20000 in
theorem gX7_best_X7_in : GoodIn wsX7_best (va_wsS RX7 63 yX7_in wsX7_in) := goodIn_app (goodIn_of _ (by decide +kernel)) ggX7_best_X7_in
set_option maxRecDepth 20000 in
theorem ggX7_best_X7_findMarks : GoodIn wsX7_best wsX7_findMarks := goodIn_r _ [19, 20, 21, 22, 23, 24, 25, 26, 27, 28, 10, 29, 30, 31, 32, 33, 34, 35, 36, 37, 38, 39, 40, 41, 42, 43, 44, 45, 46, 47, 48, 49, 13, 14, 15, 50, 51, 52, 53, 79, 80, 81, 82, 83, 84, 85, 86, 87, 88, 89, 90, 91, 92, 93, 94, 95, 96, 97, 98, 99] (by decide +kernel) (by decide +kernel)
set_option maxRecDepth 20000 in
theorem gX7_best_X7_findMarks : GoodIn wsX7_best (wsV RX7 105 RX7 yX7_findMarks wsX7_findMarks) := goodIn_app (goodIn_of _ (by decide +kernel)) ggX7_best_X7_findMarks
set_option maxRecDepth 20000 in
theorem ggX7_best_X7_findBest : GoodIn wsX7_best wsX7_findBest := goodIn_r _ [57, 3, 4, 5, 6, 58, 59, 60, 10, 61, 20, 23, 24, 25, 62, 63, 13, 14, 15, 64, 65, 66, 67, 68, 69, 70, 71, 72, 73, 74, 75, 76, 77, 78, 79, 80, 81, 82, 83, 84, 85, 86, 87, 88, 89, 90, 91, 92, 93, 94, 95, 96, 97, 98, 99] (by decide +kernel) (by decide +kernel)
set_option maxRecDepth 20000 in
theorem gX7_best_X7_findBest : GoodIn wsX7_best (wsV RX7 144 RX7 yX7_findBest wsX7_findBest) := goodIn_app (goodIn_of _ (by decide +kernel)) ggX7_best_X7_findBest
theorem dX7_best_0 : decode cX7_best 0 = .ok (.aload_n 0, 1) := by decide +kernel
theorem dX7_best_1 : decode cX7_best 1 = .ok (.iconst 0, 1) := by decide +kernel
theorem dX7_best_2 : decode cX7_best 2 = .ok (.putfield 54, 3) := by decide +kernel
theorem dX7_best_5 : decode cX7_best 5 = .ok (.aload_n 0, 1) := by decide +kernel
theorem dX7_best_6 : decode cX7_best 6 = .ok (.iload_n 1, 1) := by decide +kernel
theorem dX7_best_7 : decode cX7_best 7 = .ok (.invokevirtual 77, 3) := by decide +kernel
theorem dX7_best_10 : decode cX7_best 10 = .ok (.ifCond .eq 23, 3) := by decide +kernel
theorem dX7_best_13 : decode cX7_best 13 = .ok (.aload_n 0, 1) := by decide +kernel
theorem dX7_best_14 : decode cX7_best 14 = .ok (.iload_n 2, 1) := by decide +kernel
theorem dX7_best_15 : decode cX7_best 15 = .ok (.invokevirtual 77, 3) := by decide +kernel
theorem dX7_best_18 : decode cX7_best 18 = .ok (.ifCond .eq 15, 3) := by decide +kernel
theorem dX7_best_21 : decode cX7_best 21 = .ok (.iload_n 3, 1) := by decide +kernel
theorem dX7_best_22 : decode cX7_best 22 = .ok (.i2l, 1) := by decide +kernel
theorem dX7_best_23 : decode cX7_best 23 = .ok (.lconst 0, 1) := by decide +kernel
theorem dX7_best_24 : decode cX7_best 24 = .ok (.ldc2_w 111, 3) := by decide +kernel
theorem dX7_best_27 : decode cX7_best 27 = .ok (.invokestatic 63, 3) := by decide +kernel
theorem dX7_best_30 : decode cX7_best 30 = .ok (.ifCond .ne 6, 3) := by decide +kernel
theorem dX7_best_33 : decode cX7_best 33 = .ok (.bipush (-100), 2) := by decide +kernel
theorem dX7_best_35 : decode cX7_best 35 = .ok (.ireturn, 1) := by decide +kernel
theorem dX7_best_36 : decode cX7_best 36 = .ok (.aload_n 0, 1) := by decide +kernel
theorem dX7_best_37 : decode cX7_best 37 = .ok (.iload_n 1, 1) := by decide +kernel
theorem dX7_best_38 : decode cX7_best 38 = .ok (.invokevirtual 105, 3) := by decide +kernel
theorem dX7_best_41 : decode cX7_best 41 = .ok (.aload_n 0, 1) := by decide +kernel
theorem dX7_best_42 : decode cX7_best 42 = .ok (.iload_n 2, 1) := by decide +kernel
theorem dX7_best_43 : decode cX7_best 43 = .ok (.invokevirtual 105, 3) := by decide +kernel
theorem dX7_best_46 : decode cX7_best 46 = .ok (.aload_n 0, 1) := by decide +kernel
theorem dX7_best_47 : decode cX7_best 47 = .ok (.iload_n 1, 1) := by decide +kernel
theorem dX7_best_48 : decode cX7_best 48 = .ok (.iload_n 2, 1) := by decide +kernel
theorem dX7_best_49 : decode cX7_best 49 = .ok (.invokevirtual 144, 3) := by decide +kernel
theorem dX7_best_52 : decode cX7_best 52 = .ok (.iload_n 3, 1) := by decide +kernel
theorem dX7_best_53 : decode cX7_best 53 = .ok (.ifCond .ne 10, 3) := by decide +kernel
theorem dX7_best_56 : decode cX7_best 56 = .ok (.aload_n 0, 1) := by decide +kernel
theorem dX7_best_57 : decode cX7_best 57 = .ok (.getfield 132, 3) := by decide +kernel
theorem dX7_best_60 : decode cX7_best 60 = .ok (.goto 31, 3) := by decide +kernel
theorem dX7_best_63 : decode cX7_best 63 = .ok (.iload_n 3, 1) := by decide +kernel
theorem dX7_best_64 : decode cX7_best 64 = .ok (.iconst 1, 1) := by decide +kernel
theorem dX7_best_65 : decode cX7_best 65 = .ok (.if_icmp .ne 10, 3) := by decide +kernel
theorem dX7_best_68 : decode cX7_best 68 = .ok (.aload_n 0, 1) := by decide +kernel
theorem dX7_best_69 : decode cX7_best 69 = .ok (.getfield 135, 3) := by decide +kernel
theorem dX7_best_72 : decode cX7_best 72 = .ok (.goto 19, 3) := by decide +kernel
theorem dX7_best_75 : decode cX7_best 75 = .ok (.iload_n 3, 1) := by decide +kernel
theorem dX7_best_76 : decode cX7_best 76 = .ok (.iconst 2, 1) := by decide +kernel
theorem dX7_best_77 : decode cX7_best 77 = .ok (.if_icmp .ne 10, 3) := by decide +kernel
theorem dX7_best_80 : decode cX7_best 80 = .ok (.aload_n 0, 1) := by decide +kernel
theorem dX7_best_81 : decode cX7_best 81 = .ok (.getfield 138, 3) := by decide +kernel
theorem dX7_best_84 : decode cX7_best 84 = .ok (.goto 7, 3) := by decide +kernel
theorem dX7_best_87 : decode cX7_best 87 = .ok (.aload_n 0, 1) := by decide +kernel
theorem dX7_best_88 : decode cX7_best 88 = .ok (.getfield 141, 3) := by decide +kernel
theorem dX7_best_91 : decode cX7_best 91 = .ok (.ireturn, 1) := by decide +kernel
set_option maxRecDepth 20000 in
theorem ggX7_boundOf_X7_endsOf : GoodIn wsX7_boundOf wsX7_endsOf := goodIn_r _ [6, 1, 7, 8, 9, 10, 11, 12, 13, 14, 15, 16, 17, 18, 19, 20, 21, 22, 23, 24, 25, 26, 27, 28] (by decide +kernel) (by decide +kernel)
set_option maxRecDepth 20000 in
theorem gX7_boundOf_X7_endsOf : GoodIn wsX7_boundOf (wsV RX7 108 RX7 yX7_endsOf wsX7_endsOf) := goodIn_app (goodIn_of _ (by decide +kernel)) ggX7_boundOf_X7_endsOf
theorem dX7_boundOf_0 : decode cX7_boundOf 0 = .ok (.aload_n 0, 1) := by decide +kernel
theorem dX7_boundOf_1 : decode cX7_boundOf 1 = .ok (.iload_n 1, 1) := by decide +kernel
theorem dX7_boundOf_2 : decode cX7_boundOf 2 = .ok (.invokevirtual 108, 3) := by decide +kernel
theorem dX7_boundOf_5 : decode cX7_boundOf 5 = .ok (.aload_n 0, 1) := by decide +kernel
theorem dX7_boundOf_6 : decode cX7_boundOf 6 = .ok (.iload_n 2, 1) := by decide +kernel
theorem dX7_boundOf_7 : decode cX7_boundOf 7 = .ok (.invokevirtual 108, 3) := by decide +kernel
theorem dX7_boundOf_10 : decode cX7_boundOf 10 = .ok (.if_icmp .ge 11, 3) := by decide +kernel
theorem dX7_boundOf_13 : decode cX7_boundOf 13 = .ok (.aload_n 0, 1) := by decide +kernel
theorem dX7_boundOf_14 : decode cX7_boundOf 14 = .ok (.iload_n 1, 1) := by decide +kernel
theorem dX7_boundOf_15 : decode cX7_boundOf 15 = .ok (.invokevirtual 108, 3) := by decide +kernel
theorem dX7_boundOf_18 : decode cX7_boundOf 18 = .ok (.goto 8, 3) := by decide +kernel
theorem dX7_boundOf_21 : decode cX7_boundOf 21 = .ok (.aload_n 0, 1) := by decide +kernel
theorem dX7_boundOf_22 : decode cX7_boundOf 22 = .ok (.iload_n 2, 1) := by decide +kernel
theorem dX7_boundOf_23 : decode cX7_boundOf 23 = .ok (.invokevirtual 108, 3) := by decide +kernel
theorem dX7_boundOf_26 : decode cX7_boundOf 26 = .ok (.istore_n 3, 1) := by decide +kernel
theorem dX7_boundOf_27 : decode cX7_boundOf 27 = .ok (.aload_n 0, 1) := by decide +kernel
theorem dX7_boundOf_28 : decode cX7_boundOf 28 = .ok (.getfield 27, 3) := by decide +kernel
theorem dX7_boundOf_31 : decode cX7_boundOf 31 = .ok (.iload_n 1, 1) := by decide +kernel
theorem dX7_boundOf_32 : decode cX7_boundOf 32 = .ok (.iaload, 1) := by decide +kernel
theorem dX7_boundOf_33 : decode cX7_boundOf 33 = .ok (.aload_n 0, 1) := by decide +kernel
theorem dX7_boundOf_34 : decode cX7_boundOf 34 = .ok (.iload_n 1, 1) := by decide +kernel
theorem dX7_boundOf_35 : decode cX7_boundOf 35 = .ok (.invokevirtual 108, 3) := by decide +kernel
theorem dX7_boundOf_38 : decode cX7_boundOf 38 = .ok (.isub, 1) := by decide +kernel
theorem dX7_boundOf_39 : decode cX7_boundOf 39 = .ok (.istore 4, 2) := by decide +kernel
theorem dX7_boundOf_41 : decode cX7_boundOf 41 = .ok (.aload_n 0, 1) := by decide +kernel
theorem dX7_boundOf_42 : decode cX7_boundOf 42 = .ok (.getfield 27, 3) := by decide +kernel
theorem dX7_boundOf_45 : decode cX7_boundOf 45 = .ok (.iload_n 2, 1) := by decide +kernel
theorem dX7_boundOf_46 : decode cX7_boundOf 46 = .ok (.iaload, 1) := by decide +kernel
theorem dX7_boundOf_47 : decode cX7_boundOf 47 = .ok (.aload_n 0, 1) := by decide +kernel
theorem dX7_boundOf_48 : decode cX7_boundOf 48 = .ok (.iload_n 2, 1) := by decide +kernel
theorem dX7_boundOf_49 : decode cX7_boundOf 49 = .ok (.invokevirtual 108, 3) := by decide +kernel
theorem dX7_boundOf_52 : decode cX7_boundOf 52 = .ok (.isub, 1) := by decide +kernel
theorem dX7_boundOf_53 : decode cX7_boundOf 53 = .ok (.istore 5, 2) := by decide +kernel
theorem dX7_boundOf_55 : decode cX7_boundOf 55 = .ok (.iload_n 3, 1) := by decide +kernel
theorem dX7_boundOf_56 : decode cX7_boundOf 56 = .ok (.iload 4, 2) := by decide +kernel
theorem dX7_boundOf_58 : decode cX7_boundOf 58 = .ok (.iload 5, 2) := by decide +kernel
theorem dX7_boundOf_60 : decode cX7_boundOf 60 = .ok (.if_icmp .ge 8, 3) := by decide +kernel
theorem dX7_boundOf_63 : decode cX7_boundOf 63 = .ok (.iload 4, 2) := by decide +kernel
theorem dX7_boundOf_65 : decode cX7_boundOf 65 = .ok (.goto 5, 3) := by decide +kernel
theorem dX7_boundOf_68 : decode cX7_boundOf 68 = .ok (.iload 5, 2) := by decide +kernel
theorem dX7_boundOf_70 : decode cX7_boundOf 70 = .ok (.iadd, 1) := by decide +kernel
theorem dX7_boundOf_71 : decode cX7_boundOf 71 = .ok (.ireturn, 1) := by decide +kernel
set_option maxRecDepth 20000 in
theorem ggX7_bound_X7_isPrint : GoodIn wsX7_bound wsX7_isPrint := goodIn_r _ [6, 7, 8, 9, 5, 10, 57, 58, 59, 60, 61, 62, 63, 64, 65, 66, 67, 68, 69, 70, 71, 72, 73, 74, 75, 76, 77] (by decide +kernel) (by decide +kernel)
set_option maxRecDepth 20000 in
theorem gX7_bound_X7_isPrint : GoodIn wsX7_bound (wsV RX7 77 RX7 yX7_isPrint wsX7_isPrint) := goodIn_app (goodIn_of _ (by decide +kernel)) ggX7_bound_X7_isPrint
set_option maxRecDepth 20000 in
theorem ggX7_bound_X7_findMarks : GoodIn wsX7_bound wsX7_findMarks := goodIn_r _ [14, 15, 16, 17, 18, 19, 20, 21, 22, 23, 5, 24, 25, 26, 27, 28, 29, 30, 31, 32, 33, 34, 35, 36, 37, 38, 39, 40, 41, 42, 43, 44, 8, 9, 10, 45, 46, 47, 48, 57, 58, 59, 60, 61, 62, 63, 64, 65, 66, 67, 68, 69, 70, 71, 72, 73, 74, 75, 76, 77] (by decide +kernel) (by decide +kernel)
set_option maxRecDepth 20000 in
theorem gX7_bound_X7_findMarks : GoodIn wsX7_bound (wsV RX7 105 RX7 yX7_findMarks wsX7_findMarks) := goodIn_app (goodIn_of _ (by decide +kernel)) ggX7_bound_X7_findMarks
set_option maxRecDepth 20000 in
theorem ggX7_bound_X7_boundOf : GoodIn wsX7_bound wsX7_boundOf := goodIn_r _ [52, 15, 53, 54, 55, 5, 56, 20, 57, 58, 59, 60, 61, 62, 63, 64, 65, 66, 67, 68, 69, 70, 71, 72, 73, 74, 75, 76, 77] (by decide +kernel) (by decide +kernel)
set_option maxRecDepth 20000 in
theorem gX7_bound_X7_boundOf : GoodIn wsX7_bound (wsV RX7 147 RX7 yX7_boundOf wsX7_boundOf) := goodIn_app (goodIn_of _ (by decide +kernel)) ggX7_bound_X7_boundOf
theorem dX7_bound_0 : decode cX7_bound 0 = .ok (.aload_n 0, 1) := by decide +kernel
theorem dX7_bound_1 : decode cX7_bound 1 = .ok (.iconst 0, 1) := by decide +kernel
theorem dX7_bound_2 : decode cX7_bound 2 = .ok (.putfield 54, 3) := by decide +kernel
theorem dX7_bound_5 : decode cX7_bound 5 = .ok (.aload_n 0, 1) := by decide +kernel
theorem dX7_bound_6 : decode cX7_bound 6 = .ok (.iload_n 1, 1) := by decide +kernel
theorem dX7_bound_7 : decode cX7_bound 7 = .ok (.invokevirtual 77, 3) := by decide +kernel
theorem dX7_bound_10 : decode cX7_bound 10 = .ok (.ifCond .eq 11, 3) := by decide +kernel
theorem dX7_bound_13 : decode cX7_bound 13 = .ok (.aload_n 0, 1) := by decide +kernel
theorem dX7_bound_14 : decode cX7_bound 14 = .ok (.iload_n 2, 1) := by decide +kernel
theorem dX7_bound_15 : decode cX7_bound 15 = .ok (.invokevirtual 77, 3) := by decide +kernel
theorem dX7_bound_18 : decode cX7_bound 18 = .ok (.ifCond .ne 5, 3) := by decide +kernel
theorem dX7_bound_21 : decode cX7_bound 21 = .ok (.iconst (-1), 1) := by decide +kernel
theorem dX7_bound_22 : decode cX7_bound 22 = .ok (.ireturn, 1) := by decide +kernel
theorem dX7_bound_23 : decode cX7_bound 23 = .ok (.aload_n 0, 1) := by decide +kernel
theorem dX7_bound_24 : decode cX7_bound 24 = .ok (.iload_n 1, 1) := by decide +kernel
theorem dX7_bound_25 : decode cX7_bound 25 = .ok (.invokevirtual 105, 3) := by decide +kernel
theorem dX7_bound_28 : decode cX7_bound 28 = .ok (.aload_n 0, 1) := by decide +kernel
theorem dX7_bound_29 : decode cX7_bound 29 = .ok (.iload_n 2, 1) := by decide +kernel
theorem dX7_bound_30 : decode cX7_bound 30 = .ok (.invokevirtual 105, 3) := by decide +kernel
theorem dX7_bound_33 : decode cX7_bound 33 = .ok (.aload_n 0, 1) := by decide +kernel
theorem dX7_bound_34 : decode cX7_bound 34 = .ok (.iload_n 1, 1) := by decide +kernel
theorem dX7_bound_35 : decode cX7_bound 35 = .ok (.iload_n 2, 1) := by decide +kernel
theorem dX7_bound_36 : decode cX7_bound 36 = .ok (.invokevirtual 147, 3) := by decide +kernel
theorem dX7_bound_39 : decode cX7_bound 39 = .ok (.ireturn, 1) := by decide +kernel
set_option maxRecDepth 20000 in
theorem ggX7_seek_X7_isPrint : GoodIn wsX7_seek wsX7_isPrint := goodIn_r _ [11, 3, 12, 13, 10, 14, 88, 89, 90, 91, 92, 93, 94, 95, 96, 97, 98, 99, 100, 101, 102, 103, 104, 105, 106, 107, 108] (by decide +kernel) (by decide +kernel)
set_option maxRecDepth 20000 in
theorem gX7_seek_X7_isPrint : GoodIn wsX7_seek (wsV RX7 77 RX7 yX7_isPrint wsX7_isPrint) := goodIn_app (goodIn_of _ (by decide +kernel)) ggX7_seek_X7_isPrint
set_option maxRecDepth 20000 in
theorem ggX7_seek_X7_in : GoodIn wsX7_seek wsX7_in := goodIn_r _ [14] (by decide +kernel) (by decide +kernel)
set_option maxRecDepth 20000 in
theorem gX7_seek_X7_in : GoodIn wsX7_seek (va_wsS RX7 63 yX7_in wsX7_in) := goodIn_app (goodIn_of _ (by decide +kernel)) ggX7_seek_X7_in
set_option maxRecDepth 20000 in
theorem ggX7_seek_X7_findMarks : GoodIn wsX7_seek wsX7_findMarks := goodIn_r _ [18, 5, 19, 20, 21, 22, 23, 24, 25, 26, 10, 27, 28, 29, 30, 31, 32, 33, 34, 35, 36, 37, 38, 39, 40, 41, 42, 43, 44, 45, 46, 47, 12, 13, 14, 48, 49, 50, 51, 88, 89, 90, 91, 92, 93, 94, 95, 96, 97, 98, 99, 100, 101, 102, 103, 104, 105, 106, 107, 108] (by decide +kernel) (by decide +kernel)
set_option maxRecDepth 20000 in
theorem gX7_seek_X7_findMarks : GoodIn wsX7_seek (wsV RX7 105 RX7 yX7_findMarks wsX7_findMarks) := goodIn_app (goodIn_of _ (by decide +kernel)) ggX7_seek_X7_findMarks
set_option maxRecDepth 20000 in
theorem ggX7_seek_X7_boundOf : GoodIn wsX7_seek wsX7_boundOf := goodIn_r _ [55, 5, 56, 57, 58, 10, 59, 23, 88, 89, 90, 91, 92, 93, 94, 95, 96, 97, 98, 99, 100, 101, 102, 103, 104, 105, 106, 107, 108] (by decide +kernel) (by decide +kernel)
set_option maxRecDepth 20000 in
theorem gX7_seek_X7_boundOf : GoodIn wsX7_seek (wsV RX7 147 RX7 yX7_boundOf wsX7_boundOf) := goodIn_app (goodIn_of _ (by decide +kernel)) ggX7_seek_X7_boundOf
set_option maxRecDepth 20000 in
theorem ggX7_seek_X7_findBest : GoodIn wsX7_seek wsX7_findBest := goodIn_r _ [63, 6, 64, 65, 66, 67, 68, 69, 10, 70, 5, 21, 22, 23, 71, 72, 12, 13, 14, 73, 74, 75, 76, 77, 78, 79, 80, 81, 82, 83, 84, 85, 86, 87, 88, 89, 90, 91, 92, 93, 94, 95, 96, 97, 98, 99, 100, 101, 102, 103, 104, 105, 106, 107, 108] (by decide +kernel) (by decide +kernel)
set_option maxRecDepth 20000 in
theorem gX7_seek_X7_findBest : GoodIn wsX7_seek (wsV RX7 144 RX7 yX7_findBest wsX7_findBest) := goodIn_app (goodIn_of _ (by decide +kernel)) ggX7_seek_X7_findBest
theorem dX7_seek_0 : decode cX7_seek 0 = .ok (.aload_n 0, 1) := by decide +kernel
theorem dX7_seek_1 : decode cX7_seek 1 = .ok (.iconst 0, 1) := by decide +kernel
theorem dX7_seek_2 : decode cX7_seek 2 = .ok (.putfield 54, 3) := by decide +kernel
theorem dX7_seek_5 : decode cX7_seek 5 = .ok (.aload_n 0, 1) := by decide +kernel
theorem dX7_seek_6 : decode cX7_seek 6 = .ok (.iload_n 1, 1) := by decide +kernel
theorem dX7_seek_7 : decode cX7_seek 7 = .ok (.invokevirtual 77, 3) := by decide +kernel
theorem dX7_seek_10 : decode cX7_seek 10 = .ok (.ifCond .eq 15, 3) := by decide +kernel
theorem dX7_seek_13 : decode cX7_seek 13 = .ok (.iload_n 2, 1) := by decide +kernel
theorem dX7_seek_14 : decode cX7_seek 14 = .ok (.i2l, 1) := by decide +kernel
theorem dX7_seek_15 : decode cX7_seek 15 = .ok (.lconst 0, 1) := by decide +kernel
theorem dX7_seek_16 : decode cX7_seek 16 = .ok (.ldc2_w 103, 3) := by decide +kernel
theorem dX7_seek_19 : decode cX7_seek 19 = .ok (.invokestatic 63, 3) := by decide +kernel
theorem dX7_seek_22 : decode cX7_seek 22 = .ok (.ifCond .ne 5, 3) := by decide +kernel
theorem dX7_seek_25 : decode cX7_seek 25 = .ok (.iconst (-1), 1) := by decide +kernel
theorem dX7_seek_26 : decode cX7_seek 26 = .ok (.ireturn, 1) := by decide +kernel
theorem dX7_seek_27 : decode cX7_seek 27 = .ok (.iconst 0, 1) := by decide +kernel
theorem dX7_seek_28 : decode cX7_seek 28 = .ok (.istore_n 3, 1) := by decide +kernel
theorem dX7_seek_29 : decode cX7_seek 29 = .ok (.iload_n 3, 1) := by decide +kernel
theorem dX7_seek_30 : decode cX7_seek 30 = .ok (.aload_n 0, 1) := by decide +kernel
theorem dX7_seek_31 : decode cX7_seek 31 = .ok (.getfield 60, 3) := by decide +kernel
theorem dX7_seek_34 : decode cX7_seek 34 = .ok (.if_icmp .ge 39, 3) := by decide +kernel
theorem dX7_seek_37 : decode cX7_seek 37 = .ok (.aload_n 0, 1) := by decide +kernel
theorem dX7_seek_38 : decode cX7_seek 38 = .ok (.iload_n 3, 1) := by decide +kernel
theorem dX7_seek_39 : decode cX7_seek 39 = .ok (.invokevirtual 105, 3) := by decide +kernel
theorem dX7_seek_42 : decode cX7_seek 42 = .ok (.aload_n 0, 1) := by decide +kernel
theorem dX7_seek_43 : decode cX7_seek 43 = .ok (.getfield 51, 3) := by decide +kernel
theorem dX7_seek_46 : decode cX7_seek 46 = .ok (.iload_n 3, 1) := by decide +kernel
theorem dX7_seek_47 : decode cX7_seek 47 = .ok (.iload_n 3, 1) := by decide +kernel
theorem dX7_seek_48 : decode cX7_seek 48 = .ok (.iload_n 1, 1) := by decide +kernel
theorem dX7_seek_49 : decode cX7_seek 49 = .ok (.if_icmp .eq 12, 3) := by decide +kernel
theorem dX7_seek_52 : decode cX7_seek 52 = .ok (.aload_n 0, 1) := by decide +kernel
theorem dX7_seek_53 : decode cX7_seek 53 = .ok (.getfield 27, 3) := by decide +kernel
theorem dX7_seek_56 : decode cX7_seek 56 = .ok (.iload_n 3, 1) := by decide +kernel
theorem dX7_seek_57 : decode cX7_seek 57 = .ok (.iaload, 1) := by decide +kernel
theorem dX7_seek_58 : decode cX7_seek 58 = .ok (.ifCond .ne 7, 3) := by decide +kernel
theorem dX7_seek_61 : decode cX7_seek 61 = .ok (.iconst 1, 1) := by decide +kernel
theorem dX7_seek_62 : decode cX7_seek 62 = .ok (.goto 4, 3) := by decide +kernel
theorem dX7_seek_65 : decode cX7_seek 65 = .ok (.iconst 0, 1) := by decide +kernel
theorem dX7_seek_66 : decode cX7_seek 66 = .ok (.bastore, 1) := by decide +kernel
theorem dX7_seek_67 : decode cX7_seek 67 = .ok (.iinc 3 1, 3) := by decide +kernel
theorem dX7_seek_70 : decode cX7_seek 70 = .ok (.goto (-41), 3) := by decide +kernel
theorem dX7_seek_73 : decode cX7_seek 73 = .ok (.iconst (-1), 1) := by decide +kernel
theorem dX7_seek_74 : decode cX7_seek 74 = .ok (.istore_n 3, 1) := by decide +kernel
theorem dX7_seek_75 : decode cX7_seek 75 = .ok (.iconst (-1), 1) := by decide +kernel
theorem dX7_seek_76 : decode cX7_seek 76 = .ok (.istore 4, 2) := by decide +kernel
theorem dX7_seek_78 : decode cX7_seek 78 = .ok (.iconst 0, 1) := by decide +kernel
theorem dX7_seek_79 : decode cX7_seek 79 = .ok (.istore 5, 2) := by decide +kernel
theorem dX7_seek_81 : decode cX7_seek 81 = .ok (.iconst 1, 1) := by decide +kernel
theorem dX7_seek_82 : decode cX7_seek 82 = .ok (.istore 6, 2) := by decide +kernel
theorem dX7_seek_84 : decode cX7_seek 84 = .ok (.iload 6, 2) := by decide +kernel
theorem dX7_seek_86 : decode cX7_seek 86 = .ok (.ifCond .eq 170, 3) := by decide +kernel
theorem dX7_seek_89 : decode cX7_seek 89 = .ok (.iconst (-1), 1) := by decide +kernel
theorem dX7_seek_90 : decode cX7_seek 90 = .ok (.istore 7, 2) := by decide +kernel
theorem dX7_seek_92 : decode cX7_seek 92 = .ok (.iconst 0, 1) := by decide +kernel
theorem dX7_seek_93 : decode cX7_seek 93 = .ok (.istore 8, 2) := by decide +kernel
theorem dX7_seek_95 : decode cX7_seek 95 = .ok (.iload 8, 2) := by decide +kernel
theorem dX7_seek_97 : decode cX7_seek 97 = .ok (.aload_n 0, 1) := by decide +kernel
theorem dX7_seek_98 : decode cX7_seek 98 = .ok (.getfield 60, 3) := by decide +kernel
theorem dX7_seek_101 : decode cX7_seek 101 = .ok (.if_icmp .ge 50, 3) := by decide +kernel
theorem dX7_seek_104 : decode cX7_seek 104 = .ok (.aload_n 0, 1) := by decide +kernel
theorem dX7_seek_105 : decode cX7_seek 105 = .ok (.getfield 51, 3) := by decide +kernel
theorem dX7_seek_108 : decode cX7_seek 108 = .ok (.iload 8, 2) := by decide +kernel
theorem dX7_seek_110 : decode cX7_seek 110 = .ok (.baload, 1) := by decide +kernel
theorem dX7_seek_111 : decode cX7_seek 111 = .ok (.ifCond .ne 30, 3) := by decide +kernel
theorem dX7_seek_114 : decode cX7_seek 114 = .ok (.iload 7, 2) := by decide +kernel
theorem dX7_seek_116 : decode cX7_seek 116 = .ok (.ifCond .lt 20, 3) := by decide +kernel
theorem dX7_seek_119 : decode cX7_seek 119 = .ok (.aload_n 0, 1) := by decide +kernel
theorem dX7_seek_120 : decode cX7_seek 120 = .ok (.iload_n 1, 1) := by decide +kernel
theorem dX7_seek_121 : decode cX7_seek 121 = .ok (.iload 8, 2) := by decide +kernel
theorem dX7_seek_123 : decode cX7_seek 123 = .ok (.invokevirtual 147, 3) := by decide +kernel
theorem dX7_seek_126 : decode cX7_seek 126 = .ok (.aload_n 0, 1) := by decide +kernel
theorem dX7_seek_127 : decode cX7_seek 127 = .ok (.iload_n 1, 1) := by decide +kernel
theorem dX7_seek_128 : decode cX7_seek 128 = .ok (.iload 7, 2) := by decide +kernel
theorem dX7_seek_130 : decode cX7_seek 130 = .ok (.invokevirtual 147, 3) := by decide +kernel
theorem dX7_seek_133 : decode cX7_seek 133 = .ok (.if_icmp .le 8, 3) := by decide +kernel
theorem dX7_seek_136 : decode cX7_seek 136 = .ok (.iload 8, 2) := by decide +kernel
theorem dX7_seek_138 : decode cX7_seek 138 = .ok (.goto 5, 3) := by decide +kernel
theorem dX7_seek_141 : decode cX7_seek 141 = .ok (.iload 7, 2) := by decide +kernel
theorem dX7_seek_143 : decode cX7_seek 143 = .ok (.istore 7, 2) := by decide +kernel
theorem dX7_seek_145 : decode cX7_seek 145 = .ok (.iinc 8 1, 3) := by decide +kernel
theorem dX7_seek_148 : decode cX7_seek 148 = .ok (.goto (-53), 3) := by decide +kernel
theorem dX7_seek_151 : decode cX7_seek 151 = .ok (.iload 7, 2) := by decide +kernel
theorem dX7_seek_153 : decode cX7_seek 153 = .ok (.ifCond .ge 8, 3) := by decide +kernel
theorem dX7_seek_156 : decode cX7_seek 156 = .ok (.bipush (-2), 2) := by decide +kernel
theorem dX7_seek_158 : decode cX7_seek 158 = .ok (.goto 10, 3) := by decide +kernel
theorem dX7_seek_161 : decode cX7_seek 161 = .ok (.aload_n 0, 1) := by decide +kernel
theorem dX7_seek_162 : decode cX7_seek 162 = .ok (.iload_n 1, 1) := by decide +kernel
theorem dX7_seek_163 : decode cX7_seek 163 = .ok (.iload 7, 2) := by decide +kernel
theorem dX7_seek_165 : decode cX7_seek 165 = .ok (.invokevirtual 147, 3) := by decide +kernel
theorem dX7_seek_168 : decode cX7_seek 168 = .ok (.istore 8, 2) := by decide +kernel
theorem dX7_seek_170 : decode cX7_seek 170 = .ok (.iload 8, 2) := by decide +kernel
theorem dX7_seek_172 : decode cX7_seek 172 = .ok (.iload 4, 2) := by decide +kernel
theorem dX7_seek_174 : decode cX7_seek 174 = .ok (.if_icmp .gt 16, 3) := by decide +kernel
theorem dX7_seek_177 : decode cX7_seek 177 = .ok (.iload 8, 2) := by decide +kernel
theorem dX7_seek_179 : decode cX7_seek 179 = .ok (.iload 4, 2) := by decide +kernel
theorem dX7_seek_181 : decode cX7_seek 181 = .ok (.if_icmp .ne 13, 3) := by decide +kernel
theorem dX7_seek_184 : decode cX7_seek 184 = .ok (.iload 7, 2) := by decide +kernel
theorem dX7_seek_186 : decode cX7_seek 186 = .ok (.iload_n 3, 1) := by decide +kernel
theorem dX7_seek_187 : decode cX7_seek 187 = .ok (.if_icmp .ge 7, 3) := by decide +kernel
theorem dX7_seek_190 : decode cX7_seek 190 = .ok (.iconst 1, 1) := by decide +kernel
theorem dX7_seek_191 : decode cX7_seek 191 = .ok (.goto 4, 3) := by decide +kernel
theorem dX7_seek_194 : decode cX7_seek 194 = .ok (.iconst 0, 1) := by decide +kernel
theorem dX7_seek_195 : decode cX7_seek 195 = .ok (.istore 6, 2) := by decide +kernel
theorem dX7_seek_197 : decode cX7_seek 197 = .ok (.iload 6, 2) := by decide +kernel
theorem dX7_seek_199 : decode cX7_seek 199 = .ok (.ifCond .eq 54, 3) := by decide +kernel
theorem dX7_seek_202 : decode cX7_seek 202 = .ok (.aload_n 0, 1) := by decide +kernel
theorem dX7_seek_203 : decode cX7_seek 203 = .ok (.getfield 51, 3) := by decide +kernel
theorem dX7_seek_206 : decode cX7_seek 206 = .ok (.iload 7, 2) := by decide +kernel
theorem dX7_seek_208 : decode cX7_seek 208 = .ok (.iconst 1, 1) := by decide +kernel
theorem dX7_seek_209 : decode cX7_seek 209 = .ok (.bastore, 1) := by decide +kernel
theorem dX7_seek_210 : decode cX7_seek 210 = .ok (.iinc 5 1, 3) := by decide +kernel
theorem dX7_seek_213 : decode cX7_seek 213 = .ok (.aload_n 0, 1) := by decide +kernel
theorem dX7_seek_214 : decode cX7_seek 214 = .ok (.iload_n 1, 1) := by decide +kernel
theorem dX7_seek_215 : decode cX7_seek 215 = .ok (.iload 7, 2) := by decide +kernel
theorem dX7_seek_217 : decode cX7_seek 217 = .ok (.invokevirtual 144, 3) := by decide +kernel
theorem dX7_seek_220 : decode cX7_seek 220 = .ok (.aload_n 0, 1) := by decide +kernel
theorem dX7_seek_221 : decode cX7_seek 221 = .ok (.getfield 132, 3) := by decide +kernel
theorem dX7_seek_224 : decode cX7_seek 224 = .ok (.iload 4, 2) := by decide +kernel
theorem dX7_seek_226 : decode cX7_seek 226 = .ok (.if_icmp .gt 18, 3) := by decide +kernel
theorem dX7_seek_229 : decode cX7_seek 229 = .ok (.aload_n 0, 1) := by decide +kernel
theorem dX7_seek_230 : decode cX7_seek 230 = .ok (.getfield 132, 3) := by decide +kernel
theorem dX7_seek_233 : decode cX7_seek 233 = .ok (.iload 4, 2) := by decide +kernel
theorem dX7_seek_235 : decode cX7_seek 235 = .ok (.if_icmp .ne 18, 3) := by decide +kernel
theorem dX7_seek_238 : decode cX7_seek 238 = .ok (.iload 7, 2) := by decide +kernel
theorem dX7_seek_240 : decode cX7_seek 240 = .ok (.iload_n 3, 1) := by decide +kernel
theorem dX7_seek_241 : decode cX7_seek 241 = .ok (.if_icmp .ge 12, 3) := by decide +kernel
theorem dX7_seek_244 : decode cX7_seek 244 = .ok (.aload_n 0, 1) := by decide +kernel
theorem dX7_seek_245 : decode cX7_seek 245 = .ok (.getfield 132, 3) := by decide +kernel
theorem dX7_seek_248 : decode cX7_seek 248 = .ok (.istore 4, 2) := by decide +kernel
theorem dX7_seek_250 : decode cX7_seek 250 = .ok (.iload 7, 2) := by decide +kernel
theorem dX7_seek_252 : decode cX7_seek 252 = .ok (.istore_n 3, 1) := by decide +kernel
theorem dX7_seek_253 : decode cX7_seek 253 = .ok (.goto (-169), 3) := by decide +kernel
theorem dX7_seek_256 : decode cX7_seek 256 = .ok (.iload_n 2, 1) := by decide +kernel
theorem dX7_seek_257 : decode cX7_seek 257 = .ok (.ifCond .ne 7, 3) := by decide +kernel
theorem dX7_seek_260 : decode cX7_seek 260 = .ok (.iload_n 3, 1) := by decide +kernel
theorem dX7_seek_261 : decode cX7_seek 261 = .ok (.goto 15, 3) := by decide +kernel
theorem dX7_seek_264 : decode cX7_seek 264 = .ok (.iload_n 2, 1) := by decide +kernel
theorem dX7_seek_265 : decode cX7_seek 265 = .ok (.iconst 1, 1) := by decide +kernel
theorem dX7_seek_266 : decode cX7_seek 266 = .ok (.if_icmp .ne 8, 3) := by decide +kernel
theorem dX7_seek_269 : decode cX7_seek 269 = .ok (.iload 4, 2) := by decide +kernel
theorem dX7_seek_271 : decode cX7_seek 271 = .ok (.goto 5, 3) := by decide +kernel
theorem dX7_seek_274 : decode cX7_seek 274 = .ok (.iload 5, 2) := by decide +kernel
theorem dX7_seek_276 : decode cX7_seek 276 = .ok (.ireturn, 1) := by decide +kernel
set_option maxRecDepth 20000 in
theorem ggX7_chance_X7_in : GoodIn wsX7_chance wsX7_in := goodIn_r _ [8] (by decide +kernel) (by decide +kernel)
set_option maxRecDepth 20000 in
theorem gX7_chance_X7_in : GoodIn wsX7_chance (va_wsS RX7 63 yX7_in wsX7_in) := goodIn_app (goodIn_of _ (by decide +kernel)) ggX7_chance_X7_in
theorem dX7_chance_0 : decode cX7_chance 0 = .ok (.aload_n 0, 1) := by decide +kernel
theorem dX7_chance_1 : decode cX7_chance 1 = .ok (.iconst 0, 1) := by decide +kernel
theorem dX7_chance_2 : decode cX7_chance 2 = .ok (.putfield 54, 3) := by decide +kernel
theorem dX7_chance_5 : decode cX7_chance 5 = .ok (.iload_n 1, 1) := by decide +kernel
theorem dX7_chance_6 : decode cX7_chance 6 = .ok (.i2l, 1) := by decide +kernel
theorem dX7_chance_7 : decode cX7_chance 7 = .ok (.lconst 0, 1) := by decide +kernel
theorem dX7_chance_8 : decode cX7_chance 8 = .ok (.ldc2_w 150, 3) := by decide +kernel
theorem dX7_chance_11 : decode cX7_chance 11 = .ok (.invokestatic 63, 3) := by decide +kernel
theorem dX7_chance_14 : decode cX7_chance 14 = .ok (.ifCond .eq 27, 3) := by decide +kernel
theorem dX7_chance_17 : decode cX7_chance 17 = .ok (.iload_n 2, 1) := by decide +kernel
theorem dX7_chance_18 : decode cX7_chance 18 = .ok (.i2l, 1) := by decide +kernel
theorem dX7_chance_19 : decode cX7_chance 19 = .ok (.lconst 0, 1) := by decide +kernel
theorem dX7_chance_20 : decode cX7_chance 20 = .ok (.ldc2_w 150, 3) := by decide +kernel
theorem dX7_chance_23 : decode cX7_chance 23 = .ok (.invokestatic 63, 3) := by decide +kernel
theorem dX7_chance_26 : decode cX7_chance 26 = .ok (.ifCond .eq 15, 3) := by decide +kernel
theorem dX7_chance_29 : decode cX7_chance 29 = .ok (.iload_n 3, 1) := by decide +kernel
theorem dX7_chance_30 : decode cX7_chance 30 = .ok (.i2l, 1) := by decide +kernel
theorem dX7_chance_31 : decode cX7_chance 31 = .ok (.lconst 0, 1) := by decide +kernel
theorem dX7_chance_32 : decode cX7_chance 32 = .ok (.ldc2_w 152, 3) := by decide +kernel
theorem dX7_chance_35 : decode cX7_chance 35 = .ok (.invokestatic 63, 3) := by decide +kernel
theorem dX7_chance_38 : decode cX7_chance 38 = .ok (.ifCond .ne 7, 3) := by decide +kernel
theorem dX7_chance_41 : decode cX7_chance 41 = .ok (.ldc2_w 154, 3) := by decide +kernel
theorem dX7_chance_44 : decode cX7_chance 44 = .ok (.lreturn, 1) := by decide +kernel
theorem dX7_chance_45 : decode cX7_chance 45 = .ok (.lconst 0, 1) := by decide +kernel
theorem dX7_chance_46 : decode cX7_chance 46 = .ok (.lstore 4, 2) := by decide +kernel
theorem dX7_chance_48 : decode cX7_chance 48 = .ok (.lconst 1, 1) := by decide +kernel
theorem dX7_chance_49 : decode cX7_chance 49 = .ok (.lstore 6, 2) := by decide +kernel
theorem dX7_chance_51 : decode cX7_chance 51 = .ok (.iconst 0, 1) := by decide +kernel
theorem dX7_chance_52 : decode cX7_chance 52 = .ok (.istore 8, 2) := by decide +kernel
theorem dX7_chance_54 : decode cX7_chance 54 = .ok (.iload 8, 2) := by decide +kernel
theorem dX7_chance_56 : decode cX7_chance 56 = .ok (.iload_n 1, 1) := by decide +kernel
theorem dX7_chance_57 : decode cX7_chance 57 = .ok (.if_icmp .gt 83, 3) := by decide +kernel
theorem dX7_chance_60 : decode cX7_chance 60 = .ok (.lload 6, 2) := by decide +kernel
theorem dX7_chance_62 : decode cX7_chance 62 = .ok (.lstore 9, 2) := by decide +kernel
theorem dX7_chance_64 : decode cX7_chance 64 = .ok (.iconst 0, 1) := by decide +kernel
theorem dX7_chance_65 : decode cX7_chance 65 = .ok (.istore 11, 2) := by decide +kernel
theorem dX7_chance_67 : decode cX7_chance 67 = .ok (.iload 11, 2) := by decide +kernel
theorem dX7_chance_69 : decode cX7_chance 69 = .ok (.iload_n 1, 1) := by decide +kernel
theorem dX7_chance_70 : decode cX7_chance 70 = .ok (.if_icmp .ge 31, 3) := by decide +kernel
theorem dX7_chance_73 : decode cX7_chance 73 = .ok (.lload 9, 2) := by decide +kernel
theorem dX7_chance_75 : decode cX7_chance 75 = .ok (.iload 11, 2) := by decide +kernel
theorem dX7_chance_77 : decode cX7_chance 77 = .ok (.iload 8, 2) := by decide +kernel
theorem dX7_chance_79 : decode cX7_chance 79 = .ok (.if_icmp .ge 8, 3) := by decide +kernel
theorem dX7_chance_82 : decode cX7_chance 82 = .ok (.iload_n 3, 1) := by decide +kernel
theorem dX7_chance_83 : decode cX7_chance 83 = .ok (.i2l, 1) := by decide +kernel
theorem dX7_chance_84 : decode cX7_chance 84 = .ok (.goto 8, 3) := by decide +kernel
theorem dX7_chance_87 : decode cX7_chance 87 = .ok (.bipush 16, 2) := by decide +kernel
theorem dX7_chance_89 : decode cX7_chance 89 = .ok (.iload_n 3, 1) := by decide +kernel
theorem dX7_chance_90 : decode cX7_chance 90 = .ok (.isub, 1) := by decide +kernel
theorem dX7_chance_91 : decode cX7_chance 91 = .ok (.i2l, 1) := by decide +kernel
theorem dX7_chance_92 : decode cX7_chance 92 = .ok (.lmul, 1) := by decide +kernel
theorem dX7_chance_93 : decode cX7_chance 93 = .ok (.lstore 9, 2) := by decide +kernel
theorem dX7_chance_95 : decode cX7_chance 95 = .ok (.iinc 11 1, 3) := by decide +kernel
theorem dX7_chance_98 : decode cX7_chance 98 = .ok (.goto (-31), 3) := by decide +kernel
theorem dX7_chance_101 : decode cX7_chance 101 = .ok (.lload 4, 2) := by decide +kernel
theorem dX7_chance_103 : decode cX7_chance 103 = .ok (.iload 8, 2) := by decide +kernel
theorem dX7_chance_105 : decode cX7_chance 105 = .ok (.iload_n 2, 1) := by decide +kernel
theorem dX7_chance_106 : decode cX7_chance 106 = .ok (.if_icmp .lt 8, 3) := by decide +kernel
theorem dX7_chance_109 : decode cX7_chance 109 = .ok (.lload 9, 2) := by decide +kernel
theorem dX7_chance_111 : decode cX7_chance 111 = .ok (.goto 4, 3) := by decide +kernel
theorem dX7_chance_114 : decode cX7_chance 114 = .ok (.lconst 0, 1) := by decide +kernel
theorem dX7_chance_115 : decode cX7_chance 115 = .ok (.ladd, 1) := by decide +kernel
theorem dX7_chance_116 : decode cX7_chance 116 = .ok (.lstore 4, 2) := by decide +kernel
theorem dX7_chance_118 : decode cX7_chance 118 = .ok (.lload 6, 2) := by decide +kernel
theorem dX7_chance_120 : decode cX7_chance 120 = .ok (.iload_n 1, 1) := by decide +kernel
theorem dX7_chance_121 : decode cX7_chance 121 = .ok (.iload 8, 2) := by decide +kernel
theorem dX7_chance_123 : decode cX7_chance 123 = .ok (.isub, 1) := by decide +kernel
theorem dX7_chance_124 : decode cX7_chance 124 = .ok (.i2l, 1) := by decide +kernel
theorem dX7_chance_125 : decode cX7_chance 125 = .ok (.lmul, 1) := by decide +kernel
theorem dX7_chance_126 : decode cX7_chance 126 = .ok (.iload 8, 2) := by decide +kernel
theorem dX7_chance_128 : decode cX7_chance 128 = .ok (.iconst 1, 1) := by decide +kernel
theorem dX7_chance_129 : decode cX7_chance 129 = .ok (.iadd, 1) := by decide +kernel
theorem dX7_chance_130 : decode cX7_chance 130 = .ok (.i2l, 1) := by decide +kernel
theorem dX7_chance_131 : decode cX7_chance 131 = .ok (.ldiv, 1) := by decide +kernel
theorem dX7_chance_132 : decode cX7_chance 132 = .ok (.lstore 6, 2) := by decide +kernel
theorem dX7_chance_134 : decode cX7_chance 134 = .ok (.iinc 8 1, 3) := by decide +kernel
theorem dX7_chance_137 : decode cX7_chance 137 = .ok (.goto (-83), 3) := by decide +kernel
theorem dX7_chance_140 : decode cX7_chance 140 = .ok (.lload 4, 2) := by decide +kernel
theorem dX7_chance_142 : decode cX7_chance 142 = .ok (.lreturn, 1) := by decide +kernel
set_option maxRecDepth 20000 in
theorem ggX7_join_X7_told : GoodIn wsX7_join wsX7_told := goodIn_r _ [10, 11, 83, 84, 85, 86, 87, 88, 89, 90, 91, 92, 93, 94, 95, 96, 97, 98, 99, 100, 101, 102, 103] (by decide +kernel) (by decide +kernel)
set_option maxRecDepth 20000 in
theorem gX7_join_X7_told : GoodIn wsX7_join (wsV RX7 69 RX7 yX7_told wsX7_told) := goodIn_app (goodIn_of _ (by decide +kernel)) ggX7_join_X7_told
set_option maxRecDepth 20000 in
theorem ggX7_join_X7_isPrint : GoodIn wsX7_join wsX7_isPrint := goodIn_r _ [15, 16, 17, 18, 9, 19, 83, 84, 85, 86, 87, 88, 89, 90, 91, 92, 93, 94, 95, 96, 97, 98, 99, 100, 101, 102, 103] (by decide +kernel) (by decide +kernel)
set_option maxRecDepth 20000 in
theorem gX7_join_X7_isPrint : GoodIn wsX7_join (wsV RX7 77 RX7 yX7_isPrint wsX7_isPrint) := goodIn_app (goodIn_of _ (by decide +kernel)) ggX7_join_X7_isPrint
set_option maxRecDepth 20000 in
theorem ggX7_join_X7_findMarks : GoodIn wsX7_join wsX7_findMarks := goodIn_r _ [23, 24, 25, 26, 27, 28, 29, 30, 31, 32, 9, 33, 2, 34, 35, 36, 37, 38, 39, 40, 41, 42, 43, 44, 45, 46, 47, 48, 49, 50, 51, 52, 17, 18, 19, 53, 54, 55, 56, 83, 84, 85, 86, 87, 88, 89, 90, 91, 92, 93, 94, 95, 96, 97, 98, 99, 100, 101, 102, 103] (by decide +kernel) (by decide +kernel)
set_option maxRecDepth 20000 in
theorem gX7_join_X7_findMarks : GoodIn wsX7_join (wsV RX7 105 RX7 yX7_findMarks wsX7_findMarks) := goodIn_app (goodIn_of _ (by decide +kernel)) ggX7_join_X7_findMarks
set_option maxRecDepth 20000 in
theorem ggX7_join_X7_findBest : GoodIn wsX7_join wsX7_findBest := goodIn_r _ [60, 61, 3, 4, 5, 62, 63, 64, 9, 65, 24, 27, 28, 29, 66, 67, 17, 18, 19, 68, 69, 70, 71, 72, 73, 74, 75, 76, 77, 78, 79, 80, 81, 82, 83, 84, 85, 86, 87, 88, 89, 90, 91, 92, 93, 94, 95, 96, 97, 98, 99, 100, 101, 102, 103] (by decide +kernel) (by decide +kernel)
set_option maxRecDepth 20000 in
theorem gX7_join_X7_findBest : GoodIn wsX7_join (wsV RX7 144 RX7 yX7_findBest wsX7_findBest) := goodIn_app (goodIn_of _ (by decide +kernel)) ggX7_join_X7_findBest
set_option maxRecDepth 20000 in
theorem ggX7_join_X7_isPlace : GoodIn wsX7_join wsX7_isPlace := goodIn_r _ [51, 52, 17, 18, 9, 19] (by decide +kernel) (by decide +kernel)
set_option maxRecDepth 20000 in
theorem gX7_join_X7_isPlace : GoodIn wsX7_join (va_wsS RX7 73 yX7_isPlace wsX7_isPlace) := goodIn_app (goodIn_of _ (by decide +kernel)) ggX7_join_X7_isPlace
theorem dX7_join_0 : decode cX7_join 0 = .ok (.aload_n 0, 1) := by decide +kernel
theorem dX7_join_1 : decode cX7_join 1 = .ok (.iconst 0, 1) := by decide +kernel
theorem dX7_join_2 : decode cX7_join 2 = .ok (.putfield 54, 3) := by decide +kernel
theorem dX7_join_5 : decode cX7_join 5 = .ok (.iload_n 1, 1) := by decide +kernel
theorem dX7_join_6 : decode cX7_join 6 = .ok (.iload_n 2, 1) := by decide +kernel
theorem dX7_join_7 : decode cX7_join 7 = .ok (.if_icmp .ne 9, 3) := by decide +kernel
theorem dX7_join_10 : decode cX7_join 10 = .ok (.aload_n 0, 1) := by decide +kernel
theorem dX7_join_11 : decode cX7_join 11 = .ok (.iconst (-1), 1) := by decide +kernel
theorem dX7_join_12 : decode cX7_join 12 = .ok (.invokevirtual 69, 3) := by decide +kernel
theorem dX7_join_15 : decode cX7_join 15 = .ok (.ireturn, 1) := by decide +kernel
theorem dX7_join_16 : decode cX7_join 16 = .ok (.aload_n 0, 1) := by decide +kernel
theorem dX7_join_17 : decode cX7_join 17 = .ok (.iload_n 1, 1) := by decide +kernel
theorem dX7_join_18 : decode cX7_join 18 = .ok (.invokevirtual 77, 3) := by decide +kernel
theorem dX7_join_21 : decode cX7_join 21 = .ok (.ifCond .eq 11, 3) := by decide +kernel
theorem dX7_join_24 : decode cX7_join 24 = .ok (.aload_n 0, 1) := by decide +kernel
theorem dX7_join_25 : decode cX7_join 25 = .ok (.iload_n 2, 1) := by decide +kernel
theorem dX7_join_26 : decode cX7_join 26 = .ok (.invokevirtual 77, 3) := by decide +kernel
theorem dX7_join_29 : decode cX7_join 29 = .ok (.ifCond .ne 10, 3) := by decide +kernel
theorem dX7_join_32 : decode cX7_join 32 = .ok (.aload_n 0, 1) := by decide +kernel
theorem dX7_join_33 : decode cX7_join 33 = .ok (.bipush (-2), 2) := by decide +kernel
theorem dX7_join_35 : decode cX7_join 35 = .ok (.invokevirtual 69, 3) := by decide +kernel
theorem dX7_join_38 : decode cX7_join 38 = .ok (.ireturn, 1) := by decide +kernel
theorem dX7_join_39 : decode cX7_join 39 = .ok (.aload_n 0, 1) := by decide +kernel
theorem dX7_join_40 : decode cX7_join 40 = .ok (.iload_n 1, 1) := by decide +kernel
theorem dX7_join_41 : decode cX7_join 41 = .ok (.invokevirtual 105, 3) := by decide +kernel
theorem dX7_join_44 : decode cX7_join 44 = .ok (.aload_n 0, 1) := by decide +kernel
theorem dX7_join_45 : decode cX7_join 45 = .ok (.iload_n 2, 1) := by decide +kernel
theorem dX7_join_46 : decode cX7_join 46 = .ok (.invokevirtual 105, 3) := by decide +kernel
theorem dX7_join_49 : decode cX7_join 49 = .ok (.aload_n 0, 1) := by decide +kernel
theorem dX7_join_50 : decode cX7_join 50 = .ok (.iload_n 1, 1) := by decide +kernel
