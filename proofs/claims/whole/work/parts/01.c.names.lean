theorem dX6_mark_95 : decode cX6_mark 95 = .ok (.iconst 1, 1) := by decide +kernel
theorem dX6_mark_96 : decode cX6_mark 96 = .ok (.if_icmp .ne 13, 3) := by decide +kernel
theorem dX6_mark_99 : decode cX6_mark 99 = .ok (.aload 4, 2) := by decide +kernel
theorem dX6_mark_101 : decode cX6_mark 101 = .ok (.getfield 90, 3) := by decide +kernel
theorem dX6_mark_104 : decode cX6_mark 104 = .ok (.iload_n 2, 1) := by decide +kernel
theorem dX6_mark_105 : decode cX6_mark 105 = .ok (.iaload, 1) := by decide +kernel
theorem dX6_mark_106 : decode cX6_mark 106 = .ok (.goto 10, 3) := by decide +kernel
theorem dX6_mark_109 : decode cX6_mark 109 = .ok (.aload 4, 2) := by decide +kernel
theorem dX6_mark_111 : decode cX6_mark 111 = .ok (.getfield 93, 3) := by decide +kernel
theorem dX6_mark_114 : decode cX6_mark 114 = .ok (.iload_n 2, 1) := by decide +kernel
theorem dX6_mark_115 : decode cX6_mark 115 = .ok (.iaload, 1) := by decide +kernel
theorem dX6_mark_116 : decode cX6_mark 116 = .ok (.ireturn, 1) := by decide +kernel
set_option maxRecDepth 20000 in
theorem ggX6_within_X6_refuse : GoodIn wsX6_within wsX6_refuse := goodIn_r _ [7, 1, 8, 9, 10, 11, 12, 13, 14, 15] (by decide +kernel) (by decide +kernel)
set_option maxRecDepth 20000 in
theorem gX6_within_X6_refuse : GoodIn wsX6_within (wsV RX6 49 RX6 yX6_refuse wsX6_refuse) := goodIn_app (goodIn_of _ (by decide +kernel)) ggX6_within_X6_refuse
theorem dX6_within_0 : decode cX6_within 0 = .ok (.iload_n 1, 1) := by decide +kernel
theorem dX6_within_1 : decode cX6_within 1 = .ok (.ifCond .lt 8, 3) := by decide +kernel
theorem dX6_within_4 : decode cX6_within 4 = .ok (.iload_n 1, 1) := by decide +kernel
theorem dX6_within_5 : decode cX6_within 5 = .ok (.iconst 3, 1) := by decide +kernel
theorem dX6_within_6 : decode cX6_within 6 = .ok (.if_icmp .le 9, 3) := by decide +kernel
theorem dX6_within_9 : decode cX6_within 9 = .ok (.aload_n 0, 1) := by decide +kernel
theorem dX6_within_10 : decode cX6_within 10 = .ok (.iconst (-1), 1) := by decide +kernel
theorem dX6_within_11 : decode cX6_within 11 = .ok (.invokevirtual 49, 3) := by decide +kernel
theorem dX6_within_14 : decode cX6_within 14 = .ok (.ireturn, 1) := by decide +kernel
theorem dX6_within_15 : decode cX6_within 15 = .ok (.aload_n 0, 1) := by decide +kernel
theorem dX6_within_16 : decode cX6_within 16 = .ok (.iconst 0, 1) := by decide +kernel
theorem dX6_within_17 : decode cX6_within 17 = .ok (.putfield 46, 3) := by decide +kernel
theorem dX6_within_20 : decode cX6_within 20 = .ok (.aload_n 0, 1) := by decide +kernel
theorem dX6_within_21 : decode cX6_within 21 = .ok (.getfield 43, 3) := by decide +kernel
theorem dX6_within_24 : decode cX6_within 24 = .ok (.istore_n 2, 1) := by decide +kernel
theorem dX6_within_25 : decode cX6_within 25 = .ok (.aload_n 0, 1) := by decide +kernel
theorem dX6_within_26 : decode cX6_within 26 = .ok (.iload_n 1, 1) := by decide +kernel
theorem dX6_within_27 : decode cX6_within 27 = .ok (.putfield 43, 3) := by decide +kernel
theorem dX6_within_30 : decode cX6_within 30 = .ok (.iload_n 2, 1) := by decide +kernel
theorem dX6_within_31 : decode cX6_within 31 = .ok (.ireturn, 1) := by decide +kernel
set_option maxRecDepth 20000 in
theorem ggX6_pairs_X6_freshBoard : GoodIn wsX6_pairs wsX6_freshBoard := goodIn_r _ [7, 8, 9, 10, 11, 12, 6, 13, 14, 15, 16, 17, 18, 19, 20, 21, 22, 23, 24, 25, 26, 27, 28, 29, 30, 31, 32, 33, 34, 35, 36, 37, 38, 39, 40, 41, 42, 43, 44, 45, 46, 47, 48, 49, 50, 51, 52, 53, 54, 55, 56, 57, 58, 59, 60, 61, 62, 63, 64, 65, 66, 67, 68, 69, 70, 71, 72, 73, 74, 75, 76, 77, 78, 79, 80, 81, 82, 83, 84, 85, 86, 87, 88, 89, 90, 91, 92, 93, 94, 95, 96, 97, 98, 177, 178, 179, 180, 181, 182, 183, 184, 185, 169, 170, 171, 172, 173, 174, 175, 176, 186, 187, 188, 189, 190, 191, 192, 193, 194, 195] (by decide +kernel) (by decide +kernel)
set_option maxRecDepth 20000 in
theorem gX6_pairs_X6_freshBoard : GoodIn wsX6_pairs (wsV RX6 67 RX6 yX6_freshBoard wsX6_freshBoard) := goodIn_app (goodIn_of _ (by decide +kernel)) ggX6_pairs_X6_freshBoard
set_option maxRecDepth 20000 in
theorem ggX6_pairs_X6_isShift : GoodIn wsX6_pairs wsX6_isShift := goodIn_r _ [101] (by decide +kernel) (by decide +kernel)
set_option maxRecDepth 20000 in
theorem gX6_pairs_X6_isShift : GoodIn wsX6_pairs (va_wsS RX6 96 yX6_isShift wsX6_isShift) := goodIn_app (goodIn_of _ (by decide +kernel)) ggX6_pairs_X6_isShift
set_option maxRecDepth 20000 in
theorem ggX6_pairs_X2_prepare : GoodIn wsX6_pairs wsX2_prepare := goodIn_r _ [106, 107, 108, 109, 110, 111, 112, 113, 114, 115, 116, 117, 118, 119, 120, 121, 105, 122, 123, 124, 125, 126, 127, 128, 129, 130, 131, 132, 133, 134, 135, 177, 178, 179, 180, 181, 182, 183, 184, 185, 196, 197, 198, 199, 200, 201, 202, 203, 204, 205, 206, 207, 208] (by decide +kernel) (by decide +kernel)
set_option maxRecDepth 20000 in
theorem gX6_pairs_X2_prepare : GoodIn wsX6_pairs (wsV RX6 99 RX2 yX2_prepare wsX2_prepare) := goodIn_app (goodIn_of _ (by decide +kernel)) ggX6_pairs_X2_prepare
set_option maxRecDepth 20000 in
theorem ggX6_pairs_X2_mostPairs : GoodIn wsX6_pairs wsX2_mostPairs := goodIn_r _ [139, 140, 112, 141, 142, 143, 144, 145, 105, 146, 123, 124, 125, 115, 113, 114, 108, 109, 110, 111, 147, 148, 149, 150, 151, 152, 153, 154, 155, 156, 157, 158, 159, 160, 161, 162, 163, 164, 165, 166, 167, 168, 196, 197, 198, 199, 200, 201, 202, 203, 204, 205, 206, 207, 208] (by decide +kernel) (by decide +kernel)
set_option maxRecDepth 20000 in
theorem gX6_pairs_X2_mostPairs : GoodIn wsX6_pairs (wsV RX6 103 RX2 yX2_mostPairs wsX2_mostPairs) := goodIn_app (goodIn_of _ (by decide +kernel)) ggX6_pairs_X2_mostPairs
theorem dX6_pairs_0 : decode cX6_pairs 0 = .ok (.aload_n 0, 1) := by decide +kernel
theorem dX6_pairs_1 : decode cX6_pairs 1 = .ok (.iload_n 1, 1) := by decide +kernel
theorem dX6_pairs_2 : decode cX6_pairs 2 = .ok (.invokevirtual 67, 3) := by decide +kernel
theorem dX6_pairs_5 : decode cX6_pairs 5 = .ok (.astore 6, 2) := by decide +kernel
theorem dX6_pairs_7 : decode cX6_pairs 7 = .ok (.aload_n 0, 1) := by decide +kernel
theorem dX6_pairs_8 : decode cX6_pairs 8 = .ok (.iload_n 2, 1) := by decide +kernel
theorem dX6_pairs_9 : decode cX6_pairs 9 = .ok (.invokevirtual 67, 3) := by decide +kernel
theorem dX6_pairs_12 : decode cX6_pairs 12 = .ok (.astore 7, 2) := by decide +kernel
theorem dX6_pairs_14 : decode cX6_pairs 14 = .ok (.aload 6, 2) := by decide +kernel
theorem dX6_pairs_16 : decode cX6_pairs 16 = .ok (.ifnull 8, 3) := by decide +kernel
theorem dX6_pairs_19 : decode cX6_pairs 19 = .ok (.aload 7, 2) := by decide +kernel
theorem dX6_pairs_21 : decode cX6_pairs 21 = .ok (.ifnonnull 5, 3) := by decide +kernel
theorem dX6_pairs_24 : decode cX6_pairs 24 = .ok (.iconst (-1), 1) := by decide +kernel
theorem dX6_pairs_25 : decode cX6_pairs 25 = .ok (.ireturn, 1) := by decide +kernel
theorem dX6_pairs_26 : decode cX6_pairs 26 = .ok (.iload_n 3, 1) := by decide +kernel
theorem dX6_pairs_27 : decode cX6_pairs 27 = .ok (.ifCond .lt 24, 3) := by decide +kernel
theorem dX6_pairs_30 : decode cX6_pairs 30 = .ok (.iload_n 3, 1) := by decide +kernel
theorem dX6_pairs_31 : decode cX6_pairs 31 = .ok (.iconst 4, 1) := by decide +kernel
theorem dX6_pairs_32 : decode cX6_pairs 32 = .ok (.if_icmp .ge 19, 3) := by decide +kernel
theorem dX6_pairs_35 : decode cX6_pairs 35 = .ok (.iload 4, 2) := by decide +kernel
theorem dX6_pairs_37 : decode cX6_pairs 37 = .ok (.invokestatic 96, 3) := by decide +kernel
theorem dX6_pairs_40 : decode cX6_pairs 40 = .ok (.ifCond .eq 11, 3) := by decide +kernel
theorem dX6_pairs_43 : decode cX6_pairs 43 = .ok (.iload 5, 2) := by decide +kernel
theorem dX6_pairs_45 : decode cX6_pairs 45 = .ok (.invokestatic 96, 3) := by decide +kernel
theorem dX6_pairs_48 : decode cX6_pairs 48 = .ok (.ifCond .ne 5, 3) := by decide +kernel
theorem dX6_pairs_51 : decode cX6_pairs 51 = .ok (.iconst (-1), 1) := by decide +kernel
theorem dX6_pairs_52 : decode cX6_pairs 52 = .ok (.ireturn, 1) := by decide +kernel
theorem dX6_pairs_53 : decode cX6_pairs 53 = .ok (.aload_n 0, 1) := by decide +kernel
theorem dX6_pairs_54 : decode cX6_pairs 54 = .ok (.getfield 31, 3) := by decide +kernel
theorem dX6_pairs_57 : decode cX6_pairs 57 = .ok (.aload 6, 2) := by decide +kernel
theorem dX6_pairs_59 : decode cX6_pairs 59 = .ok (.aload 7, 2) := by decide +kernel
theorem dX6_pairs_61 : decode cX6_pairs 61 = .ok (.aload_n 0, 1) := by decide +kernel
theorem dX6_pairs_62 : decode cX6_pairs 62 = .ok (.getfield 43, 3) := by decide +kernel
theorem dX6_pairs_65 : decode cX6_pairs 65 = .ok (.invokevirtual 99, 3) := by decide +kernel
theorem dX6_pairs_68 : decode cX6_pairs 68 = .ok (.aload_n 0, 1) := by decide +kernel
theorem dX6_pairs_69 : decode cX6_pairs 69 = .ok (.getfield 31, 3) := by decide +kernel
theorem dX6_pairs_72 : decode cX6_pairs 72 = .ok (.iload_n 3, 1) := by decide +kernel
theorem dX6_pairs_73 : decode cX6_pairs 73 = .ok (.iload 4, 2) := by decide +kernel
theorem dX6_pairs_75 : decode cX6_pairs 75 = .ok (.iload 5, 2) := by decide +kernel
theorem dX6_pairs_77 : decode cX6_pairs 77 = .ok (.iconst 0, 1) := by decide +kernel
theorem dX6_pairs_78 : decode cX6_pairs 78 = .ok (.invokevirtual 103, 3) := by decide +kernel
theorem dX6_pairs_81 : decode cX6_pairs 81 = .ok (.ireturn, 1) := by decide +kernel
set_option maxRecDepth 20000 in
theorem ggX6_best_X6_meetingOf : GoodIn wsX6_best wsX6_meetingOf := goodIn_r _ [9, 10, 11, 12, 13, 14, 15, 16, 17, 18, 8, 19, 20, 21, 22, 23, 24, 25, 26, 27, 28, 29, 30, 31, 32, 33, 34, 35, 36, 37, 38, 39, 40, 41, 42, 43, 44, 45, 46, 47, 48, 49, 50, 51, 52, 53, 54, 55, 56, 57, 58, 59, 60, 61, 62, 63, 64, 65, 66, 67, 68, 69, 70, 71, 72, 73, 74, 75, 76, 77, 78, 79, 80, 81, 82, 83, 84, 85, 86, 87, 88, 89, 90, 91, 92, 93, 94, 95, 96, 97, 98, 99, 100, 101, 102, 103, 104, 105, 106, 107, 108, 109, 110, 111, 112, 113, 114, 115, 116, 117, 118, 119, 120, 121, 122, 123, 124, 125, 126, 127, 128, 129, 130, 131, 132, 133, 134, 135, 136, 137, 138, 139, 140, 141, 142, 143, 144, 145, 146, 147, 148, 149, 150, 151, 152, 153, 154, 155, 156, 157, 158, 159, 160, 161, 162, 163, 164, 165, 166, 167, 168, 169, 170, 171, 172, 173, 174, 175, 176, 177, 178, 179, 180, 181, 182, 183, 184, 185, 186, 187, 188, 189, 190, 191, 192, 193, 194, 195, 196, 197, 198, 199, 200, 201, 202, 203, 204, 205, 206, 207, 208, 209, 210, 211, 212, 213, 214, 215, 216, 217, 227, 228, 229, 230, 231, 232, 233, 234, 218, 219, 220, 221, 222, 223, 224, 225, 226, 235, 236, 237, 238, 239, 240, 241, 242, 243, 244, 245, 246, 247, 248, 249, 250, 251, 252, 253, 254, 255, 256, 257, 258, 259, 260, 261, 262, 263, 264, 265, 266] (by decide +kernel) (by decide +kernel)
set_option maxRecDepth 20000 in
theorem gX6_best_X6_meetingOf : GoodIn wsX6_best (wsV RX6 107 RX6 yX6_meetingOf wsX6_meetingOf) := goodIn_app (goodIn_of _ (by decide +kernel)) ggX6_best_X6_meetingOf
theorem dX6_best_0 : decode cX6_best 0 = .ok (.aload_n 0, 1) := by decide +kernel
theorem dX6_best_1 : decode cX6_best 1 = .ok (.iload_n 1, 1) := by decide +kernel
theorem dX6_best_2 : decode cX6_best 2 = .ok (.iload_n 2, 1) := by decide +kernel
theorem dX6_best_3 : decode cX6_best 3 = .ok (.invokevirtual 107, 3) := by decide +kernel
theorem dX6_best_6 : decode cX6_best 6 = .ok (.astore 4, 2) := by decide +kernel
theorem dX6_best_8 : decode cX6_best 8 = .ok (.aload 4, 2) := by decide +kernel
theorem dX6_best_10 : decode cX6_best 10 = .ok (.ifnonnull 6, 3) := by decide +kernel
theorem dX6_best_13 : decode cX6_best 13 = .ok (.bipush (-100), 2) := by decide +kernel
theorem dX6_best_15 : decode cX6_best 15 = .ok (.ireturn, 1) := by decide +kernel
theorem dX6_best_16 : decode cX6_best 16 = .ok (.iload_n 3, 1) := by decide +kernel
theorem dX6_best_17 : decode cX6_best 17 = .ok (.tableswitch 55 0 3 #[31, 37, 43, 49], 31) := by decide +kernel
theorem dX6_best_48 : decode cX6_best 48 = .ok (.aload 4, 2) := by decide +kernel
theorem dX6_best_50 : decode cX6_best 50 = .ok (.getfield 111, 3) := by decide +kernel
theorem dX6_best_53 : decode cX6_best 53 = .ok (.ireturn, 1) := by decide +kernel
theorem dX6_best_54 : decode cX6_best 54 = .ok (.aload 4, 2) := by decide +kernel
theorem dX6_best_56 : decode cX6_best 56 = .ok (.getfield 114, 3) := by decide +kernel
theorem dX6_best_59 : decode cX6_best 59 = .ok (.ireturn, 1) := by decide +kernel
theorem dX6_best_60 : decode cX6_best 60 = .ok (.aload 4, 2) := by decide +kernel
theorem dX6_best_62 : decode cX6_best 62 = .ok (.getfield 117, 3) := by decide +kernel
theorem dX6_best_65 : decode cX6_best 65 = .ok (.ireturn, 1) := by decide +kernel
theorem dX6_best_66 : decode cX6_best 66 = .ok (.aload 4, 2) := by decide +kernel
theorem dX6_best_68 : decode cX6_best 68 = .ok (.getfield 120, 3) := by decide +kernel
theorem dX6_best_71 : decode cX6_best 71 = .ok (.ireturn, 1) := by decide +kernel
theorem dX6_best_72 : decode cX6_best 72 = .ok (.bipush (-100), 2) := by decide +kernel
theorem dX6_best_74 : decode cX6_best 74 = .ok (.ireturn, 1) := by decide +kernel
set_option maxRecDepth 20000 in
theorem ggX6_bound_X6_freshBoard : GoodIn wsX6_bound wsX6_freshBoard := goodIn_r _ [5, 6, 7, 8, 9, 10, 4, 11, 12, 13, 14, 15, 16, 17, 18, 19, 20, 21, 22, 23, 24, 25, 26, 27, 28, 29, 30, 31, 32, 33, 34, 35, 36, 37, 38, 39, 40, 41, 42, 43, 44, 45, 46, 47, 48, 49, 50, 51, 52, 53, 54, 55, 56, 57, 58, 59, 60, 61, 62, 63, 64, 65, 66, 67, 68, 69, 70, 71, 72, 73, 74, 75, 76, 77, 78, 79, 80, 81, 82, 83, 84, 85, 86, 87, 88, 89, 90, 91, 92, 93, 94, 95, 96, 109, 110, 111, 112, 113, 114, 115, 116, 117, 118, 119, 120, 121, 122, 123, 124, 125, 126, 127, 128, 129, 130, 131, 132, 133, 134, 135] (by decide +kernel) (by decide +kernel)
set_option maxRecDepth 20000 in
theorem gX6_bound_X6_freshBoard : GoodIn wsX6_bound (wsV RX6 67 RX6 yX6_freshBoard wsX6_freshBoard) := goodIn_app (goodIn_of _ (by decide +kernel)) ggX6_bound_X6_freshBoard
set_option maxRecDepth 20000 in
theorem ggX6_bound_X0_mostAgreeing : GoodIn wsX6_bound wsX0_mostAgreeing := goodIn_r _ [100, 76, 101, 102, 103, 104, 105, 106, 107, 73, 108, 75, 109, 110, 111, 112, 113, 114, 115, 116, 117] (by decide +kernel) (by decide +kernel)
set_option maxRecDepth 20000 in
theorem gX6_bound_X0_mostAgreeing : GoodIn wsX6_bound (wsV RX6 123 RX0 yX0_mostAgreeing wsX0_mostAgreeing) := goodIn_app (goodIn_of _ (by decide +kernel)) ggX6_bound_X0_mostAgreeing
theorem dX6_bound_0 : decode cX6_bound 0 = .ok (.aload_n 0, 1) := by decide +kernel
theorem dX6_bound_1 : decode cX6_bound 1 = .ok (.iload_n 1, 1) := by decide +kernel
theorem dX6_bound_2 : decode cX6_bound 2 = .ok (.invokevirtual 67, 3) := by decide +kernel
theorem dX6_bound_5 : decode cX6_bound 5 = .ok (.astore_n 3, 1) := by decide +kernel
theorem dX6_bound_6 : decode cX6_bound 6 = .ok (.aload_n 0, 1) := by decide +kernel
theorem dX6_bound_7 : decode cX6_bound 7 = .ok (.iload_n 2, 1) := by decide +kernel
theorem dX6_bound_8 : decode cX6_bound 8 = .ok (.invokevirtual 67, 3) := by decide +kernel
theorem dX6_bound_11 : decode cX6_bound 11 = .ok (.astore 4, 2) := by decide +kernel
theorem dX6_bound_13 : decode cX6_bound 13 = .ok (.aload_n 3, 1) := by decide +kernel
theorem dX6_bound_14 : decode cX6_bound 14 = .ok (.ifnull 8, 3) := by decide +kernel
theorem dX6_bound_17 : decode cX6_bound 17 = .ok (.aload 4, 2) := by decide +kernel
theorem dX6_bound_19 : decode cX6_bound 19 = .ok (.ifnonnull 5, 3) := by decide +kernel
theorem dX6_bound_22 : decode cX6_bound 22 = .ok (.iconst (-1), 1) := by decide +kernel
theorem dX6_bound_23 : decode cX6_bound 23 = .ok (.ireturn, 1) := by decide +kernel
theorem dX6_bound_24 : decode cX6_bound 24 = .ok (.aload_n 3, 1) := by decide +kernel
theorem dX6_bound_25 : decode cX6_bound 25 = .ok (.aload 4, 2) := by decide +kernel
theorem dX6_bound_27 : decode cX6_bound 27 = .ok (.invokevirtual 123, 3) := by decide +kernel
theorem dX6_bound_30 : decode cX6_bound 30 = .ok (.ireturn, 1) := by decide +kernel
set_option maxRecDepth 20000 in
theorem ggX6_seek_X6_freshBoard : GoodIn wsX6_seek wsX6_freshBoard := goodIn_r _ [7, 8, 9, 10, 11, 12, 6, 13, 1, 14, 15, 16, 17, 18, 19, 20, 21, 22, 23, 24, 25, 26, 27, 28, 29, 30, 31, 32, 33, 34, 35, 36, 37, 38, 39, 40, 41, 42, 43, 44, 45, 46, 47, 48, 49, 50, 51, 52, 53, 54, 55, 56, 57, 58, 59, 60, 61, 62, 63, 64, 65, 66, 67, 68, 69, 70, 71, 72, 73, 74, 75, 76, 77, 78, 79, 80, 81, 82, 83, 84, 85, 86, 87, 88, 89, 90, 91, 92, 93, 94, 95, 96, 97, 249, 250, 251, 252, 253, 254, 255, 256, 257, 232, 233, 234, 235, 236, 237, 238, 239, 258, 259, 260, 261, 262, 263, 264, 265, 266, 267] (by decide +kernel) (by decide +kernel)
set_option maxRecDepth 20000 in
theorem gX6_seek_X6_freshBoard : GoodIn wsX6_seek (wsV RX6 67 RX6 yX6_freshBoard wsX6_freshBoard) := goodIn_app (goodIn_of _ (by decide +kernel)) ggX6_seek_X6_freshBoard
set_option maxRecDepth 20000 in
theorem ggX6_seek_X6_othersWithMarks : GoodIn wsX6_seek wsX6_othersWithMarks := goodIn_r _ [101, 1, 102, 3, 4, 5, 6, 7, 8, 9, 10, 11, 12, 13, 14, 15, 16, 17, 18, 19, 20, 21, 22, 23, 24, 25, 26, 27, 28, 29, 30, 31, 32, 33, 34, 35, 36, 37, 38, 39, 40, 41, 42, 43, 44, 45, 46, 47, 48, 49, 50, 51, 52, 53, 54, 55, 56, 57, 58, 59, 60, 61, 62, 63, 64, 65, 66, 67, 68, 69, 70, 71, 72, 73, 74, 75, 76, 77, 78, 79, 80, 81, 82, 83, 84, 85, 86, 87, 88, 89, 90, 91, 92, 93, 94, 95, 96, 97, 232, 233, 234, 235, 236, 237, 238, 239, 249, 250, 251, 252, 253, 254, 255, 256, 257, 258, 259, 260, 261, 262, 263, 264, 265, 266, 267] (by decide +kernel) (by decide +kernel)
set_option maxRecDepth 20000 in
theorem gX6_seek_X6_othersWithMarks : GoodIn wsX6_seek (wsV RX6 127 RX6 yX6_othersWithMarks wsX6_othersWithMarks) := goodIn_app (goodIn_of _ (by decide +kernel)) ggX6_seek_X6_othersWithMarks
set_option maxRecDepth 20000 in
theorem ggX6_seek_X6_nextToLookAt : GoodIn wsX6_seek wsX6_nextToLookAt := goodIn_r _ [106, 1, 10, 11, 12, 6, 13, 14, 107, 108, 109, 74, 110, 77, 111, 112, 113, 114, 115, 116, 117, 118, 76, 232, 233, 234, 235, 236, 237, 238, 239, 249, 250, 251, 252, 253, 254, 255, 256, 257] (by decide +kernel) (by decide +kernel)
set_option maxRecDepth 20000 in
theorem gX6_seek_X6_nextToLookAt : GoodIn wsX6_seek (wsV RX6 130 RX6 yX6_nextToLookAt wsX6_nextToLookAt) := goodIn_app (goodIn_of _ (by decide +kernel)) ggX6_seek_X6_nextToLookAt
set_option maxRecDepth 20000 in
theorem ggX6_seek_X6_bound : GoodIn wsX6_seek wsX6_bound := goodIn_r _ [122, 3, 4, 5, 6, 7, 8, 9, 10, 11, 12, 13, 1, 14, 15, 16, 17, 18, 19, 20, 21, 22, 23, 24, 25, 26, 27, 28, 29, 30, 31, 32, 33, 34, 35, 36, 37, 38, 39, 40, 41, 42, 43, 44, 45, 46, 47, 48, 49, 50, 51, 52, 53, 54, 55, 56, 57, 58, 59, 60, 61, 62, 63, 64, 65, 66, 67, 68, 69, 70, 71, 72, 73, 74, 75, 76, 77, 78, 79, 80, 81, 82, 83, 84, 85, 86, 87, 88, 89, 90, 91, 92, 93, 94, 95, 96, 97, 107, 108, 109, 110, 111, 112, 113, 114, 115, 116, 117, 118, 249, 250, 251, 252, 253, 254, 255, 256, 257, 232, 233, 234, 235, 236, 237, 238, 239, 258, 259, 260, 261, 262, 263, 264, 265, 266, 267] (by decide +kernel) (by decide +kernel)
set_option maxRecDepth 20000 in
theorem gX6_seek_X6_bound : GoodIn wsX6_seek (wsV RX6 134 RX6 yX6_bound wsX6_bound) := goodIn_app (goodIn_of _ (by decide +kernel)) ggX6_seek_X6_bound
set_option maxRecDepth 20000 in
theorem ggX6_seek_X6_isAhead : GoodIn wsX6_seek wsX6_isAhead := goodIn_r _ [125] (by decide +kernel) (by decide +kernel)
set_option maxRecDepth 20000 in
theorem gX6_seek_X6_isAhead : GoodIn wsX6_seek (va_wsS RX6 138 yX6_isAhead wsX6_isAhead) := goodIn_app (goodIn_of _ (by decide +kernel)) ggX6_seek_X6_isAhead
set_option maxRecDepth 20000 in
theorem ggX6_seek_X6_meetingOf : GoodIn wsX6_seek wsX6_meetingOf := goodIn_r _ [129, 130, 131, 132, 133, 134, 135, 3, 4, 5, 6, 7, 8, 9, 10, 11, 12, 13, 1, 14, 15, 16, 17, 18, 19, 20, 21, 22, 23, 24, 25, 26, 27, 28, 29, 30, 31, 32, 33, 34, 35, 36, 37, 38, 39, 40, 41, 42, 43, 44, 45, 46, 47, 48, 49, 50, 51, 52, 53, 54, 55, 56, 57, 58, 59, 60, 61, 62, 63, 64, 65, 66, 67, 68, 69, 70, 71, 72, 73, 74, 75, 76, 77, 78, 79, 80, 81, 82, 83, 84, 85, 86, 87, 88, 89, 90, 91, 92, 93, 94, 95, 96, 97, 136, 137, 138, 139, 140, 141, 142, 143, 144, 145, 146, 147, 148, 149, 150, 151, 152, 153, 154, 155, 156, 157, 158, 159, 160, 161, 113, 162, 163, 164, 165, 166, 167, 168, 169, 112, 114, 170, 171, 172, 173, 174, 175, 176, 177, 178, 179, 180, 181, 182, 183, 184, 185, 186, 187, 188, 189, 190, 191, 192, 193, 194, 108, 109, 110, 111, 115, 116, 117, 118, 195, 196, 197, 198, 199, 200, 201, 202, 203, 204, 205, 206, 207, 208, 209, 210, 211, 212, 213, 214, 215, 216, 217, 218, 219, 220, 221, 222, 223, 224, 225, 226, 227, 228, 229, 230, 231, 232, 233, 234, 235, 236, 237, 238, 239, 240, 241, 242, 243, 244, 245, 246, 247, 248, 249, 250, 251, 252, 253, 254, 255, 256, 257, 258, 259, 260, 261, 262, 263, 264, 265, 266, 267, 268, 269, 270, 271, 272, 273, 274, 275, 276, 277, 278, 279, 280] (by decide +kernel) (by decide +kernel)
set_option maxRecDepth 20000 in
theorem gX6_seek_X6_meetingOf : GoodIn wsX6_seek (wsV RX6 107 RX6 yX6_meetingOf wsX6_meetingOf) := goodIn_app (goodIn_of _ (by decide +kernel)) ggX6_seek_X6_meetingOf
theorem dX6_seek_0 : decode cX6_seek 0 = .ok (.aload_n 0, 1) := by decide +kernel
theorem dX6_seek_1 : decode cX6_seek 1 = .ok (.iload_n 1, 1) := by decide +kernel
theorem dX6_seek_2 : decode cX6_seek 2 = .ok (.invokevirtual 67, 3) := by decide +kernel
theorem dX6_seek_5 : decode cX6_seek 5 = .ok (.astore_n 3, 1) := by decide +kernel
theorem dX6_seek_6 : decode cX6_seek 6 = .ok (.aload_n 3, 1) := by decide +kernel
theorem dX6_seek_7 : decode cX6_seek 7 = .ok (.ifnull 12, 3) := by decide +kernel
theorem dX6_seek_10 : decode cX6_seek 10 = .ok (.iload_n 2, 1) := by decide +kernel
theorem dX6_seek_11 : decode cX6_seek 11 = .ok (.ifCond .lt 8, 3) := by decide +kernel
theorem dX6_seek_14 : decode cX6_seek 14 = .ok (.iload_n 2, 1) := by decide +kernel
theorem dX6_seek_15 : decode cX6_seek 15 = .ok (.iconst 2, 1) := by decide +kernel
theorem dX6_seek_16 : decode cX6_seek 16 = .ok (.if_icmp .le 5, 3) := by decide +kernel
theorem dX6_seek_19 : decode cX6_seek 19 = .ok (.iconst (-1), 1) := by decide +kernel
theorem dX6_seek_20 : decode cX6_seek 20 = .ok (.ireturn, 1) := by decide +kernel
theorem dX6_seek_21 : decode cX6_seek 21 = .ok (.iconst (-1), 1) := by decide +kernel
theorem dX6_seek_22 : decode cX6_seek 22 = .ok (.istore 4, 2) := by decide +kernel
theorem dX6_seek_24 : decode cX6_seek 24 = .ok (.iconst (-1), 1) := by decide +kernel
theorem dX6_seek_25 : decode cX6_seek 25 = .ok (.istore 5, 2) := by decide +kernel
theorem dX6_seek_27 : decode cX6_seek 27 = .ok (.iconst 0, 1) := by decide +kernel
theorem dX6_seek_28 : decode cX6_seek 28 = .ok (.istore 6, 2) := by decide +kernel
theorem dX6_seek_30 : decode cX6_seek 30 = .ok (.aload_n 0, 1) := by decide +kernel
theorem dX6_seek_31 : decode cX6_seek 31 = .ok (.iload_n 1, 1) := by decide +kernel
theorem dX6_seek_32 : decode cX6_seek 32 = .ok (.invokevirtual 127, 3) := by decide +kernel
theorem dX6_seek_35 : decode cX6_seek 35 = .ok (.istore 7, 2) := by decide +kernel
theorem dX6_seek_37 : decode cX6_seek 37 = .ok (.iconst 0, 1) := by decide +kernel
theorem dX6_seek_38 : decode cX6_seek 38 = .ok (.istore 8, 2) := by decide +kernel
theorem dX6_seek_40 : decode cX6_seek 40 = .ok (.iload 8, 2) := by decide +kernel
theorem dX6_seek_42 : decode cX6_seek 42 = .ok (.aload_n 0, 1) := by decide +kernel
theorem dX6_seek_43 : decode cX6_seek 43 = .ok (.getfield 39, 3) := by decide +kernel
theorem dX6_seek_46 : decode cX6_seek 46 = .ok (.if_icmp .ge 100, 3) := by decide +kernel
theorem dX6_seek_49 : decode cX6_seek 49 = .ok (.aload_n 0, 1) := by decide +kernel
theorem dX6_seek_50 : decode cX6_seek 50 = .ok (.aload_n 3, 1) := by decide +kernel
theorem dX6_seek_51 : decode cX6_seek 51 = .ok (.iload 7, 2) := by decide +kernel
theorem dX6_seek_53 : decode cX6_seek 53 = .ok (.invokevirtual 130, 3) := by decide +kernel
theorem dX6_seek_56 : decode cX6_seek 56 = .ok (.istore 9, 2) := by decide +kernel
theorem dX6_seek_58 : decode cX6_seek 58 = .ok (.aload_n 0, 1) := by decide +kernel
theorem dX6_seek_59 : decode cX6_seek 59 = .ok (.iload_n 1, 1) := by decide +kernel
theorem dX6_seek_60 : decode cX6_seek 60 = .ok (.iload 9, 2) := by decide +kernel
theorem dX6_seek_62 : decode cX6_seek 62 = .ok (.invokevirtual 134, 3) := by decide +kernel
theorem dX6_seek_65 : decode cX6_seek 65 = .ok (.iload 9, 2) := by decide +kernel
theorem dX6_seek_67 : decode cX6_seek 67 = .ok (.iload 5, 2) := by decide +kernel
theorem dX6_seek_69 : decode cX6_seek 69 = .ok (.iload 4, 2) := by decide +kernel
theorem dX6_seek_71 : decode cX6_seek 71 = .ok (.invokestatic 138, 3) := by decide +kernel
theorem dX6_seek_74 : decode cX6_seek 74 = .ok (.ifCond .eq 13, 3) := by decide +kernel
theorem dX6_seek_77 : decode cX6_seek 77 = .ok (.aload_n 0, 1) := by decide +kernel
theorem dX6_seek_78 : decode cX6_seek 78 = .ok (.iload_n 1, 1) := by decide +kernel
theorem dX6_seek_79 : decode cX6_seek 79 = .ok (.iload 9, 2) := by decide +kernel
theorem dX6_seek_81 : decode cX6_seek 81 = .ok (.invokevirtual 107, 3) := by decide +kernel
theorem dX6_seek_84 : decode cX6_seek 84 = .ok (.goto 4, 3) := by decide +kernel
theorem dX6_seek_87 : decode cX6_seek 87 = .ok (.aconst_null, 1) := by decide +kernel
theorem dX6_seek_88 : decode cX6_seek 88 = .ok (.astore 10, 2) := by decide +kernel
theorem dX6_seek_90 : decode cX6_seek 90 = .ok (.aload 10, 2) := by decide +kernel
theorem dX6_seek_92 : decode cX6_seek 92 = .ok (.ifnonnull 6, 3) := by decide +kernel
theorem dX6_seek_95 : decode cX6_seek 95 = .ok (.goto 51, 3) := by decide +kernel
theorem dX6_seek_98 : decode cX6_seek 98 = .ok (.iinc 6 1, 3) := by decide +kernel
theorem dX6_seek_101 : decode cX6_seek 101 = .ok (.iload 7, 2) := by decide +kernel
theorem dX6_seek_103 : decode cX6_seek 103 = .ok (.iconst 1, 1) := by decide +kernel
theorem dX6_seek_104 : decode cX6_seek 104 = .ok (.iload 9, 2) := by decide +kernel
theorem dX6_seek_106 : decode cX6_seek 106 = .ok (.ishl, 1) := by decide +kernel
theorem dX6_seek_107 : decode cX6_seek 107 = .ok (.iconst (-1), 1) := by decide +kernel
theorem dX6_seek_108 : decode cX6_seek 108 = .ok (.ixor, 1) := by decide +kernel
theorem dX6_seek_109 : decode cX6_seek 109 = .ok (.iand, 1) := by decide +kernel
theorem dX6_seek_110 : decode cX6_seek 110 = .ok (.istore 7, 2) := by decide +kernel
theorem dX6_seek_112 : decode cX6_seek 112 = .ok (.aload 10, 2) := by decide +kernel
theorem dX6_seek_114 : decode cX6_seek 114 = .ok (.getfield 111, 3) := by decide +kernel
theorem dX6_seek_117 : decode cX6_seek 117 = .ok (.iload 9, 2) := by decide +kernel
theorem dX6_seek_119 : decode cX6_seek 119 = .ok (.iload 5, 2) := by decide +kernel
theorem dX6_seek_121 : decode cX6_seek 121 = .ok (.iload 4, 2) := by decide +kernel
theorem dX6_seek_123 : decode cX6_seek 123 = .ok (.invokestatic 138, 3) := by decide +kernel
theorem dX6_seek_126 : decode cX6_seek 126 = .ok (.ifCond .eq 14, 3) := by decide +kernel
theorem dX6_seek_129 : decode cX6_seek 129 = .ok (.iload 9, 2) := by decide +kernel
theorem dX6_seek_131 : decode cX6_seek 131 = .ok (.istore 4, 2) := by decide +kernel
theorem dX6_seek_133 : decode cX6_seek 133 = .ok (.aload 10, 2) := by decide +kernel
theorem dX6_seek_135 : decode cX6_seek 135 = .ok (.getfield 111, 3) := by decide +kernel
theorem dX6_seek_138 : decode cX6_seek 138 = .ok (.istore 5, 2) := by decide +kernel
theorem dX6_seek_140 : decode cX6_seek 140 = .ok (.iinc 8 1, 3) := by decide +kernel
theorem dX6_seek_143 : decode cX6_seek 143 = .ok (.goto (-103), 3) := by decide +kernel
theorem dX6_seek_146 : decode cX6_seek 146 = .ok (.iload_n 2, 1) := by decide +kernel
theorem dX6_seek_147 : decode cX6_seek 147 = .ok (.ifCond .ne 8, 3) := by decide +kernel
theorem dX6_seek_150 : decode cX6_seek 150 = .ok (.iload 4, 2) := by decide +kernel
theorem dX6_seek_152 : decode cX6_seek 152 = .ok (.goto 15, 3) := by decide +kernel
theorem dX6_seek_155 : decode cX6_seek 155 = .ok (.iload_n 2, 1) := by decide +kernel
theorem dX6_seek_156 : decode cX6_seek 156 = .ok (.iconst 1, 1) := by decide +kernel
theorem dX6_seek_157 : decode cX6_seek 157 = .ok (.if_icmp .ne 8, 3) := by decide +kernel
theorem dX6_seek_160 : decode cX6_seek 160 = .ok (.iload 5, 2) := by decide +kernel
theorem dX6_seek_162 : decode cX6_seek 162 = .ok (.goto 5, 3) := by decide +kernel
theorem dX6_seek_165 : decode cX6_seek 165 = .ok (.iload 6, 2) := by decide +kernel
theorem dX6_seek_167 : decode cX6_seek 167 = .ok (.ireturn, 1) := by decide +kernel
set_option maxRecDepth 20000 in
theorem ggX6_chance_X6_spreadWays : GoodIn wsX6_chance wsX6_spreadWays := goodIn_r _ [7, 2, 8, 9, 10, 11, 12, 13, 14, 15] (by decide +kernel) (by decide +kernel)
set_option maxRecDepth 20000 in
theorem gX6_chance_X6_spreadWays : GoodIn wsX6_chance (wsV RX6 144 RX6 yX6_spreadWays wsX6_spreadWays) := goodIn_app (goodIn_of _ (by decide +kernel)) ggX6_chance_X6_spreadWays
theorem dX6_chance_0 : decode cX6_chance 0 = .ok (.iload_n 1, 1) := by decide +kernel
theorem dX6_chance_1 : decode cX6_chance 1 = .ok (.ifCond .lt 29, 3) := by decide +kernel
theorem dX6_chance_4 : decode cX6_chance 4 = .ok (.iload_n 1, 1) := by decide +kernel
theorem dX6_chance_5 : decode cX6_chance 5 = .ok (.bipush 12, 2) := by decide +kernel
theorem dX6_chance_7 : decode cX6_chance 7 = .ok (.if_icmp .gt 23, 3) := by decide +kernel
theorem dX6_chance_10 : decode cX6_chance 10 = .ok (.iload_n 2, 1) := by decide +kernel
theorem dX6_chance_11 : decode cX6_chance 11 = .ok (.ifCond .lt 19, 3) := by decide +kernel
theorem dX6_chance_14 : decode cX6_chance 14 = .ok (.iload_n 2, 1) := by decide +kernel
theorem dX6_chance_15 : decode cX6_chance 15 = .ok (.bipush 12, 2) := by decide +kernel
theorem dX6_chance_17 : decode cX6_chance 17 = .ok (.if_icmp .gt 13, 3) := by decide +kernel
theorem dX6_chance_20 : decode cX6_chance 20 = .ok (.iload_n 3, 1) := by decide +kernel
theorem dX6_chance_21 : decode cX6_chance 21 = .ok (.ifCond .lt 9, 3) := by decide +kernel
theorem dX6_chance_24 : decode cX6_chance 24 = .ok (.iload_n 3, 1) := by decide +kernel
theorem dX6_chance_25 : decode cX6_chance 25 = .ok (.bipush 16, 2) := by decide +kernel
theorem dX6_chance_27 : decode cX6_chance 27 = .ok (.if_icmp .le 7, 3) := by decide +kernel
theorem dX6_chance_30 : decode cX6_chance 30 = .ok (.ldc2_w 142, 3) := by decide +kernel
theorem dX6_chance_33 : decode cX6_chance 33 = .ok (.lreturn, 1) := by decide +kernel
theorem dX6_chance_34 : decode cX6_chance 34 = .ok (.aload_n 0, 1) := by decide +kernel
theorem dX6_chance_35 : decode cX6_chance 35 = .ok (.iload_n 1, 1) := by decide +kernel
theorem dX6_chance_36 : decode cX6_chance 36 = .ok (.iload_n 3, 1) := by decide +kernel
theorem dX6_chance_37 : decode cX6_chance 37 = .ok (.invokevirtual 144, 3) := by decide +kernel
theorem dX6_chance_40 : decode cX6_chance 40 = .ok (.lconst 0, 1) := by decide +kernel
theorem dX6_chance_41 : decode cX6_chance 41 = .ok (.lstore 4, 2) := by decide +kernel
theorem dX6_chance_43 : decode cX6_chance 43 = .ok (.iload_n 2, 1) := by decide +kernel
theorem dX6_chance_44 : decode cX6_chance 44 = .ok (.istore 6, 2) := by decide +kernel
theorem dX6_chance_46 : decode cX6_chance 46 = .ok (.iload 6, 2) := by decide +kernel
theorem dX6_chance_48 : decode cX6_chance 48 = .ok (.iload_n 1, 1) := by decide +kernel
theorem dX6_chance_49 : decode cX6_chance 49 = .ok (.if_icmp .gt 21, 3) := by decide +kernel
theorem dX6_chance_52 : decode cX6_chance 52 = .ok (.lload 4, 2) := by decide +kernel
theorem dX6_chance_54 : decode cX6_chance 54 = .ok (.aload_n 0, 1) := by decide +kernel
theorem dX6_chance_55 : decode cX6_chance 55 = .ok (.getfield 35, 3) := by decide +kernel
theorem dX6_chance_58 : decode cX6_chance 58 = .ok (.iload 6, 2) := by decide +kernel
theorem dX6_chance_60 : decode cX6_chance 60 = .ok (.laload, 1) := by decide +kernel
theorem dX6_chance_61 : decode cX6_chance 61 = .ok (.ladd, 1) := by decide +kernel
theorem dX6_chance_62 : decode cX6_chance 62 = .ok (.lstore 4, 2) := by decide +kernel
theorem dX6_chance_64 : decode cX6_chance 64 = .ok (.iinc 6 1, 3) := by decide +kernel
theorem dX6_chance_67 : decode cX6_chance 67 = .ok (.goto (-21), 3) := by decide +kernel
theorem dX6_chance_70 : decode cX6_chance 70 = .ok (.lload 4, 2) := by decide +kernel
theorem dX6_chance_72 : decode cX6_chance 72 = .ok (.lreturn, 1) := by decide +kernel
set_option maxRecDepth 20000 in
theorem ggX6_join_X6_refuse : GoodIn wsX6_join wsX6_refuse := goodIn_r _ [6, 1, 237, 238, 239, 240, 241, 242, 243, 244] (by decide +kernel) (by decide +kernel)
set_option maxRecDepth 20000 in
theorem gX6_join_X6_refuse : GoodIn wsX6_join (wsV RX6 49 RX6 yX6_refuse wsX6_refuse) := goodIn_app (goodIn_of _ (by decide +kernel)) ggX6_join_X6_refuse
set_option maxRecDepth 20000 in
theorem ggX6_join_X6_meetingOf : GoodIn wsX6_join wsX6_meetingOf := goodIn_r _ [10, 11, 12, 13, 14, 15, 16, 17, 18, 19, 5, 20, 21, 22, 23, 24, 25, 26, 27, 28, 29, 30, 31, 32, 33, 34, 35, 36, 37, 38, 39, 40, 41, 42, 43, 44, 45, 46, 47, 48, 49, 50, 51, 52, 53, 54, 55, 56, 57, 58, 59, 60, 61, 62, 63, 64, 65, 66, 67, 68, 69, 70, 71, 72, 73, 74, 75, 76, 77, 78, 79, 80, 81, 82, 83, 84, 85, 86, 87, 88, 89, 90, 91, 92, 93, 94, 95, 96, 97, 98, 99, 100, 101, 102, 103, 104, 105, 106, 107, 108, 109, 110, 111, 112, 113, 114, 115, 116, 117, 118, 119, 120, 121, 122, 123, 124, 125, 126, 127, 128, 129, 130, 131, 132, 133, 134, 135, 136, 137, 138, 139, 140, 141, 142, 143, 144, 145, 146, 147, 148, 149, 150, 151, 152, 153, 154, 155, 156, 157, 158, 159, 160, 161, 162, 163, 164, 165, 166, 167, 168, 169, 170, 171, 172, 173, 174, 175, 176, 177, 178, 179, 180, 181, 182, 183, 184, 185, 186, 187, 188, 189, 190, 191, 192, 193, 194, 195, 196, 197, 198, 199, 200, 201, 202, 203, 204, 205, 206, 207, 208, 209, 210, 211, 212, 213, 214, 215, 216, 217, 218, 237, 238, 239, 240, 241, 242, 243, 244, 245, 246, 247, 248, 249, 250, 251, 252, 253, 254, 255, 256, 257, 258, 259, 260, 261, 262, 263, 264, 265, 266, 267, 268, 269, 270, 271, 272, 273, 274, 275, 276, 277, 278, 279, 280, 281, 282, 283, 284, 285] (by decide +kernel) (by decide +kernel)
set_option maxRecDepth 20000 in
theorem gX6_join_X6_meetingOf : GoodIn wsX6_join (wsV RX6 107 RX6 yX6_meetingOf wsX6_meetingOf) := goodIn_app (goodIn_of _ (by decide +kernel)) ggX6_join_X6_meetingOf
set_option maxRecDepth 20000 in
theorem ggX6_join_X1_bringTogether : GoodIn wsX6_join wsX1_bringTogether := goodIn_r _ [222, 125, 223, 224, 225, 226, 14, 227, 122, 123, 124, 126, 228, 5, 229, 230, 231, 232, 88, 233, 234, 235, 236, 245, 246, 247, 248, 249, 250, 251, 252, 253, 254, 255, 256, 257, 258, 259, 260, 261, 262] (by decide +kernel) (by decide +kernel)
set_option maxRecDepth 20000 in
theorem gX6_join_X1_bringTogether : GoodIn wsX6_join (wsV RX6 147 RX1 yX1_bringTogether wsX1_bringTogether) := goodIn_app (goodIn_of _ (by decide +kernel)) ggX6_join_X1_bringTogether
theorem dX6_join_0 : decode cX6_join 0 = .ok (.iload_n 1, 1) := by decide +kernel
theorem dX6_join_1 : decode cX6_join 1 = .ok (.iload_n 2, 1) := by decide +kernel
theorem dX6_join_2 : decode cX6_join 2 = .ok (.if_icmp .ne 9, 3) := by decide +kernel
theorem dX6_join_5 : decode cX6_join 5 = .ok (.aload_n 0, 1) := by decide +kernel
theorem dX6_join_6 : decode cX6_join 6 = .ok (.iconst (-1), 1) := by decide +kernel
theorem dX6_join_7 : decode cX6_join 7 = .ok (.invokevirtual 49, 3) := by decide +kernel
theorem dX6_join_10 : decode cX6_join 10 = .ok (.ireturn, 1) := by decide +kernel
theorem dX6_join_11 : decode cX6_join 11 = .ok (.aload_n 0, 1) := by decide +kernel
theorem dX6_join_12 : decode cX6_join 12 = .ok (.iload_n 1, 1) := by decide +kernel
theorem dX6_join_13 : decode cX6_join 13 = .ok (.iload_n 2, 1) := by decide +kernel
theorem dX6_join_14 : decode cX6_join 14 = .ok (.invokevirtual 107, 3) := by decide +kernel
theorem dX6_join_17 : decode cX6_join 17 = .ok (.astore_n 3, 1) := by decide +kernel
theorem dX6_join_18 : decode cX6_join 18 = .ok (.aload_n 3, 1) := by decide +kernel
theorem dX6_join_19 : decode cX6_join 19 = .ok (.ifnonnull 10, 3) := by decide +kernel
theorem dX6_join_22 : decode cX6_join 22 = .ok (.aload_n 0, 1) := by decide +kernel
theorem dX6_join_23 : decode cX6_join 23 = .ok (.bipush (-2), 2) := by decide +kernel
theorem dX6_join_25 : decode cX6_join 25 = .ok (.invokevirtual 49, 3) := by decide +kernel
theorem dX6_join_28 : decode cX6_join 28 = .ok (.ireturn, 1) := by decide +kernel
theorem dX6_join_29 : decode cX6_join 29 = .ok (.aload_n 0, 1) := by decide +kernel
theorem dX6_join_30 : decode cX6_join 30 = .ok (.iconst 0, 1) := by decide +kernel
theorem dX6_join_31 : decode cX6_join 31 = .ok (.putfield 46, 3) := by decide +kernel
theorem dX6_join_34 : decode cX6_join 34 = .ok (.aload_n 3, 1) := by decide +kernel
theorem dX6_join_35 : decode cX6_join 35 = .ok (.invokevirtual 147, 3) := by decide +kernel
theorem dX6_join_38 : decode cX6_join 38 = .ok (.ireturn, 1) := by decide +kernel
set_option maxRecDepth 20000 in
theorem ggX6_count_X6_fullCells : GoodIn wsX6_count wsX6_fullCells := goodIn_r _ [7, 1, 8, 9, 10, 11, 6, 12, 13, 14, 15, 16, 17, 18, 19, 20, 21, 22, 23, 24, 25, 26, 27, 28, 29, 30, 31, 32, 33, 34, 35, 36, 37] (by decide +kernel) (by decide +kernel)
set_option maxRecDepth 20000 in
theorem gX6_count_X6_fullCells : GoodIn wsX6_count (wsV RX6 150 RX6 yX6_fullCells wsX6_fullCells) := goodIn_app (goodIn_of _ (by decide +kernel)) ggX6_count_X6_fullCells
theorem dX6_count_0 : decode cX6_count 0 = .ok (.iload_n 1, 1) := by decide +kernel
theorem dX6_count_1 : decode cX6_count 1 = .ok (.tableswitch 42 0 2 #[27, 32, 37], 27) := by decide +kernel
theorem dX6_count_28 : decode cX6_count 28 = .ok (.aload_n 0, 1) := by decide +kernel
theorem dX6_count_29 : decode cX6_count 29 = .ok (.getfield 39, 3) := by decide +kernel
theorem dX6_count_32 : decode cX6_count 32 = .ok (.ireturn, 1) := by decide +kernel
theorem dX6_count_33 : decode cX6_count 33 = .ok (.aload_n 0, 1) := by decide +kernel
theorem dX6_count_34 : decode cX6_count 34 = .ok (.invokevirtual 150, 3) := by decide +kernel
theorem dX6_count_37 : decode cX6_count 37 = .ok (.ireturn, 1) := by decide +kernel
theorem dX6_count_38 : decode cX6_count 38 = .ok (.aload_n 0, 1) := by decide +kernel
theorem dX6_count_39 : decode cX6_count 39 = .ok (.getfield 43, 3) := by decide +kernel
theorem dX6_count_42 : decode cX6_count 42 = .ok (.ireturn, 1) := by decide +kernel
theorem dX6_count_43 : decode cX6_count 43 = .ok (.iconst (-1), 1) := by decide +kernel
theorem dX6_count_44 : decode cX6_count 44 = .ok (.ireturn, 1) := by decide +kernel
theorem dX6_status_0 : decode cX6_status 0 = .ok (.aload_n 0, 1) := by decide +kernel
theorem dX6_status_1 : decode cX6_status 1 = .ok (.getfield 46, 3) := by decide +kernel
theorem dX6_status_4 : decode cX6_status 4 = .ok (.ireturn, 1) := by decide +kernel
theorem dX6_refuse_0 : decode cX6_refuse 0 = .ok (.aload_n 0, 1) := by decide +kernel
theorem dX6_refuse_1 : decode cX6_refuse 1 = .ok (.iload_n 1, 1) := by decide +kernel
theorem dX6_refuse_2 : decode cX6_refuse 2 = .ok (.putfield 46, 3) := by decide +kernel
theorem dX6_refuse_5 : decode cX6_refuse 5 = .ok (.iload_n 1, 1) := by decide +kernel
theorem dX6_refuse_6 : decode cX6_refuse 6 = .ok (.ireturn, 1) := by decide +kernel
theorem dX6_isOnBoard_0 : decode cX6_isOnBoard 0 = .ok (.iload_n 0, 1) := by decide +kernel
theorem dX6_isOnBoard_1 : decode cX6_isOnBoard 1 = .ok (.ifCond .lt 13, 3) := by decide +kernel
theorem dX6_isOnBoard_4 : decode cX6_isOnBoard 4 = .ok (.iload_n 0, 1) := by decide +kernel
theorem dX6_isOnBoard_5 : decode cX6_isOnBoard 5 = .ok (.bipush 24, 2) := by decide +kernel
theorem dX6_isOnBoard_7 : decode cX6_isOnBoard 7 = .ok (.if_icmp .ge 7, 3) := by decide +kernel
theorem dX6_isOnBoard_10 : decode cX6_isOnBoard 10 = .ok (.iconst 1, 1) := by decide +kernel
theorem dX6_isOnBoard_11 : decode cX6_isOnBoard 11 = .ok (.goto 4, 3) := by decide +kernel
theorem dX6_isOnBoard_14 : decode cX6_isOnBoard 14 = .ok (.iconst 0, 1) := by decide +kernel
theorem dX6_isOnBoard_15 : decode cX6_isOnBoard 15 = .ok (.ireturn, 1) := by decide +kernel
theorem dX6_isShift_0 : decode cX6_isShift 0 = .ok (.iload_n 0, 1) := by decide +kernel
theorem dX6_isShift_1 : decode cX6_isShift 1 = .ok (.bipush (-8), 2) := by decide +kernel
theorem dX6_isShift_3 : decode cX6_isShift 3 = .ok (.if_icmp .lt 13, 3) := by decide +kernel
theorem dX6_isShift_6 : decode cX6_isShift 6 = .ok (.iload_n 0, 1) := by decide +kernel
theorem dX6_isShift_7 : decode cX6_isShift 7 = .ok (.bipush 8, 2) := by decide +kernel
theorem dX6_isShift_9 : decode cX6_isShift 9 = .ok (.if_icmp .gt 7, 3) := by decide +kernel
theorem dX6_isShift_12 : decode cX6_isShift 12 = .ok (.iconst 1, 1) := by decide +kernel
theorem dX6_isShift_13 : decode cX6_isShift 13 = .ok (.goto 4, 3) := by decide +kernel
theorem dX6_isShift_16 : decode cX6_isShift 16 = .ok (.iconst 0, 1) := by decide +kernel
theorem dX6_isShift_17 : decode cX6_isShift 17 = .ok (.ireturn, 1) := by decide +kernel
theorem dX6_boardOf_0 : decode cX6_boardOf 0 = .ok (.iload_n 1, 1) := by decide +kernel
theorem dX6_boardOf_1 : decode cX6_boardOf 1 = .ok (.ifCond .lt 26, 3) := by decide +kernel
theorem dX6_boardOf_4 : decode cX6_boardOf 4 = .ok (.iload_n 1, 1) := by decide +kernel
theorem dX6_boardOf_5 : decode cX6_boardOf 5 = .ok (.aload_n 0, 1) := by decide +kernel
theorem dX6_boardOf_6 : decode cX6_boardOf 6 = .ok (.getfield 39, 3) := by decide +kernel
theorem dX6_boardOf_9 : decode cX6_boardOf 9 = .ok (.if_icmp .ge 18, 3) := by decide +kernel
theorem dX6_boardOf_12 : decode cX6_boardOf 12 = .ok (.iload_n 1, 1) := by decide +kernel
theorem dX6_boardOf_13 : decode cX6_boardOf 13 = .ok (.bipush 16, 2) := by decide +kernel
theorem dX6_boardOf_15 : decode cX6_boardOf 15 = .ok (.if_icmp .ge 12, 3) := by decide +kernel
theorem dX6_boardOf_18 : decode cX6_boardOf 18 = .ok (.aload_n 0, 1) := by decide +kernel
theorem dX6_boardOf_19 : decode cX6_boardOf 19 = .ok (.getfield 11, 3) := by decide +kernel
theorem dX6_boardOf_22 : decode cX6_boardOf 22 = .ok (.iload_n 1, 1) := by decide +kernel
theorem dX6_boardOf_23 : decode cX6_boardOf 23 = .ok (.aaload, 1) := by decide +kernel
theorem dX6_boardOf_24 : decode cX6_boardOf 24 = .ok (.goto 4, 3) := by decide +kernel
theorem dX6_boardOf_27 : decode cX6_boardOf 27 = .ok (.aconst_null, 1) := by decide +kernel
theorem dX6_boardOf_28 : decode cX6_boardOf 28 = .ok (.areturn, 1) := by decide +kernel
set_option maxRecDepth 20000 in
theorem ggX6_freshBoard_X6_boardOf : GoodIn wsX6_freshBoard wsX6_boardOf := goodIn_r _ [7, 8, 9, 102, 103, 104, 105, 106, 107, 108, 109] (by decide +kernel) (by decide +kernel)
set_option maxRecDepth 20000 in
theorem gX6_freshBoard_X6_boardOf : GoodIn wsX6_freshBoard (wsV RX6 58 RX6 yX6_boardOf wsX6_boardOf) := goodIn_app (goodIn_of _ (by decide +kernel)) ggX6_freshBoard_X6_boardOf
set_option maxRecDepth 20000 in
theorem ggX6_freshBoard_X5_refresh : GoodIn wsX6_freshBoard wsX5_refresh := goodIn_r _ [14, 15, 16, 17, 18, 19, 20, 21, 22, 23, 24, 13, 25, 26, 27, 28, 29, 30, 31, 32, 33, 34, 35, 36, 37, 38, 39, 40, 41, 42, 43, 44, 45, 46, 47, 48, 49, 50, 51, 52, 53, 54, 55, 56, 57, 58, 59, 60, 61, 62, 63, 64, 65, 66, 67, 68, 69, 70, 71, 72, 73, 74, 75, 76, 77, 78, 79, 80, 81, 82, 83, 84, 85, 86, 87, 88, 89, 90, 91, 92, 93, 94, 95, 96, 97, 98, 99, 100, 101, 110, 111, 112, 113, 114, 115, 116, 117, 118, 119] (by decide +kernel) (by decide +kernel)
set_option maxRecDepth 20000 in
theorem gX6_freshBoard_X5_refresh : GoodIn wsX6_freshBoard (wsV RX6 157 RX5 yX5_refresh wsX5_refresh) := goodIn_app (goodIn_of _ (by decide +kernel)) ggX6_freshBoard_X5_refresh
theorem dX6_freshBoard_0 : decode cX6_freshBoard 0 = .ok (.aload_n 0, 1) := by decide +kernel
theorem dX6_freshBoard_1 : decode cX6_freshBoard 1 = .ok (.iload_n 1, 1) := by decide +kernel
theorem dX6_freshBoard_2 : decode cX6_freshBoard 2 = .ok (.invokevirtual 58, 3) := by decide +kernel
theorem dX6_freshBoard_5 : decode cX6_freshBoard 5 = .ok (.astore_n 2, 1) := by decide +kernel
theorem dX6_freshBoard_6 : decode cX6_freshBoard 6 = .ok (.aload_n 2, 1) := by decide +kernel
theorem dX6_freshBoard_7 : decode cX6_freshBoard 7 = .ok (.ifnull 18, 3) := by decide +kernel
theorem dX6_freshBoard_10 : decode cX6_freshBoard 10 = .ok (.aload_n 2, 1) := by decide +kernel
theorem dX6_freshBoard_11 : decode cX6_freshBoard 11 = .ok (.getfield 153, 3) := by decide +kernel
theorem dX6_freshBoard_14 : decode cX6_freshBoard 14 = .ok (.ifCond .eq 11, 3) := by decide +kernel
theorem dX6_freshBoard_17 : decode cX6_freshBoard 17 = .ok (.aload_n 0, 1) := by decide +kernel
theorem dX6_freshBoard_18 : decode cX6_freshBoard 18 = .ok (.getfield 24, 3) := by decide +kernel
theorem dX6_freshBoard_21 : decode cX6_freshBoard 21 = .ok (.aload_n 2, 1) := by decide +kernel
theorem dX6_freshBoard_22 : decode cX6_freshBoard 22 = .ok (.invokevirtual 157, 3) := by decide +kernel
theorem dX6_freshBoard_25 : decode cX6_freshBoard 25 = .ok (.aload_n 2, 1) := by decide +kernel
theorem dX6_freshBoard_26 : decode cX6_freshBoard 26 = .ok (.areturn, 1) := by decide +kernel
set_option maxRecDepth 20000 in
theorem ggX6_meetingOf_X6_freshBoard : GoodIn wsX6_meetingOf wsX6_freshBoard := goodIn_r _ [11, 12, 13, 14, 15, 16, 10, 17, 18, 19, 20, 21, 22, 23, 24, 25, 26, 27, 28, 29, 30, 31, 32, 33, 34, 35, 36, 37, 38, 39, 40, 41, 42, 43, 44, 45, 46, 47, 48, 49, 50, 51, 52, 53, 54, 55, 56, 57, 58, 59, 60, 61, 62, 63, 64, 65, 66, 67, 68, 69, 70, 71, 72, 73, 74, 75, 76, 77, 78, 79, 80, 81, 82, 83, 84, 85, 86, 87, 88, 89, 90, 91, 92, 93, 94, 95, 96, 97, 98, 99, 100, 101, 102, 227, 228, 229, 230, 231, 232, 233, 234, 235, 210, 211, 212, 213, 214, 215, 216, 217, 236, 237, 238, 239, 240, 241, 242, 243, 244, 245] (by decide +kernel) (by decide +kernel)
set_option maxRecDepth 20000 in
theorem gX6_meetingOf_X6_freshBoard : GoodIn wsX6_meetingOf (wsV RX6 67 RX6 yX6_freshBoard wsX6_freshBoard) := goodIn_app (goodIn_of _ (by decide +kernel)) ggX6_meetingOf_X6_freshBoard
set_option maxRecDepth 20000 in
theorem ggX6_meetingOf_X1_init : GoodIn wsX6_meetingOf wsX1_init := goodIn_r _ [105, 106, 107, 108, 109, 110, 111, 112, 113, 114, 115, 116, 117, 218, 219, 220, 221, 222, 223, 224, 225, 226] (by decide +kernel) (by decide +kernel)
set_option maxRecDepth 20000 in
theorem gX6_meetingOf_X1_init : GoodIn wsX6_meetingOf (wsX1_init) := ggX6_meetingOf_X1_init
set_option maxRecDepth 20000 in
theorem ggX6_meetingOf_X1_stillHolds : GoodIn wsX6_meetingOf wsX1_stillHolds := goodIn_r _ [121, 111, 116, 122, 109, 117, 110, 218, 219, 220, 221, 222, 223, 224, 225, 226, 227, 228, 229, 230, 231, 232, 233, 234, 235] (by decide +kernel) (by decide +kernel)
set_option maxRecDepth 20000 in
theorem gX6_meetingOf_X1_stillHolds : GoodIn wsX6_meetingOf (wsV RX6 164 RX1 yX1_stillHolds wsX1_stillHolds) := goodIn_app (goodIn_of _ (by decide +kernel)) ggX6_meetingOf_X1_stillHolds
set_option maxRecDepth 20000 in
theorem ggX6_meetingOf_X1_findBestMove : GoodIn wsX6_meetingOf wsX1_findBestMove := goodIn_r _ [126, 116, 122, 109, 117, 110, 111, 112, 127, 128, 129, 130, 131, 132, 133, 134, 135, 136, 137, 138, 139, 140, 141, 142, 143, 144, 145, 146, 147, 148, 149, 150, 151, 152, 153, 154, 155, 156, 157, 158, 159, 160, 161, 162, 163, 164, 165, 166, 79, 167, 82, 168, 169, 170, 171, 172, 81, 173, 174, 175, 4, 176, 113, 114, 115, 177, 178, 179, 180, 181, 182, 183, 184, 185, 186, 187, 188, 189, 190, 191, 192, 193, 194, 195, 196, 197, 198, 199, 200, 201, 202, 203, 204, 205, 206, 207, 208, 209, 218, 219, 220, 221, 222, 223, 224, 225, 226, 227, 228, 229, 230, 231, 232, 233, 234, 235, 246, 247, 248, 249, 250, 251, 252, 253, 254, 255, 256, 257, 258] (by decide +kernel) (by decide +kernel)
set_option maxRecDepth 20000 in
theorem gX6_meetingOf_X1_findBestMove : GoodIn wsX6_meetingOf (wsV RX6 167 RX1 yX1_findBestMove wsX1_findBestMove) := goodIn_app (goodIn_of _ (by decide +kernel)) ggX6_meetingOf_X1_findBestMove
theorem dX6_meetingOf_0 : decode cX6_meetingOf 0 = .ok (.aload_n 0, 1) := by decide +kernel
theorem dX6_meetingOf_1 : decode cX6_meetingOf 1 = .ok (.iload_n 1, 1) := by decide +kernel
theorem dX6_meetingOf_2 : decode cX6_meetingOf 2 = .ok (.invokevirtual 67, 3) := by decide +kernel
theorem dX6_meetingOf_5 : decode cX6_meetingOf 5 = .ok (.astore_n 3, 1) := by decide +kernel
theorem dX6_meetingOf_6 : decode cX6_meetingOf 6 = .ok (.aload_n 0, 1) := by decide +kernel
theorem dX6_meetingOf_7 : decode cX6_meetingOf 7 = .ok (.iload_n 2, 1) := by decide +kernel
theorem dX6_meetingOf_8 : decode cX6_meetingOf 8 = .ok (.invokevirtual 67, 3) := by decide +kernel
theorem dX6_meetingOf_11 : decode cX6_meetingOf 11 = .ok (.astore 4, 2) := by decide +kernel
theorem dX6_meetingOf_13 : decode cX6_meetingOf 13 = .ok (.aload_n 3, 1) := by decide +kernel
theorem dX6_meetingOf_14 : decode cX6_meetingOf 14 = .ok (.ifnull 8, 3) := by decide +kernel
theorem dX6_meetingOf_17 : decode cX6_meetingOf 17 = .ok (.aload 4, 2) := by decide +kernel
theorem dX6_meetingOf_19 : decode cX6_meetingOf 19 = .ok (.ifnonnull 5, 3) := by decide +kernel
theorem dX6_meetingOf_22 : decode cX6_meetingOf 22 = .ok (.aconst_null, 1) := by decide +kernel
theorem dX6_meetingOf_23 : decode cX6_meetingOf 23 = .ok (.areturn, 1) := by decide +kernel
theorem dX6_meetingOf_24 : decode cX6_meetingOf 24 = .ok (.iload_n 1, 1) := by decide +kernel
theorem dX6_meetingOf_25 : decode cX6_meetingOf 25 = .ok (.bipush 16, 2) := by decide +kernel
theorem dX6_meetingOf_27 : decode cX6_meetingOf 27 = .ok (.imul, 1) := by decide +kernel
theorem dX6_meetingOf_28 : decode cX6_meetingOf 28 = .ok (.iload_n 2, 1) := by decide +kernel
theorem dX6_meetingOf_29 : decode cX6_meetingOf 29 = .ok (.iadd, 1) := by decide +kernel
theorem dX6_meetingOf_30 : decode cX6_meetingOf 30 = .ok (.istore 5, 2) := by decide +kernel
theorem dX6_meetingOf_32 : decode cX6_meetingOf 32 = .ok (.aload_n 0, 1) := by decide +kernel
theorem dX6_meetingOf_33 : decode cX6_meetingOf 33 = .ok (.getfield 17, 3) := by decide +kernel
theorem dX6_meetingOf_36 : decode cX6_meetingOf 36 = .ok (.iload 5, 2) := by decide +kernel
theorem dX6_meetingOf_38 : decode cX6_meetingOf 38 = .ok (.aaload, 1) := by decide +kernel
theorem dX6_meetingOf_39 : decode cX6_meetingOf 39 = .ok (.astore 6, 2) := by decide +kernel
theorem dX6_meetingOf_41 : decode cX6_meetingOf 41 = .ok (.aload 6, 2) := by decide +kernel
theorem dX6_meetingOf_43 : decode cX6_meetingOf 43 = .ok (.ifnonnull 24, 3) := by decide +kernel
theorem dX6_meetingOf_46 : decode cX6_meetingOf 46 = .ok (.new 15, 3) := by decide +kernel
theorem dX6_meetingOf_49 : decode cX6_meetingOf 49 = .ok (.dup, 1) := by decide +kernel
theorem dX6_meetingOf_50 : decode cX6_meetingOf 50 = .ok (.aload_n 3, 1) := by decide +kernel
theorem dX6_meetingOf_51 : decode cX6_meetingOf 51 = .ok (.aload 4, 2) := by decide +kernel
theorem dX6_meetingOf_53 : decode cX6_meetingOf 53 = .ok (.invokespecial 161, 3) := by decide +kernel
theorem dX6_meetingOf_56 : decode cX6_meetingOf 56 = .ok (.astore 6, 2) := by decide +kernel
theorem dX6_meetingOf_58 : decode cX6_meetingOf 58 = .ok (.aload_n 0, 1) := by decide +kernel
theorem dX6_meetingOf_59 : decode cX6_meetingOf 59 = .ok (.getfield 17, 3) := by decide +kernel
theorem dX6_meetingOf_62 : decode cX6_meetingOf 62 = .ok (.iload 5, 2) := by decide +kernel
theorem dX6_meetingOf_64 : decode cX6_meetingOf 64 = .ok (.aload 6, 2) := by decide +kernel
theorem dX6_meetingOf_66 : decode cX6_meetingOf 66 = .ok (.aastore, 1) := by decide +kernel
theorem dX6_meetingOf_67 : decode cX6_meetingOf 67 = .ok (.aload 6, 2) := by decide +kernel
theorem dX6_meetingOf_69 : decode cX6_meetingOf 69 = .ok (.aload_n 0, 1) := by decide +kernel
theorem dX6_meetingOf_70 : decode cX6_meetingOf 70 = .ok (.getfield 43, 3) := by decide +kernel
theorem dX6_meetingOf_73 : decode cX6_meetingOf 73 = .ok (.invokevirtual 164, 3) := by decide +kernel
theorem dX6_meetingOf_76 : decode cX6_meetingOf 76 = .ok (.ifCond .ne 16, 3) := by decide +kernel
theorem dX6_meetingOf_79 : decode cX6_meetingOf 79 = .ok (.aload 6, 2) := by decide +kernel
theorem dX6_meetingOf_81 : decode cX6_meetingOf 81 = .ok (.aload_n 0, 1) := by decide +kernel
theorem dX6_meetingOf_82 : decode cX6_meetingOf 82 = .ok (.getfield 31, 3) := by decide +kernel
theorem dX6_meetingOf_85 : decode cX6_meetingOf 85 = .ok (.aload_n 0, 1) := by decide +kernel
theorem dX6_meetingOf_86 : decode cX6_meetingOf 86 = .ok (.getfield 43, 3) := by decide +kernel
theorem dX6_meetingOf_89 : decode cX6_meetingOf 89 = .ok (.invokevirtual 167, 3) := by decide +kernel
theorem dX6_meetingOf_92 : decode cX6_meetingOf 92 = .ok (.aload 6, 2) := by decide +kernel
theorem dX6_meetingOf_94 : decode cX6_meetingOf 94 = .ok (.areturn, 1) := by decide +kernel
set_option maxRecDepth 20000 in
theorem ggX6_othersWithMarks_X6_freshBoard : GoodIn wsX6_othersWithMarks wsX6_freshBoard := goodIn_r _ [7, 8, 9, 10, 11, 12, 6, 13, 1, 14, 15, 16, 17, 18, 19, 20, 21, 22, 23, 24, 25, 26, 27, 28, 29, 30, 31, 32, 33, 34, 35, 36, 37, 38, 39, 40, 41, 42, 43, 44, 45, 46, 47, 48, 49, 50, 51, 52, 53, 54, 55, 56, 57, 58, 59, 60, 61, 62, 63, 64, 65, 66, 67, 68, 69, 70, 71, 72, 73, 74, 75, 76, 77, 78, 79, 80, 81, 82, 83, 84, 85, 86, 87, 88, 89, 90, 91, 92, 93, 94, 95, 96, 97, 106, 107, 108, 109, 110, 111, 112, 113, 114, 98, 99, 100, 101, 102, 103, 104, 105, 115, 116, 117, 118, 119, 120, 121, 122, 123, 124] (by decide +kernel) (by decide +kernel)
set_option maxRecDepth 20000 in
theorem gX6_othersWithMarks_X6_freshBoard : GoodIn wsX6_othersWithMarks (wsV RX6 67 RX6 yX6_freshBoard wsX6_freshBoard) := goodIn_app (goodIn_of _ (by decide +kernel)) ggX6_othersWithMarks_X6_freshBoard
theorem dX6_othersWithMarks_0 : decode cX6_othersWithMarks 0 = .ok (.iconst 0, 1) := by decide +kernel
theorem dX6_othersWithMarks_1 : decode cX6_othersWithMarks 1 = .ok (.istore_n 2, 1) := by decide +kernel
theorem dX6_othersWithMarks_2 : decode cX6_othersWithMarks 2 = .ok (.iconst 0, 1) := by decide +kernel
theorem dX6_othersWithMarks_3 : decode cX6_othersWithMarks 3 = .ok (.istore_n 3, 1) := by decide +kernel
theorem dX6_othersWithMarks_4 : decode cX6_othersWithMarks 4 = .ok (.iload_n 3, 1) := by decide +kernel
theorem dX6_othersWithMarks_5 : decode cX6_othersWithMarks 5 = .ok (.aload_n 0, 1) := by decide +kernel
theorem dX6_othersWithMarks_6 : decode cX6_othersWithMarks 6 = .ok (.getfield 39, 3) := by decide +kernel
theorem dX6_othersWithMarks_9 : decode cX6_othersWithMarks 9 = .ok (.if_icmp .ge 40, 3) := by decide +kernel
theorem dX6_othersWithMarks_12 : decode cX6_othersWithMarks 12 = .ok (.aload_n 0, 1) := by decide +kernel
theorem dX6_othersWithMarks_13 : decode cX6_othersWithMarks 13 = .ok (.iload_n 3, 1) := by decide +kernel
theorem dX6_othersWithMarks_14 : decode cX6_othersWithMarks 14 = .ok (.invokevirtual 67, 3) := by decide +kernel
theorem dX6_othersWithMarks_17 : decode cX6_othersWithMarks 17 = .ok (.astore 4, 2) := by decide +kernel
theorem dX6_othersWithMarks_19 : decode cX6_othersWithMarks 19 = .ok (.iload_n 3, 1) := by decide +kernel
theorem dX6_othersWithMarks_20 : decode cX6_othersWithMarks 20 = .ok (.iload_n 1, 1) := by decide +kernel
theorem dX6_othersWithMarks_21 : decode cX6_othersWithMarks 21 = .ok (.if_icmp .eq 22, 3) := by decide +kernel
theorem dX6_othersWithMarks_24 : decode cX6_othersWithMarks 24 = .ok (.aload 4, 2) := by decide +kernel
theorem dX6_othersWithMarks_26 : decode cX6_othersWithMarks 26 = .ok (.ifnull 17, 3) := by decide +kernel
theorem dX6_othersWithMarks_29 : decode cX6_othersWithMarks 29 = .ok (.aload 4, 2) := by decide +kernel
theorem dX6_othersWithMarks_31 : decode cX6_othersWithMarks 31 = .ok (.getfield 77, 3) := by decide +kernel
theorem dX6_othersWithMarks_34 : decode cX6_othersWithMarks 34 = .ok (.ifCond .le 9, 3) := by decide +kernel
theorem dX6_othersWithMarks_37 : decode cX6_othersWithMarks 37 = .ok (.iload_n 2, 1) := by decide +kernel
theorem dX6_othersWithMarks_38 : decode cX6_othersWithMarks 38 = .ok (.iconst 1, 1) := by decide +kernel
theorem dX6_othersWithMarks_39 : decode cX6_othersWithMarks 39 = .ok (.iload_n 3, 1) := by decide +kernel
theorem dX6_othersWithMarks_40 : decode cX6_othersWithMarks 40 = .ok (.ishl, 1) := by decide +kernel
theorem dX6_othersWithMarks_41 : decode cX6_othersWithMarks 41 = .ok (.ior, 1) := by decide +kernel
theorem dX6_othersWithMarks_42 : decode cX6_othersWithMarks 42 = .ok (.istore_n 2, 1) := by decide +kernel
theorem dX6_othersWithMarks_43 : decode cX6_othersWithMarks 43 = .ok (.iinc 3 1, 3) := by decide +kernel
theorem dX6_othersWithMarks_46 : decode cX6_othersWithMarks 46 = .ok (.goto (-42), 3) := by decide +kernel
theorem dX6_othersWithMarks_49 : decode cX6_othersWithMarks 49 = .ok (.iload_n 2, 1) := by decide +kernel
theorem dX6_othersWithMarks_50 : decode cX6_othersWithMarks 50 = .ok (.ireturn, 1) := by decide +kernel
set_option maxRecDepth 20000 in
theorem ggX6_nextToLookAt_X6_boardOf : GoodIn wsX6_nextToLookAt wsX6_boardOf := goodIn_r _ [6, 1, 7, 23, 24, 25, 26, 27, 28, 29, 30] (by decide +kernel) (by decide +kernel)
set_option maxRecDepth 20000 in
theorem gX6_nextToLookAt_X6_boardOf : GoodIn wsX6_nextToLookAt (wsV RX6 58 RX6 yX6_boardOf wsX6_boardOf) := goodIn_app (goodIn_of _ (by decide +kernel)) ggX6_nextToLookAt_X6_boardOf
set_option maxRecDepth 20000 in
theorem ggX6_nextToLookAt_X0_mostAgreeing : GoodIn wsX6_nextToLookAt wsX0_mostAgreeing := goodIn_r _ [12, 13, 14, 15, 16, 17, 18, 19, 20, 11, 21, 22, 31, 32, 33, 34, 35, 36, 37, 38, 39] (by decide +kernel) (by decide +kernel)
set_option maxRecDepth 20000 in
theorem gX6_nextToLookAt_X0_mostAgreeing : GoodIn wsX6_nextToLookAt (wsV RX6 123 RX0 yX0_mostAgreeing wsX0_mostAgreeing) := goodIn_app (goodIn_of _ (by decide +kernel)) ggX6_nextToLookAt_X0_mostAgreeing
theorem dX6_nextToLookAt_0 : decode cX6_nextToLookAt 0 = .ok (.iconst (-1), 1) := by decide +kernel
theorem dX6_nextToLookAt_1 : decode cX6_nextToLookAt 1 = .ok (.istore_n 3, 1) := by decide +kernel
theorem dX6_nextToLookAt_2 : decode cX6_nextToLookAt 2 = .ok (.iconst (-1), 1) := by decide +kernel
theorem dX6_nextToLookAt_3 : decode cX6_nextToLookAt 3 = .ok (.istore 4, 2) := by decide +kernel
theorem dX6_nextToLookAt_5 : decode cX6_nextToLookAt 5 = .ok (.iconst 0, 1) := by decide +kernel
theorem dX6_nextToLookAt_6 : decode cX6_nextToLookAt 6 = .ok (.istore 5, 2) := by decide +kernel
theorem dX6_nextToLookAt_8 : decode cX6_nextToLookAt 8 = .ok (.iload 5, 2) := by decide +kernel
theorem dX6_nextToLookAt_10 : decode cX6_nextToLookAt 10 = .ok (.aload_n 0, 1) := by decide +kernel
theorem dX6_nextToLookAt_11 : decode cX6_nextToLookAt 11 = .ok (.getfield 39, 3) := by decide +kernel
theorem dX6_nextToLookAt_14 : decode cX6_nextToLookAt 14 = .ok (.if_icmp .ge 73, 3) := by decide +kernel
theorem dX6_nextToLookAt_17 : decode cX6_nextToLookAt 17 = .ok (.iload_n 2, 1) := by decide +kernel
theorem dX6_nextToLookAt_18 : decode cX6_nextToLookAt 18 = .ok (.iload 5, 2) := by decide +kernel
theorem dX6_nextToLookAt_20 : decode cX6_nextToLookAt 20 = .ok (.iushr, 1) := by decide +kernel
theorem dX6_nextToLookAt_21 : decode cX6_nextToLookAt 21 = .ok (.iconst 1, 1) := by decide +kernel
theorem dX6_nextToLookAt_22 : decode cX6_nextToLookAt 22 = .ok (.iand, 1) := by decide +kernel
theorem dX6_nextToLookAt_23 : decode cX6_nextToLookAt 23 = .ok (.ifCond .eq 7, 3) := by decide +kernel
theorem dX6_nextToLookAt_26 : decode cX6_nextToLookAt 26 = .ok (.iconst 1, 1) := by decide +kernel
theorem dX6_nextToLookAt_27 : decode cX6_nextToLookAt 27 = .ok (.goto 4, 3) := by decide +kernel
theorem dX6_nextToLookAt_30 : decode cX6_nextToLookAt 30 = .ok (.iconst 0, 1) := by decide +kernel
theorem dX6_nextToLookAt_31 : decode cX6_nextToLookAt 31 = .ok (.istore 6, 2) := by decide +kernel
theorem dX6_nextToLookAt_33 : decode cX6_nextToLookAt 33 = .ok (.iload 6, 2) := by decide +kernel
theorem dX6_nextToLookAt_35 : decode cX6_nextToLookAt 35 = .ok (.ifCond .eq 12, 3) := by decide +kernel
theorem dX6_nextToLookAt_38 : decode cX6_nextToLookAt 38 = .ok (.aload_n 0, 1) := by decide +kernel
theorem dX6_nextToLookAt_39 : decode cX6_nextToLookAt 39 = .ok (.iload 5, 2) := by decide +kernel
theorem dX6_nextToLookAt_41 : decode cX6_nextToLookAt 41 = .ok (.invokevirtual 58, 3) := by decide +kernel
theorem dX6_nextToLookAt_44 : decode cX6_nextToLookAt 44 = .ok (.goto 4, 3) := by decide +kernel
theorem dX6_nextToLookAt_47 : decode cX6_nextToLookAt 47 = .ok (.aconst_null, 1) := by decide +kernel
theorem dX6_nextToLookAt_48 : decode cX6_nextToLookAt 48 = .ok (.astore 7, 2) := by decide +kernel
theorem dX6_nextToLookAt_50 : decode cX6_nextToLookAt 50 = .ok (.aload 7, 2) := by decide +kernel
theorem dX6_nextToLookAt_52 : decode cX6_nextToLookAt 52 = .ok (.ifnonnull 7, 3) := by decide +kernel
theorem dX6_nextToLookAt_55 : decode cX6_nextToLookAt 55 = .ok (.iconst (-1), 1) := by decide +kernel
theorem dX6_nextToLookAt_56 : decode cX6_nextToLookAt 56 = .ok (.goto 9, 3) := by decide +kernel
theorem dX6_nextToLookAt_59 : decode cX6_nextToLookAt 59 = .ok (.aload_n 1, 1) := by decide +kernel
theorem dX6_nextToLookAt_60 : decode cX6_nextToLookAt 60 = .ok (.aload 7, 2) := by decide +kernel
theorem dX6_nextToLookAt_62 : decode cX6_nextToLookAt 62 = .ok (.invokevirtual 123, 3) := by decide +kernel
theorem dX6_nextToLookAt_65 : decode cX6_nextToLookAt 65 = .ok (.istore 8, 2) := by decide +kernel
theorem dX6_nextToLookAt_67 : decode cX6_nextToLookAt 67 = .ok (.iload 8, 2) := by decide +kernel
theorem dX6_nextToLookAt_69 : decode cX6_nextToLookAt 69 = .ok (.iload 4, 2) := by decide +kernel
theorem dX6_nextToLookAt_71 : decode cX6_nextToLookAt 71 = .ok (.if_icmp .le 10, 3) := by decide +kernel
theorem dX6_nextToLookAt_74 : decode cX6_nextToLookAt 74 = .ok (.iload 5, 2) := by decide +kernel
theorem dX6_nextToLookAt_76 : decode cX6_nextToLookAt 76 = .ok (.istore_n 3, 1) := by decide +kernel
theorem dX6_nextToLookAt_77 : decode cX6_nextToLookAt 77 = .ok (.iload 8, 2) := by decide +kernel
theorem dX6_nextToLookAt_79 : decode cX6_nextToLookAt 79 = .ok (.istore 4, 2) := by decide +kernel
theorem dX6_nextToLookAt_81 : decode cX6_nextToLookAt 81 = .ok (.iinc 5 1, 3) := by decide +kernel
theorem dX6_nextToLookAt_84 : decode cX6_nextToLookAt 84 = .ok (.goto (-76), 3) := by decide +kernel
theorem dX6_nextToLookAt_87 : decode cX6_nextToLookAt 87 = .ok (.iload_n 3, 1) := by decide +kernel
theorem dX6_nextToLookAt_88 : decode cX6_nextToLookAt 88 = .ok (.ireturn, 1) := by decide +kernel
theorem dX6_isAhead_0 : decode cX6_isAhead 0 = .ok (.iload_n 0, 1) := by decide +kernel
theorem dX6_isAhead_1 : decode cX6_isAhead 1 = .ok (.iload_n 2, 1) := by decide +kernel
theorem dX6_isAhead_2 : decode cX6_isAhead 2 = .ok (.if_icmp .gt 13, 3) := by decide +kernel
theorem dX6_isAhead_5 : decode cX6_isAhead 5 = .ok (.iload_n 0, 1) := by decide +kernel
theorem dX6_isAhead_6 : decode cX6_isAhead 6 = .ok (.iload_n 2, 1) := by decide +kernel
theorem dX6_isAhead_7 : decode cX6_isAhead 7 = .ok (.if_icmp .ne 12, 3) := by decide +kernel
theorem dX6_isAhead_10 : decode cX6_isAhead 10 = .ok (.iload_n 1, 1) := by decide +kernel
theorem dX6_isAhead_11 : decode cX6_isAhead 11 = .ok (.iload_n 3, 1) := by decide +kernel
theorem dX6_isAhead_12 : decode cX6_isAhead 12 = .ok (.if_icmp .ge 7, 3) := by decide +kernel
theorem dX6_isAhead_15 : decode cX6_isAhead 15 = .ok (.iconst 1, 1) := by decide +kernel
theorem dX6_isAhead_16 : decode cX6_isAhead 16 = .ok (.goto 4, 3) := by decide +kernel
theorem dX6_isAhead_19 : decode cX6_isAhead 19 = .ok (.iconst 0, 1) := by decide +kernel
theorem dX6_isAhead_20 : decode cX6_isAhead 20 = .ok (.ireturn, 1) := by decide +kernel
theorem dX6_spreadWays_0 : decode cX6_spreadWays 0 = .ok (.iconst 0, 1) := by decide +kernel
theorem dX6_spreadWays_1 : decode cX6_spreadWays 1 = .ok (.istore_n 3, 1) := by decide +kernel
theorem dX6_spreadWays_2 : decode cX6_spreadWays 2 = .ok (.iload_n 3, 1) := by decide +kernel
theorem dX6_spreadWays_3 : decode cX6_spreadWays 3 = .ok (.bipush 12, 2) := by decide +kernel
theorem dX6_spreadWays_5 : decode cX6_spreadWays 5 = .ok (.if_icmp .gt 24, 3) := by decide +kernel
theorem dX6_spreadWays_8 : decode cX6_spreadWays 8 = .ok (.aload_n 0, 1) := by decide +kernel
theorem dX6_spreadWays_9 : decode cX6_spreadWays 9 = .ok (.getfield 35, 3) := by decide +kernel
theorem dX6_spreadWays_12 : decode cX6_spreadWays 12 = .ok (.iload_n 3, 1) := by decide +kernel
theorem dX6_spreadWays_13 : decode cX6_spreadWays 13 = .ok (.iload_n 3, 1) := by decide +kernel
theorem dX6_spreadWays_14 : decode cX6_spreadWays 14 = .ok (.ifCond .ne 7, 3) := by decide +kernel
theorem dX6_spreadWays_17 : decode cX6_spreadWays 17 = .ok (.lconst 1, 1) := by decide +kernel
theorem dX6_spreadWays_18 : decode cX6_spreadWays 18 = .ok (.goto 4, 3) := by decide +kernel
theorem dX6_spreadWays_21 : decode cX6_spreadWays 21 = .ok (.lconst 0, 1) := by decide +kernel
theorem dX6_spreadWays_22 : decode cX6_spreadWays 22 = .ok (.lastore, 1) := by decide +kernel
theorem dX6_spreadWays_23 : decode cX6_spreadWays 23 = .ok (.iinc 3 1, 3) := by decide +kernel
theorem dX6_spreadWays_26 : decode cX6_spreadWays 26 = .ok (.goto (-24), 3) := by decide +kernel
theorem dX6_spreadWays_29 : decode cX6_spreadWays 29 = .ok (.iconst 0, 1) := by decide +kernel
theorem dX6_spreadWays_30 : decode cX6_spreadWays 30 = .ok (.istore_n 3, 1) := by decide +kernel
theorem dX6_spreadWays_31 : decode cX6_spreadWays 31 = .ok (.iload_n 3, 1) := by decide +kernel
theorem dX6_spreadWays_32 : decode cX6_spreadWays 32 = .ok (.iload_n 1, 1) := by decide +kernel
theorem dX6_spreadWays_33 : decode cX6_spreadWays 33 = .ok (.if_icmp .ge 72, 3) := by decide +kernel
theorem dX6_spreadWays_36 : decode cX6_spreadWays 36 = .ok (.bipush 12, 2) := by decide +kernel
theorem dX6_spreadWays_38 : decode cX6_spreadWays 38 = .ok (.istore 4, 2) := by decide +kernel
theorem dX6_spreadWays_40 : decode cX6_spreadWays 40 = .ok (.iload 4, 2) := by decide +kernel
theorem dX6_spreadWays_42 : decode cX6_spreadWays 42 = .ok (.iconst 1, 1) := by decide +kernel
theorem dX6_spreadWays_43 : decode cX6_spreadWays 43 = .ok (.if_icmp .lt 42, 3) := by decide +kernel
theorem dX6_spreadWays_46 : decode cX6_spreadWays 46 = .ok (.aload_n 0, 1) := by decide +kernel
theorem dX6_spreadWays_47 : decode cX6_spreadWays 47 = .ok (.getfield 35, 3) := by decide +kernel
theorem dX6_spreadWays_50 : decode cX6_spreadWays 50 = .ok (.iload 4, 2) := by decide +kernel
theorem dX6_spreadWays_52 : decode cX6_spreadWays 52 = .ok (.aload_n 0, 1) := by decide +kernel
theorem dX6_spreadWays_53 : decode cX6_spreadWays 53 = .ok (.getfield 35, 3) := by decide +kernel
theorem dX6_spreadWays_56 : decode cX6_spreadWays 56 = .ok (.iload 4, 2) := by decide +kernel
theorem dX6_spreadWays_58 : decode cX6_spreadWays 58 = .ok (.laload, 1) := by decide +kernel
theorem dX6_spreadWays_59 : decode cX6_spreadWays 59 = .ok (.bipush 16, 2) := by decide +kernel
theorem dX6_spreadWays_61 : decode cX6_spreadWays 61 = .ok (.iload_n 2, 1) := by decide +kernel
theorem dX6_spreadWays_62 : decode cX6_spreadWays 62 = .ok (.isub, 1) := by decide +kernel
theorem dX6_spreadWays_63 : decode cX6_spreadWays 63 = .ok (.i2l, 1) := by decide +kernel
theorem dX6_spreadWays_64 : decode cX6_spreadWays 64 = .ok (.lmul, 1) := by decide +kernel
theorem dX6_spreadWays_65 : decode cX6_spreadWays 65 = .ok (.aload_n 0, 1) := by decide +kernel
theorem dX6_spreadWays_66 : decode cX6_spreadWays 66 = .ok (.getfield 35, 3) := by decide +kernel
theorem dX6_spreadWays_69 : decode cX6_spreadWays 69 = .ok (.iload 4, 2) := by decide +kernel
theorem dX6_spreadWays_71 : decode cX6_spreadWays 71 = .ok (.iconst 1, 1) := by decide +kernel
theorem dX6_spreadWays_72 : decode cX6_spreadWays 72 = .ok (.isub, 1) := by decide +kernel
theorem dX6_spreadWays_73 : decode cX6_spreadWays 73 = .ok (.laload, 1) := by decide +kernel
theorem dX6_spreadWays_74 : decode cX6_spreadWays 74 = .ok (.iload_n 2, 1) := by decide +kernel
theorem dX6_spreadWays_75 : decode cX6_spreadWays 75 = .ok (.i2l, 1) := by decide +kernel
theorem dX6_spreadWays_76 : decode cX6_spreadWays 76 = .ok (.lmul, 1) := by decide +kernel
theorem dX6_spreadWays_77 : decode cX6_spreadWays 77 = .ok (.ladd, 1) := by decide +kernel
theorem dX6_spreadWays_78 : decode cX6_spreadWays 78 = .ok (.lastore, 1) := by decide +kernel
theorem dX6_spreadWays_79 : decode cX6_spreadWays 79 = .ok (.iinc 4 (-1), 3) := by decide +kernel
theorem dX6_spreadWays_82 : decode cX6_spreadWays 82 = .ok (.goto (-42), 3) := by decide +kernel
theorem dX6_spreadWays_85 : decode cX6_spreadWays 85 = .ok (.aload_n 0, 1) := by decide +kernel
theorem dX6_spreadWays_86 : decode cX6_spreadWays 86 = .ok (.getfield 35, 3) := by decide +kernel
theorem dX6_spreadWays_89 : decode cX6_spreadWays 89 = .ok (.iconst 0, 1) := by decide +kernel
theorem dX6_spreadWays_90 : decode cX6_spreadWays 90 = .ok (.dup2, 1) := by decide +kernel
theorem dX6_spreadWays_91 : decode cX6_spreadWays 91 = .ok (.laload, 1) := by decide +kernel
theorem dX6_spreadWays_92 : decode cX6_spreadWays 92 = .ok (.bipush 16, 2) := by decide +kernel
theorem dX6_spreadWays_94 : decode cX6_spreadWays 94 = .ok (.iload_n 2, 1) := by decide +kernel
theorem dX6_spreadWays_95 : decode cX6_spreadWays 95 = .ok (.isub, 1) := by decide +kernel
theorem dX6_spreadWays_96 : decode cX6_spreadWays 96 = .ok (.i2l, 1) := by decide +kernel
theorem dX6_spreadWays_97 : decode cX6_spreadWays 97 = .ok (.lmul, 1) := by decide +kernel
theorem dX6_spreadWays_98 : decode cX6_spreadWays 98 = .ok (.lastore, 1) := by decide +kernel
theorem dX6_spreadWays_99 : decode cX6_spreadWays 99 = .ok (.iinc 3 1, 3) := by decide +kernel
theorem dX6_spreadWays_102 : decode cX6_spreadWays 102 = .ok (.goto (-71), 3) := by decide +kernel
theorem dX6_spreadWays_105 : decode cX6_spreadWays 105 = .ok (.return_, 1) := by decide +kernel
set_option maxRecDepth 20000 in
theorem ggX6_fullCells_X6_boardOf : GoodIn wsX6_fullCells wsX6_boardOf := goodIn_r _ [7, 1, 8, 16, 17, 18, 19, 20, 21, 22, 23] (by decide +kernel) (by decide +kernel)
set_option maxRecDepth 20000 in
theorem gX6_fullCells_X6_boardOf : GoodIn wsX6_fullCells (wsV RX6 58 RX6 yX6_boardOf wsX6_boardOf) := goodIn_app (goodIn_of _ (by decide +kernel)) ggX6_fullCells_X6_boardOf
set_option maxRecDepth 20000 in
theorem ggX6_fullCells_J6_bitCount_0f7a4 : GoodIn wsX6_fullCells wsJ6_bitCount_0f7a4 := goodIn_r _ [12, 13, 14, 15] (by decide +kernel) (by decide +kernel)
set_option maxRecDepth 20000 in
theorem gX6_fullCells_J6_bitCount_0f7a4 : GoodIn wsX6_fullCells (va_wsS RX6 171 yJ6_bitCount_0f7a4 wsJ6_bitCount_0f7a4) := goodIn_app (goodIn_of _ (by decide +kernel)) ggX6_fullCells_J6_bitCount_0f7a4
theorem dX6_fullCells_0 : decode cX6_fullCells 0 = .ok (.iconst 0, 1) := by decide +kernel
theorem dX6_fullCells_1 : decode cX6_fullCells 1 = .ok (.istore_n 1, 1) := by decide +kernel
theorem dX6_fullCells_2 : decode cX6_fullCells 2 = .ok (.iconst 0, 1) := by decide +kernel
theorem dX6_fullCells_3 : decode cX6_fullCells 3 = .ok (.istore_n 2, 1) := by decide +kernel
theorem dX6_fullCells_4 : decode cX6_fullCells 4 = .ok (.iload_n 2, 1) := by decide +kernel
theorem dX6_fullCells_5 : decode cX6_fullCells 5 = .ok (.aload_n 0, 1) := by decide +kernel
theorem dX6_fullCells_6 : decode cX6_fullCells 6 = .ok (.getfield 39, 3) := by decide +kernel
theorem dX6_fullCells_9 : decode cX6_fullCells 9 = .ok (.if_icmp .ge 48, 3) := by decide +kernel
theorem dX6_fullCells_12 : decode cX6_fullCells 12 = .ok (.aload_n 0, 1) := by decide +kernel
theorem dX6_fullCells_13 : decode cX6_fullCells 13 = .ok (.iload_n 2, 1) := by decide +kernel
theorem dX6_fullCells_14 : decode cX6_fullCells 14 = .ok (.invokevirtual 58, 3) := by decide +kernel
theorem dX6_fullCells_17 : decode cX6_fullCells 17 = .ok (.astore_n 3, 1) := by decide +kernel
theorem dX6_fullCells_18 : decode cX6_fullCells 18 = .ok (.iconst 0, 1) := by decide +kernel
theorem dX6_fullCells_19 : decode cX6_fullCells 19 = .ok (.istore 4, 2) := by decide +kernel
theorem dX6_fullCells_21 : decode cX6_fullCells 21 = .ok (.aload_n 3, 1) := by decide +kernel
theorem dX6_fullCells_22 : decode cX6_fullCells 22 = .ok (.ifnull 29, 3) := by decide +kernel
theorem dX6_fullCells_25 : decode cX6_fullCells 25 = .ok (.iload 4, 2) := by decide +kernel
theorem dX6_fullCells_27 : decode cX6_fullCells 27 = .ok (.bipush 24, 2) := by decide +kernel
theorem dX6_fullCells_29 : decode cX6_fullCells 29 = .ok (.if_icmp .ge 22, 3) := by decide +kernel
theorem dX6_fullCells_32 : decode cX6_fullCells 32 = .ok (.iload_n 1, 1) := by decide +kernel
theorem dX6_fullCells_33 : decode cX6_fullCells 33 = .ok (.aload_n 3, 1) := by decide +kernel
theorem dX6_fullCells_34 : decode cX6_fullCells 34 = .ok (.getfield 70, 3) := by decide +kernel
theorem dX6_fullCells_37 : decode cX6_fullCells 37 = .ok (.iload 4, 2) := by decide +kernel
theorem dX6_fullCells_39 : decode cX6_fullCells 39 = .ok (.iaload, 1) := by decide +kernel
theorem dX6_fullCells_40 : decode cX6_fullCells 40 = .ok (.invokestatic 171, 3) := by decide +kernel
theorem dX6_fullCells_43 : decode cX6_fullCells 43 = .ok (.iadd, 1) := by decide +kernel
theorem dX6_fullCells_44 : decode cX6_fullCells 44 = .ok (.istore_n 1, 1) := by decide +kernel
theorem dX6_fullCells_45 : decode cX6_fullCells 45 = .ok (.iinc 4 1, 3) := by decide +kernel
theorem dX6_fullCells_48 : decode cX6_fullCells 48 = .ok (.goto (-27), 3) := by decide +kernel
theorem dX6_fullCells_51 : decode cX6_fullCells 51 = .ok (.iinc 2 1, 3) := by decide +kernel
theorem dX6_fullCells_54 : decode cX6_fullCells 54 = .ok (.goto (-50), 3) := by decide +kernel
theorem dX6_fullCells_57 : decode cX6_fullCells 57 = .ok (.iload_n 1, 1) := by decide +kernel
theorem dX6_fullCells_58 : decode cX6_fullCells 58 = .ok (.ireturn, 1) := by decide +kernel
theorem dX7_init_0 : decode cX7_init 0 = .ok (.aload_n 0, 1) := by decide +kernel
theorem dX7_init_1 : decode cX7_init 1 = .ok (.invokespecial 1, 3) := by decide +kernel
theorem dX7_init_4 : decode cX7_init 4 = .ok (.aload_n 0, 1) := by decide +kernel
theorem dX7_init_5 : decode cX7_init 5 = .ok (.sipush 384, 3) := by decide +kernel
theorem dX7_init_8 : decode cX7_init 8 = .ok (.newarray .int, 2) := by decide +kernel
theorem dX7_init_10 : decode cX7_init 10 = .ok (.putfield 7, 3) := by decide +kernel
theorem dX7_init_13 : decode cX7_init 13 = .ok (.aload_n 0, 1) := by decide +kernel
theorem dX7_init_14 : decode cX7_init 14 = .ok (.iconst 1, 1) := by decide +kernel
theorem dX7_init_15 : decode cX7_init 15 = .ok (.putfield 13, 3) := by decide +kernel
theorem dX7_init_18 : decode cX7_init 18 = .ok (.aload_n 0, 1) := by decide +kernel
theorem dX7_init_19 : decode cX7_init 19 = .ok (.sipush 576, 3) := by decide +kernel
theorem dX7_init_22 : decode cX7_init 22 = .ok (.newarray .boolean, 2) := by decide +kernel
theorem dX7_init_24 : decode cX7_init 24 = .ok (.putfield 17, 3) := by decide +kernel
theorem dX7_init_27 : decode cX7_init 27 = .ok (.aload_n 0, 1) := by decide +kernel
theorem dX7_init_28 : decode cX7_init 28 = .ok (.sipush 576, 3) := by decide +kernel
theorem dX7_init_31 : decode cX7_init 31 = .ok (.newarray .boolean, 2) := by decide +kernel
theorem dX7_init_33 : decode cX7_init 33 = .ok (.putfield 21, 3) := by decide +kernel
theorem dX7_init_36 : decode cX7_init 36 = .ok (.aload_n 0, 1) := by decide +kernel
theorem dX7_init_37 : decode cX7_init 37 = .ok (.bipush 8, 2) := by decide +kernel
theorem dX7_init_39 : decode cX7_init 39 = .ok (.newarray .boolean, 2) := by decide +kernel
theorem dX7_init_41 : decode cX7_init 41 = .ok (.putfield 24, 3) := by decide +kernel
theorem dX7_init_44 : decode cX7_init 44 = .ok (.aload_n 0, 1) := by decide +kernel
theorem dX7_init_45 : decode cX7_init 45 = .ok (.bipush 16, 2) := by decide +kernel
theorem dX7_init_47 : decode cX7_init 47 = .ok (.newarray .int, 2) := by decide +kernel
theorem dX7_init_49 : decode cX7_init 49 = .ok (.putfield 27, 3) := by decide +kernel
theorem dX7_init_52 : decode cX7_init 52 = .ok (.aload_n 0, 1) := by decide +kernel
theorem dX7_init_53 : decode cX7_init 53 = .ok (.sipush 640, 3) := by decide +kernel
theorem dX7_init_56 : decode cX7_init 56 = .ok (.newarray .int, 2) := by decide +kernel
theorem dX7_init_58 : decode cX7_init 58 = .ok (.putfield 30, 3) := by decide +kernel
theorem dX7_init_61 : decode cX7_init 61 = .ok (.aload_n 0, 1) := by decide +kernel
theorem dX7_init_62 : decode cX7_init 62 = .ok (.sipush 640, 3) := by decide +kernel
theorem dX7_init_65 : decode cX7_init 65 = .ok (.newarray .int, 2) := by decide +kernel
theorem dX7_init_67 : decode cX7_init 67 = .ok (.putfield 33, 3) := by decide +kernel
theorem dX7_init_70 : decode cX7_init 70 = .ok (.aload_n 0, 1) := by decide +kernel
theorem dX7_init_71 : decode cX7_init 71 = .ok (.sipush 640, 3) := by decide +kernel
theorem dX7_init_74 : decode cX7_init 74 = .ok (.newarray .int, 2) := by decide +kernel
theorem dX7_init_76 : decode cX7_init 76 = .ok (.putfield 36, 3) := by decide +kernel
theorem dX7_init_79 : decode cX7_init 79 = .ok (.aload_n 0, 1) := by decide +kernel
theorem dX7_init_80 : decode cX7_init 80 = .ok (.sipush 1600, 3) := by decide +kernel
theorem dX7_init_83 : decode cX7_init 83 = .ok (.newarray .boolean, 2) := by decide +kernel
theorem dX7_init_85 : decode cX7_init 85 = .ok (.putfield 39, 3) := by decide +kernel
theorem dX7_init_88 : decode cX7_init 88 = .ok (.aload_n 0, 1) := by decide +kernel
theorem dX7_init_89 : decode cX7_init 89 = .ok (.bipush 40, 2) := by decide +kernel
theorem dX7_init_91 : decode cX7_init 91 = .ok (.newarray .int, 2) := by decide +kernel
theorem dX7_init_93 : decode cX7_init 93 = .ok (.putfield 42, 3) := by decide +kernel
theorem dX7_init_96 : decode cX7_init 96 = .ok (.aload_n 0, 1) := by decide +kernel
theorem dX7_init_97 : decode cX7_init 97 = .ok (.bipush 40, 2) := by decide +kernel
theorem dX7_init_99 : decode cX7_init 99 = .ok (.newarray .int, 2) := by decide +kernel
theorem dX7_init_101 : decode cX7_init 101 = .ok (.putfield 45, 3) := by decide +kernel
theorem dX7_init_104 : decode cX7_init 104 = .ok (.aload_n 0, 1) := by decide +kernel
theorem dX7_init_105 : decode cX7_init 105 = .ok (.bipush 41, 2) := by decide +kernel
theorem dX7_init_107 : decode cX7_init 107 = .ok (.newarray .int, 2) := by decide +kernel
theorem dX7_init_109 : decode cX7_init 109 = .ok (.putfield 48, 3) := by decide +kernel
theorem dX7_init_112 : decode cX7_init 112 = .ok (.aload_n 0, 1) := by decide +kernel
theorem dX7_init_113 : decode cX7_init 113 = .ok (.bipush 16, 2) := by decide +kernel
theorem dX7_init_115 : decode cX7_init 115 = .ok (.newarray .boolean, 2) := by decide +kernel
theorem dX7_init_117 : decode cX7_init 117 = .ok (.putfield 51, 3) := by decide +kernel
theorem dX7_init_120 : decode cX7_init 120 = .ok (.return_, 1) := by decide +kernel
theorem dX7_in_0 : decode cX7_in 0 = .ok (.lload_n 0, 1) := by decide +kernel
theorem dX7_in_1 : decode cX7_in 1 = .ok (.lload_n 2, 1) := by decide +kernel
theorem dX7_in_2 : decode cX7_in 2 = .ok (.lcmp, 1) := by decide +kernel
theorem dX7_in_3 : decode cX7_in 3 = .ok (.ifCond .lt 14, 3) := by decide +kernel
theorem dX7_in_6 : decode cX7_in 6 = .ok (.lload_n 0, 1) := by decide +kernel
theorem dX7_in_7 : decode cX7_in 7 = .ok (.lload 4, 2) := by decide +kernel
theorem dX7_in_9 : decode cX7_in 9 = .ok (.lcmp, 1) := by decide +kernel
theorem dX7_in_10 : decode cX7_in 10 = .ok (.ifCond .gt 7, 3) := by decide +kernel
theorem dX7_in_13 : decode cX7_in 13 = .ok (.iconst 1, 1) := by decide +kernel
theorem dX7_in_14 : decode cX7_in 14 = .ok (.goto 4, 3) := by decide +kernel
theorem dX7_in_17 : decode cX7_in 17 = .ok (.iconst 0, 1) := by decide +kernel
theorem dX7_in_18 : decode cX7_in 18 = .ok (.ireturn, 1) := by decide +kernel
theorem dX7_told_0 : decode cX7_told 0 = .ok (.aload_n 0, 1) := by decide +kernel
theorem dX7_told_1 : decode cX7_told 1 = .ok (.iload_n 1, 1) := by decide +kernel
theorem dX7_told_2 : decode cX7_told 2 = .ok (.ifCond .ge 7, 3) := by decide +kernel
theorem dX7_told_5 : decode cX7_told 5 = .ok (.iload_n 1, 1) := by decide +kernel
theorem dX7_told_6 : decode cX7_told 6 = .ok (.goto 4, 3) := by decide +kernel
theorem dX7_told_9 : decode cX7_told 9 = .ok (.iconst 0, 1) := by decide +kernel
theorem dX7_told_10 : decode cX7_told 10 = .ok (.putfield 57, 3) := by decide +kernel
theorem dX7_told_13 : decode cX7_told 13 = .ok (.iload_n 1, 1) := by decide +kernel
theorem dX7_told_14 : decode cX7_told 14 = .ok (.ireturn, 1) := by decide +kernel
set_option maxRecDepth 20000 in
theorem ggX7_isPrint_X7_in : GoodIn wsX7_isPrint wsX7_in := goodIn_r _ [5] (by decide +kernel) (by decide +kernel)
set_option maxRecDepth 20000 in
theorem gX7_isPrint_X7_in : GoodIn wsX7_isPrint (va_wsS RX7 63 yX7_in wsX7_in) := goodIn_app (goodIn_of _ (by decide +kernel)) ggX7_isPrint_X7_in
theorem dX7_isPrint_0 : decode cX7_isPrint 0 = .ok (.iload_n 1, 1) := by decide +kernel
theorem dX7_isPrint_1 : decode cX7_isPrint 1 = .ok (.i2l, 1) := by decide +kernel
theorem dX7_isPrint_2 : decode cX7_isPrint 2 = .ok (.lconst 0, 1) := by decide +kernel
theorem dX7_isPrint_3 : decode cX7_isPrint 3 = .ok (.aload_n 0, 1) := by decide +kernel
theorem dX7_isPrint_4 : decode cX7_isPrint 4 = .ok (.getfield 60, 3) := by decide +kernel
theorem dX7_isPrint_7 : decode cX7_isPrint 7 = .ok (.i2l, 1) := by decide +kernel
theorem dX7_isPrint_8 : decode cX7_isPrint 8 = .ok (.lconst 1, 1) := by decide +kernel
theorem dX7_isPrint_9 : decode cX7_isPrint 9 = .ok (.lsub, 1) := by decide +kernel
theorem dX7_isPrint_10 : decode cX7_isPrint 10 = .ok (.invokestatic 63, 3) := by decide +kernel
theorem dX7_isPrint_13 : decode cX7_isPrint 13 = .ok (.ireturn, 1) := by decide +kernel
set_option maxRecDepth 20000 in
theorem ggX7_isPlace_X7_in : GoodIn wsX7_isPlace wsX7_in := goodIn_r _ [5] (by decide +kernel) (by decide +kernel)
set_option maxRecDepth 20000 in
theorem gX7_isPlace_X7_in : GoodIn wsX7_isPlace (va_wsS RX7 63 yX7_in wsX7_in) := goodIn_app (goodIn_of _ (by decide +kernel)) ggX7_isPlace_X7_in
theorem dX7_isPlace_0 : decode cX7_isPlace 0 = .ok (.iload_n 0, 1) := by decide +kernel
theorem dX7_isPlace_1 : decode cX7_isPlace 1 = .ok (.i2l, 1) := by decide +kernel
theorem dX7_isPlace_2 : decode cX7_isPlace 2 = .ok (.lconst 0, 1) := by decide +kernel
theorem dX7_isPlace_3 : decode cX7_isPlace 3 = .ok (.ldc2_w 67, 3) := by decide +kernel
theorem dX7_isPlace_6 : decode cX7_isPlace 6 = .ok (.invokestatic 63, 3) := by decide +kernel
theorem dX7_isPlace_9 : decode cX7_isPlace 9 = .ok (.ireturn, 1) := by decide +kernel
set_option maxRecDepth 20000 in
theorem ggX7_print_X7_told : GoodIn wsX7_print wsX7_told := goodIn_r _ [7, 8, 9, 10, 11, 12, 13, 14, 15, 16, 17, 18, 19, 20, 21, 22, 23, 24, 25, 26, 27, 28, 29] (by decide +kernel) (by decide +kernel)
set_option maxRecDepth 20000 in
theorem gX7_print_X7_told : GoodIn wsX7_print (wsV RX7 69 RX7 yX7_told wsX7_told) := goodIn_app (goodIn_of _ (by decide +kernel)) ggX7_print_X7_told
theorem dX7_print_0 : decode cX7_print 0 = .ok (.aload_n 0, 1) := by decide +kernel
theorem dX7_print_1 : decode cX7_print 1 = .ok (.iconst 0, 1) := by decide +kernel
theorem dX7_print_2 : decode cX7_print 2 = .ok (.putfield 54, 3) := by decide +kernel
theorem dX7_print_5 : decode cX7_print 5 = .ok (.aload_n 0, 1) := by decide +kernel
theorem dX7_print_6 : decode cX7_print 6 = .ok (.getfield 60, 3) := by decide +kernel
theorem dX7_print_9 : decode cX7_print 9 = .ok (.bipush 16, 2) := by decide +kernel
theorem dX7_print_11 : decode cX7_print 11 = .ok (.if_icmp .ne 10, 3) := by decide +kernel
theorem dX7_print_14 : decode cX7_print 14 = .ok (.aload_n 0, 1) := by decide +kernel
theorem dX7_print_15 : decode cX7_print 15 = .ok (.bipush (-5), 2) := by decide +kernel
theorem dX7_print_17 : decode cX7_print 17 = .ok (.invokevirtual 69, 3) := by decide +kernel
theorem dX7_print_20 : decode cX7_print 20 = .ok (.ireturn, 1) := by decide +kernel
theorem dX7_print_21 : decode cX7_print 21 = .ok (.aload_n 0, 1) := by decide +kernel
theorem dX7_print_22 : decode cX7_print 22 = .ok (.dup, 1) := by decide +kernel
theorem dX7_print_23 : decode cX7_print 23 = .ok (.getfield 60, 3) := by decide +kernel
theorem dX7_print_26 : decode cX7_print 26 = .ok (.iconst 1, 1) := by decide +kernel
theorem dX7_print_27 : decode cX7_print 27 = .ok (.iadd, 1) := by decide +kernel
theorem dX7_print_28 : decode cX7_print 28 = .ok (.putfield 60, 3) := by decide +kernel
theorem dX7_print_31 : decode cX7_print 31 = .ok (.aload_n 0, 1) := by decide +kernel
theorem dX7_print_32 : decode cX7_print 32 = .ok (.aload_n 0, 1) := by decide +kernel
theorem dX7_print_33 : decode cX7_print 33 = .ok (.getfield 60, 3) := by decide +kernel
theorem dX7_print_36 : decode cX7_print 36 = .ok (.iconst 1, 1) := by decide +kernel
theorem dX7_print_37 : decode cX7_print 37 = .ok (.isub, 1) := by decide +kernel
theorem dX7_print_38 : decode cX7_print 38 = .ok (.invokevirtual 69, 3) := by decide +kernel
theorem dX7_print_41 : decode cX7_print 41 = .ok (.ireturn, 1) := by decide +kernel
set_option maxRecDepth 20000 in
theorem ggX7_row_X7_isPlace : GoodIn wsX7_row wsX7_isPlace := goodIn_r _ [7, 8, 9, 10, 6, 11] (by decide +kernel) (by decide +kernel)
set_option maxRecDepth 20000 in
theorem gX7_row_X7_isPlace : GoodIn wsX7_row (va_wsS RX7 73 yX7_isPlace wsX7_isPlace) := goodIn_app (goodIn_of _ (by decide +kernel)) ggX7_row_X7_isPlace
set_option maxRecDepth 20000 in
theorem ggX7_row_X7_told : GoodIn wsX7_row wsX7_told := goodIn_r _ [15, 16, 22, 23, 24, 25, 26, 27, 28, 29, 30, 31, 32, 33, 34, 35, 36, 37, 38, 39, 40, 41, 42] (by decide +kernel) (by decide +kernel)
set_option maxRecDepth 20000 in
theorem gX7_row_X7_told : GoodIn wsX7_row (wsV RX7 69 RX7 yX7_told wsX7_told) := goodIn_app (goodIn_of _ (by decide +kernel)) ggX7_row_X7_told
set_option maxRecDepth 20000 in
theorem ggX7_row_X7_isPrint : GoodIn wsX7_row wsX7_isPrint := goodIn_r _ [20, 21, 9, 10, 6, 11, 22, 23, 24, 25, 26, 27, 28, 29, 30, 31, 32, 33, 34, 35, 36, 37, 38, 39, 40, 41, 42] (by decide +kernel) (by decide +kernel)
set_option maxRecDepth 20000 in
theorem gX7_row_X7_isPrint : GoodIn wsX7_row (wsV RX7 77 RX7 yX7_isPrint wsX7_isPrint) := goodIn_app (goodIn_of _ (by decide +kernel)) ggX7_row_X7_isPrint
theorem dX7_row_0 : decode cX7_row 0 = .ok (.aload_n 0, 1) := by decide +kernel
theorem dX7_row_1 : decode cX7_row 1 = .ok (.iconst 0, 1) := by decide +kernel
theorem dX7_row_2 : decode cX7_row 2 = .ok (.putfield 54, 3) := by decide +kernel
theorem dX7_row_5 : decode cX7_row 5 = .ok (.iload_n 2, 1) := by decide +kernel
theorem dX7_row_6 : decode cX7_row 6 = .ok (.invokestatic 73, 3) := by decide +kernel
theorem dX7_row_9 : decode cX7_row 9 = .ok (.ifCond .ne 9, 3) := by decide +kernel
theorem dX7_row_12 : decode cX7_row 12 = .ok (.aload_n 0, 1) := by decide +kernel
theorem dX7_row_13 : decode cX7_row 13 = .ok (.iconst (-1), 1) := by decide +kernel
theorem dX7_row_14 : decode cX7_row 14 = .ok (.invokevirtual 69, 3) := by decide +kernel
theorem dX7_row_17 : decode cX7_row 17 = .ok (.ireturn, 1) := by decide +kernel
theorem dX7_row_18 : decode cX7_row 18 = .ok (.aload_n 0, 1) := by decide +kernel
theorem dX7_row_19 : decode cX7_row 19 = .ok (.iload_n 1, 1) := by decide +kernel
theorem dX7_row_20 : decode cX7_row 20 = .ok (.invokevirtual 77, 3) := by decide +kernel
theorem dX7_row_23 : decode cX7_row 23 = .ok (.ifCond .ne 10, 3) := by decide +kernel
theorem dX7_row_26 : decode cX7_row 26 = .ok (.aload_n 0, 1) := by decide +kernel
theorem dX7_row_27 : decode cX7_row 27 = .ok (.bipush (-2), 2) := by decide +kernel
theorem dX7_row_29 : decode cX7_row 29 = .ok (.invokevirtual 69, 3) := by decide +kernel
theorem dX7_row_32 : decode cX7_row 32 = .ok (.ireturn, 1) := by decide +kernel
theorem dX7_row_33 : decode cX7_row 33 = .ok (.aload_n 0, 1) := by decide +kernel
theorem dX7_row_34 : decode cX7_row 34 = .ok (.getfield 7, 3) := by decide +kernel
theorem dX7_row_37 : decode cX7_row 37 = .ok (.bipush 24, 2) := by decide +kernel
theorem dX7_row_39 : decode cX7_row 39 = .ok (.iload_n 1, 1) := by decide +kernel
theorem dX7_row_40 : decode cX7_row 40 = .ok (.imul, 1) := by decide +kernel
theorem dX7_row_41 : decode cX7_row 41 = .ok (.iload_n 2, 1) := by decide +kernel
theorem dX7_row_42 : decode cX7_row 42 = .ok (.iadd, 1) := by decide +kernel
theorem dX7_row_43 : decode cX7_row 43 = .ok (.iload_n 3, 1) := by decide +kernel
theorem dX7_row_44 : decode cX7_row 44 = .ok (.ldc 80, 2) := by decide +kernel
theorem dX7_row_46 : decode cX7_row 46 = .ok (.iand, 1) := by decide +kernel
theorem dX7_row_47 : decode cX7_row 47 = .ok (.iastore, 1) := by decide +kernel
theorem dX7_row_48 : decode cX7_row 48 = .ok (.aload_n 0, 1) := by decide +kernel
theorem dX7_row_49 : decode cX7_row 49 = .ok (.iconst 0, 1) := by decide +kernel
theorem dX7_row_50 : decode cX7_row 50 = .ok (.invokevirtual 69, 3) := by decide +kernel
theorem dX7_row_53 : decode cX7_row 53 = .ok (.ireturn, 1) := by decide +kernel
theorem dX7_stepX_0 : decode cX7_stepX 0 = .ok (.iload_n 0, 1) := by decide +kernel
theorem dX7_stepX_1 : decode cX7_stepX 1 = .ok (.ifCond .eq 14, 3) := by decide +kernel
theorem dX7_stepX_4 : decode cX7_stepX 4 = .ok (.iload_n 0, 1) := by decide +kernel
theorem dX7_stepX_5 : decode cX7_stepX 5 = .ok (.iconst 1, 1) := by decide +kernel
theorem dX7_stepX_6 : decode cX7_stepX 6 = .ok (.if_icmp .eq 9, 3) := by decide +kernel
theorem dX7_stepX_9 : decode cX7_stepX 9 = .ok (.iload_n 0, 1) := by decide +kernel
theorem dX7_stepX_10 : decode cX7_stepX 10 = .ok (.bipush 7, 2) := by decide +kernel
theorem dX7_stepX_12 : decode cX7_stepX 12 = .ok (.if_icmp .ne 7, 3) := by decide +kernel
theorem dX7_stepX_15 : decode cX7_stepX 15 = .ok (.iconst 1, 1) := by decide +kernel
theorem dX7_stepX_16 : decode cX7_stepX 16 = .ok (.goto 19, 3) := by decide +kernel
theorem dX7_stepX_19 : decode cX7_stepX 19 = .ok (.iload_n 0, 1) := by decide +kernel
theorem dX7_stepX_20 : decode cX7_stepX 20 = .ok (.iconst 2, 1) := by decide +kernel
theorem dX7_stepX_21 : decode cX7_stepX 21 = .ok (.if_icmp .eq 9, 3) := by decide +kernel
theorem dX7_stepX_24 : decode cX7_stepX 24 = .ok (.iload_n 0, 1) := by decide +kernel
theorem dX7_stepX_25 : decode cX7_stepX 25 = .ok (.bipush 6, 2) := by decide +kernel
theorem dX7_stepX_27 : decode cX7_stepX 27 = .ok (.if_icmp .ne 7, 3) := by decide +kernel
theorem dX7_stepX_30 : decode cX7_stepX 30 = .ok (.iconst 0, 1) := by decide +kernel
theorem dX7_stepX_31 : decode cX7_stepX 31 = .ok (.goto 4, 3) := by decide +kernel
theorem dX7_stepX_34 : decode cX7_stepX 34 = .ok (.iconst (-1), 1) := by decide +kernel
theorem dX7_stepX_35 : decode cX7_stepX 35 = .ok (.ireturn, 1) := by decide +kernel
theorem dX7_stepY_0 : decode cX7_stepY 0 = .ok (.iload_n 0, 1) := by decide +kernel
theorem dX7_stepY_1 : decode cX7_stepY 1 = .ok (.iconst 1, 1) := by decide +kernel
theorem dX7_stepY_2 : decode cX7_stepY 2 = .ok (.if_icmp .lt 12, 3) := by decide +kernel
theorem dX7_stepY_5 : decode cX7_stepY 5 = .ok (.iload_n 0, 1) := by decide +kernel
theorem dX7_stepY_6 : decode cX7_stepY 6 = .ok (.iconst 3, 1) := by decide +kernel
theorem dX7_stepY_7 : decode cX7_stepY 7 = .ok (.if_icmp .gt 7, 3) := by decide +kernel
theorem dX7_stepY_10 : decode cX7_stepY 10 = .ok (.iconst 1, 1) := by decide +kernel
theorem dX7_stepY_11 : decode cX7_stepY 11 = .ok (.goto 17, 3) := by decide +kernel
theorem dX7_stepY_14 : decode cX7_stepY 14 = .ok (.iload_n 0, 1) := by decide +kernel
theorem dX7_stepY_15 : decode cX7_stepY 15 = .ok (.ifCond .eq 8, 3) := by decide +kernel
theorem dX7_stepY_18 : decode cX7_stepY 18 = .ok (.iload_n 0, 1) := by decide +kernel
theorem dX7_stepY_19 : decode cX7_stepY 19 = .ok (.iconst 4, 1) := by decide +kernel
theorem dX7_stepY_20 : decode cX7_stepY 20 = .ok (.if_icmp .ne 7, 3) := by decide +kernel
theorem dX7_stepY_23 : decode cX7_stepY 23 = .ok (.iconst 0, 1) := by decide +kernel
theorem dX7_stepY_24 : decode cX7_stepY 24 = .ok (.goto 4, 3) := by decide +kernel
theorem dX7_stepY_27 : decode cX7_stepY 27 = .ok (.iconst (-1), 1) := by decide +kernel
theorem dX7_stepY_28 : decode cX7_stepY 28 = .ok (.ireturn, 1) := by decide +kernel
set_option maxRecDepth 20000 in
theorem ggX7_look_X7_stepX : GoodIn wsX7_look wsX7_stepX := goodIn_r _ [6] (by decide +kernel) (by decide +kernel)
set_option maxRecDepth 20000 in
theorem gX7_look_X7_stepX : GoodIn wsX7_look (va_wsS RX7 81 yX7_stepX wsX7_stepX) := goodIn_app (goodIn_of _ (by decide +kernel)) ggX7_look_X7_stepX
set_option maxRecDepth 20000 in
theorem ggX7_look_X7_stepY : GoodIn wsX7_look wsX7_stepY := goodIn_r _ [9] (by decide +kernel) (by decide +kernel)
set_option maxRecDepth 20000 in
theorem gX7_look_X7_stepY : GoodIn wsX7_look (va_wsS RX7 84 yX7_stepY wsX7_stepY) := goodIn_app (goodIn_of _ (by decide +kernel)) ggX7_look_X7_stepY
set_option maxRecDepth 20000 in
theorem ggX7_look_X7_isPlace : GoodIn wsX7_look wsX7_isPlace := goodIn_r _ [12, 13, 14, 15, 5, 16] (by decide +kernel) (by decide +kernel)
set_option maxRecDepth 20000 in
theorem gX7_look_X7_isPlace : GoodIn wsX7_look (va_wsS RX7 73 yX7_isPlace wsX7_isPlace) := goodIn_app (goodIn_of _ (by decide +kernel)) ggX7_look_X7_isPlace
theorem dX7_look_0 : decode cX7_look 0 = .ok (.iconst 0, 1) := by decide +kernel
theorem dX7_look_1 : decode cX7_look 1 = .ok (.istore_n 3, 1) := by decide +kernel
theorem dX7_look_2 : decode cX7_look 2 = .ok (.iconst 0, 1) := by decide +kernel
theorem dX7_look_3 : decode cX7_look 3 = .ok (.istore 4, 2) := by decide +kernel
theorem dX7_look_5 : decode cX7_look 5 = .ok (.iload 4, 2) := by decide +kernel
theorem dX7_look_7 : decode cX7_look 7 = .ok (.bipush 8, 2) := by decide +kernel
theorem dX7_look_9 : decode cX7_look 9 = .ok (.if_icmp .ge 89, 3) := by decide +kernel
theorem dX7_look_12 : decode cX7_look 12 = .ok (.iload_n 1, 1) := by decide +kernel
theorem dX7_look_13 : decode cX7_look 13 = .ok (.iload 4, 2) := by decide +kernel
theorem dX7_look_15 : decode cX7_look 15 = .ok (.invokestatic 81, 3) := by decide +kernel
theorem dX7_look_18 : decode cX7_look 18 = .ok (.iadd, 1) := by decide +kernel
theorem dX7_look_19 : decode cX7_look 19 = .ok (.istore 5, 2) := by decide +kernel
theorem dX7_look_21 : decode cX7_look 21 = .ok (.iload_n 2, 1) := by decide +kernel
theorem dX7_look_22 : decode cX7_look 22 = .ok (.iload 4, 2) := by decide +kernel
theorem dX7_look_24 : decode cX7_look 24 = .ok (.invokestatic 84, 3) := by decide +kernel
theorem dX7_look_27 : decode cX7_look 27 = .ok (.iadd, 1) := by decide +kernel
theorem dX7_look_28 : decode cX7_look 28 = .ok (.istore 6, 2) := by decide +kernel
theorem dX7_look_30 : decode cX7_look 30 = .ok (.aload_n 0, 1) := by decide +kernel
theorem dX7_look_31 : decode cX7_look 31 = .ok (.getfield 24, 3) := by decide +kernel
theorem dX7_look_34 : decode cX7_look 34 = .ok (.iload 4, 2) := by decide +kernel
theorem dX7_look_36 : decode cX7_look 36 = .ok (.iload 5, 2) := by decide +kernel
theorem dX7_look_38 : decode cX7_look 38 = .ok (.invokestatic 73, 3) := by decide +kernel
theorem dX7_look_41 : decode cX7_look 41 = .ok (.ifCond .eq 31, 3) := by decide +kernel
theorem dX7_look_44 : decode cX7_look 44 = .ok (.iload 6, 2) := by decide +kernel
theorem dX7_look_46 : decode cX7_look 46 = .ok (.invokestatic 73, 3) := by decide +kernel
theorem dX7_look_49 : decode cX7_look 49 = .ok (.ifCond .eq 23, 3) := by decide +kernel
theorem dX7_look_52 : decode cX7_look 52 = .ok (.aload_n 0, 1) := by decide +kernel
theorem dX7_look_53 : decode cX7_look 53 = .ok (.getfield 17, 3) := by decide +kernel
theorem dX7_look_56 : decode cX7_look 56 = .ok (.bipush 24, 2) := by decide +kernel
theorem dX7_look_58 : decode cX7_look 58 = .ok (.iload 6, 2) := by decide +kernel
theorem dX7_look_60 : decode cX7_look 60 = .ok (.imul, 1) := by decide +kernel
theorem dX7_look_61 : decode cX7_look 61 = .ok (.iload 5, 2) := by decide +kernel
theorem dX7_look_63 : decode cX7_look 63 = .ok (.iadd, 1) := by decide +kernel
theorem dX7_look_64 : decode cX7_look 64 = .ok (.baload, 1) := by decide +kernel
theorem dX7_look_65 : decode cX7_look 65 = .ok (.ifCond .eq 7, 3) := by decide +kernel
theorem dX7_look_68 : decode cX7_look 68 = .ok (.iconst 1, 1) := by decide +kernel
theorem dX7_look_69 : decode cX7_look 69 = .ok (.goto 4, 3) := by decide +kernel
theorem dX7_look_72 : decode cX7_look 72 = .ok (.iconst 0, 1) := by decide +kernel
theorem dX7_look_73 : decode cX7_look 73 = .ok (.bastore, 1) := by decide +kernel
theorem dX7_look_74 : decode cX7_look 74 = .ok (.iload_n 3, 1) := by decide +kernel
theorem dX7_look_75 : decode cX7_look 75 = .ok (.aload_n 0, 1) := by decide +kernel
theorem dX7_look_76 : decode cX7_look 76 = .ok (.getfield 24, 3) := by decide +kernel
theorem dX7_look_79 : decode cX7_look 79 = .ok (.iload 4, 2) := by decide +kernel
theorem dX7_look_81 : decode cX7_look 81 = .ok (.baload, 1) := by decide +kernel
theorem dX7_look_82 : decode cX7_look 82 = .ok (.ifCond .eq 7, 3) := by decide +kernel
theorem dX7_look_85 : decode cX7_look 85 = .ok (.iconst 1, 1) := by decide +kernel
theorem dX7_look_86 : decode cX7_look 86 = .ok (.goto 4, 3) := by decide +kernel
theorem dX7_look_89 : decode cX7_look 89 = .ok (.iconst 0, 1) := by decide +kernel
theorem dX7_look_90 : decode cX7_look 90 = .ok (.iadd, 1) := by decide +kernel
theorem dX7_look_91 : decode cX7_look 91 = .ok (.istore_n 3, 1) := by decide +kernel
theorem dX7_look_92 : decode cX7_look 92 = .ok (.iinc 4 1, 3) := by decide +kernel
theorem dX7_look_95 : decode cX7_look 95 = .ok (.goto (-90), 3) := by decide +kernel
theorem dX7_look_98 : decode cX7_look 98 = .ok (.iload_n 3, 1) := by decide +kernel
theorem dX7_look_99 : decode cX7_look 99 = .ok (.ireturn, 1) := by decide +kernel
theorem dX7_changes_0 : decode cX7_changes 0 = .ok (.iconst 0, 1) := by decide +kernel
theorem dX7_changes_1 : decode cX7_changes 1 = .ok (.istore_n 1, 1) := by decide +kernel
theorem dX7_changes_2 : decode cX7_changes 2 = .ok (.iconst 0, 1) := by decide +kernel
theorem dX7_changes_3 : decode cX7_changes 3 = .ok (.istore_n 2, 1) := by decide +kernel
theorem dX7_changes_4 : decode cX7_changes 4 = .ok (.iload_n 2, 1) := by decide +kernel
theorem dX7_changes_5 : decode cX7_changes 5 = .ok (.bipush 8, 2) := by decide +kernel
theorem dX7_changes_7 : decode cX7_changes 7 = .ok (.if_icmp .ge 40, 3) := by decide +kernel
theorem dX7_changes_10 : decode cX7_changes 10 = .ok (.iload_n 1, 1) := by decide +kernel
theorem dX7_changes_11 : decode cX7_changes 11 = .ok (.aload_n 0, 1) := by decide +kernel
theorem dX7_changes_12 : decode cX7_changes 12 = .ok (.getfield 24, 3) := by decide +kernel
theorem dX7_changes_15 : decode cX7_changes 15 = .ok (.iload_n 2, 1) := by decide +kernel
theorem dX7_changes_16 : decode cX7_changes 16 = .ok (.baload, 1) := by decide +kernel
theorem dX7_changes_17 : decode cX7_changes 17 = .ok (.ifCond .ne 21, 3) := by decide +kernel
theorem dX7_changes_20 : decode cX7_changes 20 = .ok (.aload_n 0, 1) := by decide +kernel
theorem dX7_changes_21 : decode cX7_changes 21 = .ok (.getfield 24, 3) := by decide +kernel
theorem dX7_changes_24 : decode cX7_changes 24 = .ok (.iload_n 2, 1) := by decide +kernel
theorem dX7_changes_25 : decode cX7_changes 25 = .ok (.iconst 1, 1) := by decide +kernel
theorem dX7_changes_26 : decode cX7_changes 26 = .ok (.iadd, 1) := by decide +kernel
theorem dX7_changes_27 : decode cX7_changes 27 = .ok (.bipush 8, 2) := by decide +kernel
theorem dX7_changes_29 : decode cX7_changes 29 = .ok (.irem, 1) := by decide +kernel
theorem dX7_changes_30 : decode cX7_changes 30 = .ok (.baload, 1) := by decide +kernel
theorem dX7_changes_31 : decode cX7_changes 31 = .ok (.ifCond .eq 7, 3) := by decide +kernel
theorem dX7_changes_34 : decode cX7_changes 34 = .ok (.iconst 1, 1) := by decide +kernel
theorem dX7_changes_35 : decode cX7_changes 35 = .ok (.goto 4, 3) := by decide +kernel
theorem dX7_changes_38 : decode cX7_changes 38 = .ok (.iconst 0, 1) := by decide +kernel
theorem dX7_changes_39 : decode cX7_changes 39 = .ok (.iadd, 1) := by decide +kernel
theorem dX7_changes_40 : decode cX7_changes 40 = .ok (.istore_n 1, 1) := by decide +kernel
theorem dX7_changes_41 : decode cX7_changes 41 = .ok (.iinc 2 1, 3) := by decide +kernel
theorem dX7_changes_44 : decode cX7_changes 44 = .ok (.goto (-40), 3) := by decide +kernel
theorem dX7_changes_47 : decode cX7_changes 47 = .ok (.iload_n 1, 1) := by decide +kernel
theorem dX7_changes_48 : decode cX7_changes 48 = .ok (.ireturn, 1) := by decide +kernel
set_option maxRecDepth 20000 in
theorem ggX7_pass_X7_look : GoodIn wsX7_pass wsX7_look := goodIn_r _ [8, 1, 3, 9, 10, 7, 11, 12, 13, 14, 15, 16, 17, 18, 19, 20, 21, 26, 27, 28, 29, 30, 31, 32, 33, 34, 35, 36, 37, 38, 39, 40, 41, 42, 43, 44, 45, 46] (by decide +kernel) (by decide +kernel)
set_option maxRecDepth 20000 in
theorem gX7_pass_X7_look : GoodIn wsX7_pass (wsV RX7 87 RX7 yX7_look wsX7_look) := goodIn_app (goodIn_of _ (by decide +kernel)) ggX7_pass_X7_look
set_option maxRecDepth 20000 in
theorem ggX7_pass_X7_changes : GoodIn wsX7_pass wsX7_changes := goodIn_r _ [25, 1, 26, 27, 28, 29, 30, 31, 32, 33, 34, 35, 36, 37, 38, 39, 40, 41, 42, 43, 44, 45, 46] (by decide +kernel) (by decide +kernel)
set_option maxRecDepth 20000 in
theorem gX7_pass_X7_changes : GoodIn wsX7_pass (wsV RX7 91 RX7 yX7_changes wsX7_changes) := goodIn_app (goodIn_of _ (by decide +kernel)) ggX7_pass_X7_changes
theorem dX7_pass_0 : decode cX7_pass 0 = .ok (.iconst 0, 1) := by decide +kernel
theorem dX7_pass_1 : decode cX7_pass 1 = .ok (.istore_n 2, 1) := by decide +kernel
theorem dX7_pass_2 : decode cX7_pass 2 = .ok (.iconst 0, 1) := by decide +kernel
theorem dX7_pass_3 : decode cX7_pass 3 = .ok (.istore_n 3, 1) := by decide +kernel
theorem dX7_pass_4 : decode cX7_pass 4 = .ok (.iload_n 3, 1) := by decide +kernel
theorem dX7_pass_5 : decode cX7_pass 5 = .ok (.sipush 576, 3) := by decide +kernel
theorem dX7_pass_8 : decode cX7_pass 8 = .ok (.if_icmp .ge 200, 3) := by decide +kernel
theorem dX7_pass_11 : decode cX7_pass 11 = .ok (.aload_n 0, 1) := by decide +kernel
theorem dX7_pass_12 : decode cX7_pass 12 = .ok (.iload_n 3, 1) := by decide +kernel
theorem dX7_pass_13 : decode cX7_pass 13 = .ok (.bipush 24, 2) := by decide +kernel
theorem dX7_pass_15 : decode cX7_pass 15 = .ok (.irem, 1) := by decide +kernel
theorem dX7_pass_16 : decode cX7_pass 16 = .ok (.iload_n 3, 1) := by decide +kernel
theorem dX7_pass_17 : decode cX7_pass 17 = .ok (.bipush 24, 2) := by decide +kernel
theorem dX7_pass_19 : decode cX7_pass 19 = .ok (.idiv, 1) := by decide +kernel
theorem dX7_pass_20 : decode cX7_pass 20 = .ok (.invokevirtual 87, 3) := by decide +kernel
theorem dX7_pass_23 : decode cX7_pass 23 = .ok (.istore 4, 2) := by decide +kernel
theorem dX7_pass_25 : decode cX7_pass 25 = .ok (.aload_n 0, 1) := by decide +kernel
theorem dX7_pass_26 : decode cX7_pass 26 = .ok (.getfield 24, 3) := by decide +kernel
theorem dX7_pass_29 : decode cX7_pass 29 = .ok (.iconst 0, 1) := by decide +kernel
theorem dX7_pass_30 : decode cX7_pass 30 = .ok (.baload, 1) := by decide +kernel
theorem dX7_pass_31 : decode cX7_pass 31 = .ok (.istore 5, 2) := by decide +kernel
theorem dX7_pass_33 : decode cX7_pass 33 = .ok (.aload_n 0, 1) := by decide +kernel
theorem dX7_pass_34 : decode cX7_pass 34 = .ok (.getfield 24, 3) := by decide +kernel
theorem dX7_pass_37 : decode cX7_pass 37 = .ok (.iconst 2, 1) := by decide +kernel
theorem dX7_pass_38 : decode cX7_pass 38 = .ok (.baload, 1) := by decide +kernel
theorem dX7_pass_39 : decode cX7_pass 39 = .ok (.istore 6, 2) := by decide +kernel
theorem dX7_pass_41 : decode cX7_pass 41 = .ok (.aload_n 0, 1) := by decide +kernel
theorem dX7_pass_42 : decode cX7_pass 42 = .ok (.getfield 24, 3) := by decide +kernel
theorem dX7_pass_45 : decode cX7_pass 45 = .ok (.iconst 4, 1) := by decide +kernel
theorem dX7_pass_46 : decode cX7_pass 46 = .ok (.baload, 1) := by decide +kernel
theorem dX7_pass_47 : decode cX7_pass 47 = .ok (.istore 7, 2) := by decide +kernel
theorem dX7_pass_49 : decode cX7_pass 49 = .ok (.aload_n 0, 1) := by decide +kernel
theorem dX7_pass_50 : decode cX7_pass 50 = .ok (.getfield 24, 3) := by decide +kernel
theorem dX7_pass_53 : decode cX7_pass 53 = .ok (.bipush 6, 2) := by decide +kernel
theorem dX7_pass_55 : decode cX7_pass 55 = .ok (.baload, 1) := by decide +kernel
theorem dX7_pass_56 : decode cX7_pass 56 = .ok (.istore 8, 2) := by decide +kernel
theorem dX7_pass_58 : decode cX7_pass 58 = .ok (.iload_n 1, 1) := by decide +kernel
theorem dX7_pass_59 : decode cX7_pass 59 = .ok (.ifCond .eq 41, 3) := by decide +kernel
theorem dX7_pass_62 : decode cX7_pass 62 = .ok (.iload 6, 2) := by decide +kernel
theorem dX7_pass_64 : decode cX7_pass 64 = .ok (.ifCond .eq 13, 3) := by decide +kernel
theorem dX7_pass_67 : decode cX7_pass 67 = .ok (.iload 5, 2) := by decide +kernel
theorem dX7_pass_69 : decode cX7_pass 69 = .ok (.ifCond .eq 8, 3) := by decide +kernel
theorem dX7_pass_72 : decode cX7_pass 72 = .ok (.iload 8, 2) := by decide +kernel
theorem dX7_pass_74 : decode cX7_pass 74 = .ok (.ifCond .ne 18, 3) := by decide +kernel
theorem dX7_pass_77 : decode cX7_pass 77 = .ok (.iload 5, 2) := by decide +kernel
theorem dX7_pass_79 : decode cX7_pass 79 = .ok (.ifCond .eq 17, 3) := by decide +kernel
theorem dX7_pass_82 : decode cX7_pass 82 = .ok (.iload 8, 2) := by decide +kernel
theorem dX7_pass_84 : decode cX7_pass 84 = .ok (.ifCond .eq 12, 3) := by decide +kernel
theorem dX7_pass_87 : decode cX7_pass 87 = .ok (.iload 7, 2) := by decide +kernel
theorem dX7_pass_89 : decode cX7_pass 89 = .ok (.ifCond .eq 7, 3) := by decide +kernel
theorem dX7_pass_92 : decode cX7_pass 92 = .ok (.iconst 1, 1) := by decide +kernel
theorem dX7_pass_93 : decode cX7_pass 93 = .ok (.goto 42, 3) := by decide +kernel
theorem dX7_pass_96 : decode cX7_pass 96 = .ok (.iconst 0, 1) := by decide +kernel
theorem dX7_pass_97 : decode cX7_pass 97 = .ok (.goto 38, 3) := by decide +kernel
theorem dX7_pass_100 : decode cX7_pass 100 = .ok (.iload 6, 2) := by decide +kernel
theorem dX7_pass_102 : decode cX7_pass 102 = .ok (.ifCond .eq 13, 3) := by decide +kernel
theorem dX7_pass_105 : decode cX7_pass 105 = .ok (.iload 5, 2) := by decide +kernel
theorem dX7_pass_107 : decode cX7_pass 107 = .ok (.ifCond .eq 8, 3) := by decide +kernel
theorem dX7_pass_110 : decode cX7_pass 110 = .ok (.iload 7, 2) := by decide +kernel
theorem dX7_pass_112 : decode cX7_pass 112 = .ok (.ifCond .ne 18, 3) := by decide +kernel
theorem dX7_pass_115 : decode cX7_pass 115 = .ok (.iload 6, 2) := by decide +kernel
theorem dX7_pass_117 : decode cX7_pass 117 = .ok (.ifCond .eq 17, 3) := by decide +kernel
theorem dX7_pass_120 : decode cX7_pass 120 = .ok (.iload 8, 2) := by decide +kernel
theorem dX7_pass_122 : decode cX7_pass 122 = .ok (.ifCond .eq 12, 3) := by decide +kernel
theorem dX7_pass_125 : decode cX7_pass 125 = .ok (.iload 7, 2) := by decide +kernel
theorem dX7_pass_127 : decode cX7_pass 127 = .ok (.ifCond .eq 7, 3) := by decide +kernel
theorem dX7_pass_130 : decode cX7_pass 130 = .ok (.iconst 1, 1) := by decide +kernel
theorem dX7_pass_131 : decode cX7_pass 131 = .ok (.goto 4, 3) := by decide +kernel
theorem dX7_pass_134 : decode cX7_pass 134 = .ok (.iconst 0, 1) := by decide +kernel
theorem dX7_pass_135 : decode cX7_pass 135 = .ok (.istore 9, 2) := by decide +kernel
theorem dX7_pass_137 : decode cX7_pass 137 = .ok (.aload_n 0, 1) := by decide +kernel
theorem dX7_pass_138 : decode cX7_pass 138 = .ok (.getfield 21, 3) := by decide +kernel
theorem dX7_pass_141 : decode cX7_pass 141 = .ok (.iload_n 3, 1) := by decide +kernel
theorem dX7_pass_142 : decode cX7_pass 142 = .ok (.aload_n 0, 1) := by decide +kernel
theorem dX7_pass_143 : decode cX7_pass 143 = .ok (.getfield 17, 3) := by decide +kernel
theorem dX7_pass_146 : decode cX7_pass 146 = .ok (.iload_n 3, 1) := by decide +kernel
theorem dX7_pass_147 : decode cX7_pass 147 = .ok (.baload, 1) := by decide +kernel
theorem dX7_pass_148 : decode cX7_pass 148 = .ok (.ifCond .eq 33, 3) := by decide +kernel
theorem dX7_pass_151 : decode cX7_pass 151 = .ok (.iload 4, 2) := by decide +kernel
theorem dX7_pass_153 : decode cX7_pass 153 = .ok (.iconst 2, 1) := by decide +kernel
theorem dX7_pass_154 : decode cX7_pass 154 = .ok (.if_icmp .lt 27, 3) := by decide +kernel
theorem dX7_pass_157 : decode cX7_pass 157 = .ok (.iload 4, 2) := by decide +kernel
theorem dX7_pass_159 : decode cX7_pass 159 = .ok (.bipush 6, 2) := by decide +kernel
theorem dX7_pass_161 : decode cX7_pass 161 = .ok (.if_icmp .gt 20, 3) := by decide +kernel
theorem dX7_pass_164 : decode cX7_pass 164 = .ok (.aload_n 0, 1) := by decide +kernel
theorem dX7_pass_165 : decode cX7_pass 165 = .ok (.invokevirtual 91, 3) := by decide +kernel
theorem dX7_pass_168 : decode cX7_pass 168 = .ok (.iconst 1, 1) := by decide +kernel
theorem dX7_pass_169 : decode cX7_pass 169 = .ok (.if_icmp .ne 12, 3) := by decide +kernel
theorem dX7_pass_172 : decode cX7_pass 172 = .ok (.iload 9, 2) := by decide +kernel
theorem dX7_pass_174 : decode cX7_pass 174 = .ok (.ifCond .ne 7, 3) := by decide +kernel
theorem dX7_pass_177 : decode cX7_pass 177 = .ok (.iconst 1, 1) := by decide +kernel
theorem dX7_pass_178 : decode cX7_pass 178 = .ok (.goto 4, 3) := by decide +kernel
theorem dX7_pass_181 : decode cX7_pass 181 = .ok (.iconst 0, 1) := by decide +kernel
theorem dX7_pass_182 : decode cX7_pass 182 = .ok (.bastore, 1) := by decide +kernel
theorem dX7_pass_183 : decode cX7_pass 183 = .ok (.iload_n 2, 1) := by decide +kernel
theorem dX7_pass_184 : decode cX7_pass 184 = .ok (.ifCond .ne 12, 3) := by decide +kernel
theorem dX7_pass_187 : decode cX7_pass 187 = .ok (.aload_n 0, 1) := by decide +kernel
theorem dX7_pass_188 : decode cX7_pass 188 = .ok (.getfield 21, 3) := by decide +kernel
theorem dX7_pass_191 : decode cX7_pass 191 = .ok (.iload_n 3, 1) := by decide +kernel
theorem dX7_pass_192 : decode cX7_pass 192 = .ok (.baload, 1) := by decide +kernel
theorem dX7_pass_193 : decode cX7_pass 193 = .ok (.ifCond .eq 7, 3) := by decide +kernel
theorem dX7_pass_196 : decode cX7_pass 196 = .ok (.iconst 1, 1) := by decide +kernel
theorem dX7_pass_197 : decode cX7_pass 197 = .ok (.goto 4, 3) := by decide +kernel
theorem dX7_pass_200 : decode cX7_pass 200 = .ok (.iconst 0, 1) := by decide +kernel
theorem dX7_pass_201 : decode cX7_pass 201 = .ok (.istore_n 2, 1) := by decide +kernel
theorem dX7_pass_202 : decode cX7_pass 202 = .ok (.iinc 3 1, 3) := by decide +kernel
theorem dX7_pass_205 : decode cX7_pass 205 = .ok (.goto (-201), 3) := by decide +kernel
theorem dX7_pass_208 : decode cX7_pass 208 = .ok (.iconst 0, 1) := by decide +kernel
theorem dX7_pass_209 : decode cX7_pass 209 = .ok (.istore_n 3, 1) := by decide +kernel
theorem dX7_pass_210 : decode cX7_pass 210 = .ok (.iload_n 3, 1) := by decide +kernel
theorem dX7_pass_211 : decode cX7_pass 211 = .ok (.sipush 576, 3) := by decide +kernel
theorem dX7_pass_214 : decode cX7_pass 214 = .ok (.if_icmp .ge 38, 3) := by decide +kernel
theorem dX7_pass_217 : decode cX7_pass 217 = .ok (.aload_n 0, 1) := by decide +kernel
theorem dX7_pass_218 : decode cX7_pass 218 = .ok (.getfield 17, 3) := by decide +kernel
theorem dX7_pass_221 : decode cX7_pass 221 = .ok (.iload_n 3, 1) := by decide +kernel
theorem dX7_pass_222 : decode cX7_pass 222 = .ok (.aload_n 0, 1) := by decide +kernel
theorem dX7_pass_223 : decode cX7_pass 223 = .ok (.getfield 17, 3) := by decide +kernel
theorem dX7_pass_226 : decode cX7_pass 226 = .ok (.iload_n 3, 1) := by decide +kernel
theorem dX7_pass_227 : decode cX7_pass 227 = .ok (.baload, 1) := by decide +kernel
theorem dX7_pass_228 : decode cX7_pass 228 = .ok (.ifCond .eq 16, 3) := by decide +kernel
theorem dX7_pass_231 : decode cX7_pass 231 = .ok (.aload_n 0, 1) := by decide +kernel
theorem dX7_pass_232 : decode cX7_pass 232 = .ok (.getfield 21, 3) := by decide +kernel
theorem dX7_pass_235 : decode cX7_pass 235 = .ok (.iload_n 3, 1) := by decide +kernel
theorem dX7_pass_236 : decode cX7_pass 236 = .ok (.baload, 1) := by decide +kernel
theorem dX7_pass_237 : decode cX7_pass 237 = .ok (.ifCond .ne 7, 3) := by decide +kernel
theorem dX7_pass_240 : decode cX7_pass 240 = .ok (.iconst 1, 1) := by decide +kernel
theorem dX7_pass_241 : decode cX7_pass 241 = .ok (.goto 4, 3) := by decide +kernel
theorem dX7_pass_244 : decode cX7_pass 244 = .ok (.iconst 0, 1) := by decide +kernel
theorem dX7_pass_245 : decode cX7_pass 245 = .ok (.bastore, 1) := by decide +kernel
theorem dX7_pass_246 : decode cX7_pass 246 = .ok (.iinc 3 1, 3) := by decide +kernel
theorem dX7_pass_249 : decode cX7_pass 249 = .ok (.goto (-39), 3) := by decide +kernel
theorem dX7_pass_252 : decode cX7_pass 252 = .ok (.iload_n 2, 1) := by decide +kernel
theorem dX7_pass_253 : decode cX7_pass 253 = .ok (.ireturn, 1) := by decide +kernel
set_option maxRecDepth 20000 in
theorem ggX7_thinOut_X7_pass : GoodIn wsX7_thinOut wsX7_pass := goodIn_r _ [7, 8, 9, 1, 10, 11, 12, 6, 13, 14, 15, 16, 17, 18, 19, 20, 21, 22, 23, 24, 25, 26, 27, 28, 29, 30, 31, 32, 33, 34, 35, 36, 37, 38, 39, 40, 41, 42, 43, 44, 45, 46, 47, 48, 49, 50, 51] (by decide +kernel) (by decide +kernel)
set_option maxRecDepth 20000 in
theorem gX7_thinOut_X7_pass : GoodIn wsX7_thinOut (wsV RX7 95 RX7 yX7_pass wsX7_pass) := goodIn_app (goodIn_of _ (by decide +kernel)) ggX7_thinOut_X7_pass
theorem dX7_thinOut_0 : decode cX7_thinOut 0 = .ok (.iconst 0, 1) := by decide +kernel
theorem dX7_thinOut_1 : decode cX7_thinOut 1 = .ok (.istore_n 2, 1) := by decide +kernel
theorem dX7_thinOut_2 : decode cX7_thinOut 2 = .ok (.iload_n 2, 1) := by decide +kernel
theorem dX7_thinOut_3 : decode cX7_thinOut 3 = .ok (.sipush 576, 3) := by decide +kernel
theorem dX7_thinOut_6 : decode cX7_thinOut 6 = .ok (.if_icmp .ge 45, 3) := by decide +kernel
theorem dX7_thinOut_9 : decode cX7_thinOut 9 = .ok (.aload_n 0, 1) := by decide +kernel
theorem dX7_thinOut_10 : decode cX7_thinOut 10 = .ok (.getfield 17, 3) := by decide +kernel
theorem dX7_thinOut_13 : decode cX7_thinOut 13 = .ok (.iload_n 2, 1) := by decide +kernel
theorem dX7_thinOut_14 : decode cX7_thinOut 14 = .ok (.aload_n 0, 1) := by decide +kernel
theorem dX7_thinOut_15 : decode cX7_thinOut 15 = .ok (.getfield 7, 3) := by decide +kernel
theorem dX7_thinOut_18 : decode cX7_thinOut 18 = .ok (.bipush 24, 2) := by decide +kernel
theorem dX7_thinOut_20 : decode cX7_thinOut 20 = .ok (.iload_n 1, 1) := by decide +kernel
theorem dX7_thinOut_21 : decode cX7_thinOut 21 = .ok (.imul, 1) := by decide +kernel
theorem dX7_thinOut_22 : decode cX7_thinOut 22 = .ok (.iload_n 2, 1) := by decide +kernel
theorem dX7_thinOut_23 : decode cX7_thinOut 23 = .ok (.bipush 24, 2) := by decide +kernel
theorem dX7_thinOut_25 : decode cX7_thinOut 25 = .ok (.idiv, 1) := by decide +kernel
theorem dX7_thinOut_26 : decode cX7_thinOut 26 = .ok (.iadd, 1) := by decide +kernel
theorem dX7_thinOut_27 : decode cX7_thinOut 27 = .ok (.iaload, 1) := by decide +kernel
theorem dX7_thinOut_28 : decode cX7_thinOut 28 = .ok (.iload_n 2, 1) := by decide +kernel
theorem dX7_thinOut_29 : decode cX7_thinOut 29 = .ok (.bipush 24, 2) := by decide +kernel
theorem dX7_thinOut_31 : decode cX7_thinOut 31 = .ok (.irem, 1) := by decide +kernel
theorem dX7_thinOut_32 : decode cX7_thinOut 32 = .ok (.ishr, 1) := by decide +kernel
theorem dX7_thinOut_33 : decode cX7_thinOut 33 = .ok (.iconst 1, 1) := by decide +kernel
theorem dX7_thinOut_34 : decode cX7_thinOut 34 = .ok (.iand, 1) := by decide +kernel
theorem dX7_thinOut_35 : decode cX7_thinOut 35 = .ok (.iconst 1, 1) := by decide +kernel
theorem dX7_thinOut_36 : decode cX7_thinOut 36 = .ok (.if_icmp .ne 7, 3) := by decide +kernel
theorem dX7_thinOut_39 : decode cX7_thinOut 39 = .ok (.iconst 1, 1) := by decide +kernel
theorem dX7_thinOut_40 : decode cX7_thinOut 40 = .ok (.goto 4, 3) := by decide +kernel
theorem dX7_thinOut_43 : decode cX7_thinOut 43 = .ok (.iconst 0, 1) := by decide +kernel
theorem dX7_thinOut_44 : decode cX7_thinOut 44 = .ok (.bastore, 1) := by decide +kernel
theorem dX7_thinOut_45 : decode cX7_thinOut 45 = .ok (.iinc 2 1, 3) := by decide +kernel
theorem dX7_thinOut_48 : decode cX7_thinOut 48 = .ok (.goto (-46), 3) := by decide +kernel
theorem dX7_thinOut_51 : decode cX7_thinOut 51 = .ok (.iconst 1, 1) := by decide +kernel
theorem dX7_thinOut_52 : decode cX7_thinOut 52 = .ok (.istore_n 2, 1) := by decide +kernel
theorem dX7_thinOut_53 : decode cX7_thinOut 53 = .ok (.iload_n 2, 1) := by decide +kernel
theorem dX7_thinOut_54 : decode cX7_thinOut 54 = .ok (.ifCond .eq 30, 3) := by decide +kernel
theorem dX7_thinOut_57 : decode cX7_thinOut 57 = .ok (.aload_n 0, 1) := by decide +kernel
theorem dX7_thinOut_58 : decode cX7_thinOut 58 = .ok (.iconst 1, 1) := by decide +kernel
theorem dX7_thinOut_59 : decode cX7_thinOut 59 = .ok (.invokevirtual 95, 3) := by decide +kernel
theorem dX7_thinOut_62 : decode cX7_thinOut 62 = .ok (.istore_n 2, 1) := by decide +kernel
theorem dX7_thinOut_63 : decode cX7_thinOut 63 = .ok (.aload_n 0, 1) := by decide +kernel
theorem dX7_thinOut_64 : decode cX7_thinOut 64 = .ok (.iconst 0, 1) := by decide +kernel
theorem dX7_thinOut_65 : decode cX7_thinOut 65 = .ok (.invokevirtual 95, 3) := by decide +kernel
theorem dX7_thinOut_68 : decode cX7_thinOut 68 = .ok (.ifCond .ne 7, 3) := by decide +kernel
theorem dX7_thinOut_71 : decode cX7_thinOut 71 = .ok (.iload_n 2, 1) := by decide +kernel
theorem dX7_thinOut_72 : decode cX7_thinOut 72 = .ok (.ifCond .eq 7, 3) := by decide +kernel
theorem dX7_thinOut_75 : decode cX7_thinOut 75 = .ok (.iconst 1, 1) := by decide +kernel
theorem dX7_thinOut_76 : decode cX7_thinOut 76 = .ok (.goto 4, 3) := by decide +kernel
theorem dX7_thinOut_79 : decode cX7_thinOut 79 = .ok (.iconst 0, 1) := by decide +kernel
theorem dX7_thinOut_80 : decode cX7_thinOut 80 = .ok (.istore_n 2, 1) := by decide +kernel
theorem dX7_thinOut_81 : decode cX7_thinOut 81 = .ok (.goto (-28), 3) := by decide +kernel
theorem dX7_thinOut_84 : decode cX7_thinOut 84 = .ok (.return_, 1) := by decide +kernel
set_option maxRecDepth 20000 in
theorem ggX7_cell_X7_isPrint : GoodIn wsX7_cell wsX7_isPrint := goodIn_r _ [8, 9, 10, 11, 7, 12, 41, 42, 43, 44, 45, 46, 47, 48, 49, 50, 51, 52, 53, 54, 55, 56, 57, 58, 59, 60, 61] (by decide +kernel) (by decide +kernel)
set_option maxRecDepth 20000 in
theorem gX7_cell_X7_isPrint : GoodIn wsX7_cell (wsV RX7 77 RX7 yX7_isPrint wsX7_isPrint) := goodIn_app (goodIn_of _ (by decide +kernel)) ggX7_cell_X7_isPrint
set_option maxRecDepth 20000 in
theorem ggX7_cell_X7_isPlace : GoodIn wsX7_cell wsX7_isPlace := goodIn_r _ [15, 16, 10, 11, 7, 12] (by decide +kernel) (by decide +kernel)
set_option maxRecDepth 20000 in
theorem gX7_cell_X7_isPlace : GoodIn wsX7_cell (va_wsS RX7 73 yX7_isPlace wsX7_isPlace) := goodIn_app (goodIn_of _ (by decide +kernel)) ggX7_cell_X7_isPlace
set_option maxRecDepth 20000 in
theorem ggX7_cell_X7_in : GoodIn wsX7_cell wsX7_in := goodIn_r _ [12] (by decide +kernel) (by decide +kernel)
set_option maxRecDepth 20000 in
theorem gX7_cell_X7_in : GoodIn wsX7_cell (va_wsS RX7 63 yX7_in wsX7_in) := goodIn_app (goodIn_of _ (by decide +kernel)) ggX7_cell_X7_in
set_option maxRecDepth 20000 in
theorem ggX7_cell_X7_thinOut : GoodIn wsX7_cell wsX7_thinOut := goodIn_r _ [20, 3, 2, 21, 22, 23, 7, 24, 25, 26, 27, 28, 29, 30, 31, 32, 33, 34, 35, 36, 13, 14, 15, 16, 10, 11, 12, 37, 38, 39, 40, 41, 42, 43, 44, 45, 46, 47, 48, 49, 50, 51, 52, 53, 54, 55, 56, 57, 58, 59, 60, 61] (by decide +kernel) (by decide +kernel)
set_option maxRecDepth 20000 in
theorem gX7_cell_X7_thinOut : GoodIn wsX7_cell (wsV RX7 99 RX7 yX7_thinOut wsX7_thinOut) := goodIn_app (goodIn_of _ (by decide +kernel)) ggX7_cell_X7_thinOut
theorem dX7_cell_0 : decode cX7_cell 0 = .ok (.aload_n 0, 1) := by decide +kernel
theorem dX7_cell_1 : decode cX7_cell 1 = .ok (.iconst 0, 1) := by decide +kernel
theorem dX7_cell_2 : decode cX7_cell 2 = .ok (.putfield 54, 3) := by decide +kernel
theorem dX7_cell_5 : decode cX7_cell 5 = .ok (.aload_n 0, 1) := by decide +kernel
theorem dX7_cell_6 : decode cX7_cell 6 = .ok (.iload_n 1, 1) := by decide +kernel
theorem dX7_cell_7 : decode cX7_cell 7 = .ok (.invokevirtual 77, 3) := by decide +kernel
theorem dX7_cell_10 : decode cX7_cell 10 = .ok (.ifCond .eq 28, 3) := by decide +kernel
theorem dX7_cell_13 : decode cX7_cell 13 = .ok (.iload_n 2, 1) := by decide +kernel
theorem dX7_cell_14 : decode cX7_cell 14 = .ok (.invokestatic 73, 3) := by decide +kernel
theorem dX7_cell_17 : decode cX7_cell 17 = .ok (.ifCond .eq 21, 3) := by decide +kernel
theorem dX7_cell_20 : decode cX7_cell 20 = .ok (.iload_n 3, 1) := by decide +kernel
theorem dX7_cell_21 : decode cX7_cell 21 = .ok (.invokestatic 73, 3) := by decide +kernel
theorem dX7_cell_24 : decode cX7_cell 24 = .ok (.ifCond .eq 14, 3) := by decide +kernel
theorem dX7_cell_27 : decode cX7_cell 27 = .ok (.iload 4, 2) := by decide +kernel
theorem dX7_cell_29 : decode cX7_cell 29 = .ok (.i2l, 1) := by decide +kernel
theorem dX7_cell_30 : decode cX7_cell 30 = .ok (.lconst 0, 1) := by decide +kernel
theorem dX7_cell_31 : decode cX7_cell 31 = .ok (.lconst 1, 1) := by decide +kernel
theorem dX7_cell_32 : decode cX7_cell 32 = .ok (.invokestatic 63, 3) := by decide +kernel
theorem dX7_cell_35 : decode cX7_cell 35 = .ok (.ifCond .ne 5, 3) := by decide +kernel
theorem dX7_cell_38 : decode cX7_cell 38 = .ok (.iconst (-1), 1) := by decide +kernel
theorem dX7_cell_39 : decode cX7_cell 39 = .ok (.ireturn, 1) := by decide +kernel
theorem dX7_cell_40 : decode cX7_cell 40 = .ok (.iload 4, 2) := by decide +kernel
theorem dX7_cell_42 : decode cX7_cell 42 = .ok (.ifCond .ne 19, 3) := by decide +kernel
theorem dX7_cell_45 : decode cX7_cell 45 = .ok (.aload_n 0, 1) := by decide +kernel
theorem dX7_cell_46 : decode cX7_cell 46 = .ok (.getfield 7, 3) := by decide +kernel
theorem dX7_cell_49 : decode cX7_cell 49 = .ok (.bipush 24, 2) := by decide +kernel
theorem dX7_cell_51 : decode cX7_cell 51 = .ok (.iload_n 1, 1) := by decide +kernel
theorem dX7_cell_52 : decode cX7_cell 52 = .ok (.imul, 1) := by decide +kernel
theorem dX7_cell_53 : decode cX7_cell 53 = .ok (.iload_n 3, 1) := by decide +kernel
theorem dX7_cell_54 : decode cX7_cell 54 = .ok (.iadd, 1) := by decide +kernel
theorem dX7_cell_55 : decode cX7_cell 55 = .ok (.iaload, 1) := by decide +kernel
theorem dX7_cell_56 : decode cX7_cell 56 = .ok (.iload_n 2, 1) := by decide +kernel
theorem dX7_cell_57 : decode cX7_cell 57 = .ok (.ishr, 1) := by decide +kernel
theorem dX7_cell_58 : decode cX7_cell 58 = .ok (.iconst 1, 1) := by decide +kernel
theorem dX7_cell_59 : decode cX7_cell 59 = .ok (.iand, 1) := by decide +kernel
theorem dX7_cell_60 : decode cX7_cell 60 = .ok (.ireturn, 1) := by decide +kernel
theorem dX7_cell_61 : decode cX7_cell 61 = .ok (.aload_n 0, 1) := by decide +kernel
theorem dX7_cell_62 : decode cX7_cell 62 = .ok (.iload_n 1, 1) := by decide +kernel
theorem dX7_cell_63 : decode cX7_cell 63 = .ok (.invokevirtual 99, 3) := by decide +kernel
theorem dX7_cell_66 : decode cX7_cell 66 = .ok (.aload_n 0, 1) := by decide +kernel
theorem dX7_cell_67 : decode cX7_cell 67 = .ok (.getfield 17, 3) := by decide +kernel
theorem dX7_cell_70 : decode cX7_cell 70 = .ok (.bipush 24, 2) := by decide +kernel
theorem dX7_cell_72 : decode cX7_cell 72 = .ok (.iload_n 3, 1) := by decide +kernel
theorem dX7_cell_73 : decode cX7_cell 73 = .ok (.imul, 1) := by decide +kernel
theorem dX7_cell_74 : decode cX7_cell 74 = .ok (.iload_n 2, 1) := by decide +kernel
theorem dX7_cell_75 : decode cX7_cell 75 = .ok (.iadd, 1) := by decide +kernel
theorem dX7_cell_76 : decode cX7_cell 76 = .ok (.baload, 1) := by decide +kernel
theorem dX7_cell_77 : decode cX7_cell 77 = .ok (.ifCond .eq 7, 3) := by decide +kernel
theorem dX7_cell_80 : decode cX7_cell 80 = .ok (.iconst 1, 1) := by decide +kernel
theorem dX7_cell_81 : decode cX7_cell 81 = .ok (.goto 4, 3) := by decide +kernel
theorem dX7_cell_84 : decode cX7_cell 84 = .ok (.iconst 0, 1) := by decide +kernel
theorem dX7_cell_85 : decode cX7_cell 85 = .ok (.ireturn, 1) := by decide +kernel
set_option maxRecDepth 20000 in
theorem ggX7_thin_X7_isPrint : GoodIn wsX7_thin wsX7_isPrint := goodIn_r _ [7, 8, 9, 10, 6, 11, 41, 42, 43, 44, 45, 46, 47, 48, 49, 50, 51, 52, 53, 54, 55, 56, 57, 58, 59, 60, 61] (by decide +kernel) (by decide +kernel)
set_option maxRecDepth 20000 in
theorem gX7_thin_X7_isPrint : GoodIn wsX7_thin (wsV RX7 77 RX7 yX7_isPrint wsX7_isPrint) := goodIn_app (goodIn_of _ (by decide +kernel)) ggX7_thin_X7_isPrint
set_option maxRecDepth 20000 in
theorem ggX7_thin_X7_isPlace : GoodIn wsX7_thin wsX7_isPlace := goodIn_r _ [14, 15, 9, 10, 6, 11] (by decide +kernel) (by decide +kernel)
set_option maxRecDepth 20000 in
theorem gX7_thin_X7_isPlace : GoodIn wsX7_thin (va_wsS RX7 73 yX7_isPlace wsX7_isPlace) := goodIn_app (goodIn_of _ (by decide +kernel)) ggX7_thin_X7_isPlace
set_option maxRecDepth 20000 in
theorem ggX7_thin_X7_thinOut : GoodIn wsX7_thin wsX7_thinOut := goodIn_r _ [19, 2, 20, 21, 22, 23, 6, 24, 25, 26, 27, 28, 29, 30, 31, 32, 33, 34, 35, 36, 12, 13, 14, 15, 9, 10, 11, 37, 38, 39, 40, 41, 42, 43, 44, 45, 46, 47, 48, 49, 50, 51, 52, 53, 54, 55, 56, 57, 58, 59, 60, 61] (by decide +kernel) (by decide +kernel)
set_option maxRecDepth 20000 in
theorem gX7_thin_X7_thinOut : GoodIn wsX7_thin (wsV RX7 99 RX7 yX7_thinOut wsX7_thinOut) := goodIn_app (goodIn_of _ (by decide +kernel)) ggX7_thin_X7_thinOut
theorem dX7_thin_0 : decode cX7_thin 0 = .ok (.aload_n 0, 1) := by decide +kernel
theorem dX7_thin_1 : decode cX7_thin 1 = .ok (.iconst 0, 1) := by decide +kernel
theorem dX7_thin_2 : decode cX7_thin 2 = .ok (.putfield 54, 3) := by decide +kernel
theorem dX7_thin_5 : decode cX7_thin 5 = .ok (.aload_n 0, 1) := by decide +kernel
theorem dX7_thin_6 : decode cX7_thin 6 = .ok (.iload_n 1, 1) := by decide +kernel
theorem dX7_thin_7 : decode cX7_thin 7 = .ok (.invokevirtual 77, 3) := by decide +kernel
theorem dX7_thin_10 : decode cX7_thin 10 = .ok (.ifCond .eq 10, 3) := by decide +kernel
theorem dX7_thin_13 : decode cX7_thin 13 = .ok (.iload_n 2, 1) := by decide +kernel
theorem dX7_thin_14 : decode cX7_thin 14 = .ok (.invokestatic 73, 3) := by decide +kernel
theorem dX7_thin_17 : decode cX7_thin 17 = .ok (.ifCond .ne 5, 3) := by decide +kernel
theorem dX7_thin_20 : decode cX7_thin 20 = .ok (.iconst 0, 1) := by decide +kernel
theorem dX7_thin_21 : decode cX7_thin 21 = .ok (.ireturn, 1) := by decide +kernel
theorem dX7_thin_22 : decode cX7_thin 22 = .ok (.aload_n 0, 1) := by decide +kernel
theorem dX7_thin_23 : decode cX7_thin 23 = .ok (.iload_n 1, 1) := by decide +kernel
theorem dX7_thin_24 : decode cX7_thin 24 = .ok (.invokevirtual 99, 3) := by decide +kernel
theorem dX7_thin_27 : decode cX7_thin 27 = .ok (.iconst 0, 1) := by decide +kernel
