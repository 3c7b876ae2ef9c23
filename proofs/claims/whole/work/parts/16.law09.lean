set_option maxRecDepth 20000 in
theorem gL_law_X7_within : GoodIn wsL_law (wsV RL 41 RX7 yX7_within wsX7_within) := goodIn_app (goodIn_of _ (by decide +kernel)) ggL_law_X7_within
set_option maxRecDepth 20000 in
theorem ggL_law_X6_pairs_c : GoodIn wsL_law [Cond.code yX6_pairs cX6_pairs 8 (some .int)] := goodIn_r _ [302] (by decide +kernel) (by decide +kernel)
set_option maxRecDepth 20000 in
theorem ggL_law_X6_pairs_r1 : GoodIn wsL_law wsX6_pairs_r1 := goodIn_r _ [23, 27, 161, 162, 163, 2, 164, 165, 19, 131, 132, 133, 134, 26, 13, 166, 167, 168, 18, 169, 170, 171, 172, 173] (by decide +kernel) (by decide +kernel)
set_option maxRecDepth 20000 in
theorem ggL_law_X6_pairs_r2 : GoodIn wsL_law wsX6_pairs_r2 := goodIn_r _ [174, 175, 176, 177, 178, 179, 180, 35, 37, 181, 182, 183, 34, 184, 48, 41, 45, 46, 47, 185, 186, 187, 188, 189] (by decide +kernel) (by decide +kernel)
set_option maxRecDepth 20000 in
theorem ggL_law_X6_pairs_r3 : GoodIn wsL_law wsX6_pairs_r3 := goodIn_r _ [190, 44, 191, 52, 53, 54, 192, 193, 194, 195, 196, 197, 198, 199, 200, 201, 202, 203, 204, 205, 206, 207, 208, 209] (by decide +kernel) (by decide +kernel)
set_option maxRecDepth 20000 in
theorem ggL_law_X6_pairs_r4 : GoodIn wsL_law wsX6_pairs_r4 := goodIn_r _ [210, 211, 95, 212, 108, 109, 213, 214, 215, 216, 217, 218, 219, 220, 221, 222, 223, 224, 225, 226, 227, 228, 229, 105] (by decide +kernel) (by decide +kernel)
set_option maxRecDepth 20000 in
theorem ggL_law_X6_pairs_r5 : GoodIn wsL_law wsX6_pairs_r5 := goodIn_r _ [106, 107, 303, 304, 305, 306, 307, 308, 22, 309, 310, 311, 312, 313, 314, 69, 61, 62, 63, 315, 316, 317, 318, 319] (by decide +kernel) (by decide +kernel)
set_option maxRecDepth 20000 in
theorem ggL_law_X6_pairs_r6 : GoodIn wsL_law wsX6_pairs_r6 := goodIn_r _ [320, 321, 58, 59, 60, 322, 323, 324, 325, 326, 327, 328, 329, 330, 331, 332, 333, 334, 335, 70, 65, 64, 336, 337] (by decide +kernel) (by decide +kernel)
set_option maxRecDepth 20000 in
theorem ggL_law_X6_pairs_r7 : GoodIn wsL_law wsX6_pairs_r7 := goodIn_r _ [338, 339, 340, 341, 342, 343, 344, 345, 346, 347, 348, 349, 350, 68, 351, 67, 66, 352, 353, 354, 355, 356, 357, 358] (by decide +kernel) (by decide +kernel)
set_option maxRecDepth 20000 in
theorem ggL_law_X6_pairs_X6 : GoodIn wsL_law wsX60 := goodIn_r _ [538, 539, 540, 541, 542, 543, 544, 545] (by decide +kernel) (by decide +kernel)
set_option maxRecDepth 20000 in
theorem ggL_law_X6_pairs_X0 : GoodIn wsL_law wsX00 := goodIn_r _ [590, 591, 592, 593, 594, 595, 596, 597, 598] (by decide +kernel) (by decide +kernel)
set_option maxRecDepth 20000 in
theorem ggL_law_X6_pairs_X5 : GoodIn wsL_law wsX50 := goodIn_r _ [567, 568] (by decide +kernel) (by decide +kernel)
set_option maxRecDepth 20000 in
theorem ggL_law_X6_pairs_X3 : GoodIn wsL_law wsX30 := goodIn_r _ [582, 583, 584, 585, 586] (by decide +kernel) (by decide +kernel)
set_option maxRecDepth 20000 in
theorem ggL_law_X6_pairs_X4 : GoodIn wsL_law wsX40 := goodIn_r _ [587, 588, 589] (by decide +kernel) (by decide +kernel)
set_option maxRecDepth 20000 in
theorem ggL_law_X6_pairs_X2 : GoodIn wsL_law wsX20 := goodIn_r _ [569, 570, 571, 572, 573, 574, 575, 576, 577, 578, 579, 580, 581] (by decide +kernel) (by decide +kernel)
theorem ggL_law_X6_pairs : GoodIn wsL_law wsX6_pairs := gi_cons ggL_law_X6_pairs_c (goodIn_app (goodIn_app (goodIn_app (goodIn_app (goodIn_app (goodIn_app (goodIn_app ggL_law_X6_pairs_r1 (goodIn_app ggL_law_X6_pairs_r2 (goodIn_app ggL_law_X6_pairs_r3 (goodIn_app ggL_law_X6_pairs_r4 (goodIn_app ggL_law_X6_pairs_r5 (goodIn_app ggL_law_X6_pairs_r6 ggL_law_X6_pairs_r7)))))) ggL_law_X6_pairs_X6) ggL_law_X6_pairs_X0) ggL_law_X6_pairs_X5) ggL_law_X6_pairs_X3) ggL_law_X6_pairs_X4) ggL_law_X6_pairs_X2)
set_option maxRecDepth 20000 in
theorem gL_law_X6_pairs : GoodIn wsL_law (wsV RL 42 RX6 yX6_pairs wsX6_pairs) := goodIn_app (goodIn_of _ (by decide +kernel)) ggL_law_X6_pairs
