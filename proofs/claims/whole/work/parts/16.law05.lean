set_option maxRecDepth 20000 in
theorem gL_law_X7_cell : GoodIn wsL_law (wsV RL 27 RX7 yX7_cell wsX7_cell) := goodIn_app (goodIn_of _ (by decide +kernel)) ggL_law_X7_cell
set_option maxRecDepth 20000 in
theorem ggL_law_X6_thin_c : GoodIn wsL_law [Cond.code yX6_thin cX6_thin 4 (some .int)] := goodIn_r _ [259] (by decide +kernel) (by decide +kernel)
set_option maxRecDepth 20000 in
theorem ggL_law_X6_thin_r1 : GoodIn wsL_law wsX6_thin_r1 := goodIn_r _ [160, 161, 162, 163, 2, 164, 165, 19, 131, 132, 133, 134, 26, 13, 166, 167, 168, 18, 169, 170, 171, 172, 173, 174] (by decide +kernel) (by decide +kernel)
set_option maxRecDepth 20000 in
theorem ggL_law_X6_thin_r2 : GoodIn wsL_law wsX6_thin_r2 := goodIn_r _ [175, 176, 177, 178, 179, 180, 35, 37, 181, 182, 183, 34, 184, 48, 41, 45, 46, 47, 185, 186, 187, 188, 189, 190] (by decide +kernel) (by decide +kernel)
set_option maxRecDepth 20000 in
theorem ggL_law_X6_thin_r3 : GoodIn wsL_law wsX6_thin_r3 := goodIn_r _ [44, 191, 52, 53, 54, 192, 193, 194, 195, 196, 197, 198, 199, 200, 201, 202, 203, 204, 205, 206, 207, 208, 209, 210] (by decide +kernel) (by decide +kernel)
set_option maxRecDepth 20000 in
theorem ggL_law_X6_thin_r4 : GoodIn wsL_law wsX6_thin_r4 := goodIn_r _ [211, 95, 212, 108, 109, 213, 214, 215, 216, 217, 218, 219, 220, 221, 222, 223, 224, 225, 226, 227, 228, 229, 105, 106] (by decide +kernel) (by decide +kernel)
set_option maxRecDepth 20000 in
theorem ggL_law_X6_thin_r5 : GoodIn wsL_law wsX6_thin_r5 := goodIn_r _ [107, 128, 129, 130] (by decide +kernel) (by decide +kernel)
set_option maxRecDepth 20000 in
theorem ggL_law_X6_thin_X0 : GoodIn wsL_law wsX00 := goodIn_r _ [590, 591, 592, 593, 594, 595, 596, 597, 598] (by decide +kernel) (by decide +kernel)
set_option maxRecDepth 20000 in
theorem ggL_law_X6_thin_X6 : GoodIn wsL_law wsX60 := goodIn_r _ [538, 539, 540, 541, 542, 543, 544, 545] (by decide +kernel) (by decide +kernel)
set_option maxRecDepth 20000 in
theorem ggL_law_X6_thin_X5 : GoodIn wsL_law wsX50 := goodIn_r _ [567, 568] (by decide +kernel) (by decide +kernel)
set_option maxRecDepth 20000 in
theorem ggL_law_X6_thin_X3 : GoodIn wsL_law wsX30 := goodIn_r _ [582, 583, 584, 585, 586] (by decide +kernel) (by decide +kernel)
set_option maxRecDepth 20000 in
theorem ggL_law_X6_thin_X4 : GoodIn wsL_law wsX40 := goodIn_r _ [587, 588, 589] (by decide +kernel) (by decide +kernel)
theorem ggL_law_X6_thin : GoodIn wsL_law wsX6_thin := gi_cons ggL_law_X6_thin_c (goodIn_app (goodIn_app (goodIn_app (goodIn_app (goodIn_app (goodIn_app ggL_law_X6_thin_r1 (goodIn_app ggL_law_X6_thin_r2 (goodIn_app ggL_law_X6_thin_r3 (goodIn_app ggL_law_X6_thin_r4 ggL_law_X6_thin_r5)))) ggL_law_X6_thin_X0) ggL_law_X6_thin_X6) ggL_law_X6_thin_X5) ggL_law_X6_thin_X3) ggL_law_X6_thin_X4)
set_option maxRecDepth 20000 in
theorem gL_law_X6_thin : GoodIn wsL_law (wsV RL 28 RX6 yX6_thin wsX6_thin) := goodIn_app (goodIn_of _ (by decide +kernel)) ggL_law_X6_thin
